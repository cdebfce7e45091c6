theorem dM_init_0 : decode kM_init 0 = .ok (.aload_n 0, 1) := by decide +kernel
theorem dM_init_1 : decode kM_init 1 = .ok (.invokespecial 1, 3) := by decide +kernel
theorem dM_init_4 : decode kM_init 4 = .ok (.aload_n 0, 1) := by decide +kernel
theorem dM_init_5 : decode kM_init 5 = .ok (.bipush 64, 2) := by decide +kernel
theorem dM_init_7 : decode kM_init 7 = .ok (.newarray .boolean, 2) := by decide +kernel
theorem dM_init_9 : decode kM_init 9 = .ok (.putfield 7, 3) := by decide +kernel
theorem dM_init_12 : decode kM_init 12 = .ok (.aload_n 0, 1) := by decide +kernel
theorem dM_init_13 : decode kM_init 13 = .ok (.bipush 64, 2) := by decide +kernel
theorem dM_init_15 : decode kM_init 15 = .ok (.newarray .int, 2) := by decide +kernel
theorem dM_init_17 : decode kM_init 17 = .ok (.putfield 13, 3) := by decide +kernel
theorem dM_init_20 : decode kM_init 20 = .ok (.aload_n 0, 1) := by decide +kernel
theorem dM_init_21 : decode kM_init 21 = .ok (.bipush 64, 2) := by decide +kernel
theorem dM_init_23 : decode kM_init 23 = .ok (.newarray .int, 2) := by decide +kernel
theorem dM_init_25 : decode kM_init 25 = .ok (.putfield 17, 3) := by decide +kernel
theorem dM_init_28 : decode kM_init 28 = .ok (.aload_n 0, 1) := by decide +kernel
theorem dM_init_29 : decode kM_init 29 = .ok (.bipush 64, 2) := by decide +kernel
theorem dM_init_31 : decode kM_init 31 = .ok (.newarray .int, 2) := by decide +kernel
theorem dM_init_33 : decode kM_init 33 = .ok (.putfield 20, 3) := by decide +kernel
theorem dM_init_36 : decode kM_init 36 = .ok (.aload_n 0, 1) := by decide +kernel
theorem dM_init_37 : decode kM_init 37 = .ok (.bipush 64, 2) := by decide +kernel
theorem dM_init_39 : decode kM_init 39 = .ok (.newarray .int, 2) := by decide +kernel
theorem dM_init_41 : decode kM_init 41 = .ok (.putfield 23, 3) := by decide +kernel
theorem dM_init_44 : decode kM_init 44 = .ok (.aload_n 0, 1) := by decide +kernel
theorem dM_init_45 : decode kM_init 45 = .ok (.sipush 8300, 3) := by decide +kernel
theorem dM_init_48 : decode kM_init 48 = .ok (.newarray .int, 2) := by decide +kernel
theorem dM_init_50 : decode kM_init 50 = .ok (.putfield 26, 3) := by decide +kernel
theorem dM_init_53 : decode kM_init 53 = .ok (.aload_n 0, 1) := by decide +kernel
theorem dM_init_54 : decode kM_init 54 = .ok (.sipush 8300, 3) := by decide +kernel
theorem dM_init_57 : decode kM_init 57 = .ok (.newarray .long, 2) := by decide +kernel
theorem dM_init_59 : decode kM_init 59 = .ok (.putfield 29, 3) := by decide +kernel
theorem dM_init_62 : decode kM_init 62 = .ok (.aload_n 0, 1) := by decide +kernel
theorem dM_init_63 : decode kM_init 63 = .ok (.sipush 8300, 3) := by decide +kernel
theorem dM_init_66 : decode kM_init 66 = .ok (.newarray .long, 2) := by decide +kernel
theorem dM_init_68 : decode kM_init 68 = .ok (.putfield 33, 3) := by decide +kernel
theorem dM_init_71 : decode kM_init 71 = .ok (.aload_n 0, 1) := by decide +kernel
theorem dM_init_72 : decode kM_init 72 = .ok (.sipush 8300, 3) := by decide +kernel
theorem dM_init_75 : decode kM_init 75 = .ok (.newarray .long, 2) := by decide +kernel
theorem dM_init_77 : decode kM_init 77 = .ok (.putfield 36, 3) := by decide +kernel
theorem dM_init_80 : decode kM_init 80 = .ok (.aload_n 0, 1) := by decide +kernel
theorem dM_init_81 : decode kM_init 81 = .ok (.sipush 8300, 3) := by decide +kernel
theorem dM_init_84 : decode kM_init 84 = .ok (.newarray .long, 2) := by decide +kernel
theorem dM_init_86 : decode kM_init 86 = .ok (.putfield 39, 3) := by decide +kernel
theorem dM_init_89 : decode kM_init 89 = .ok (.aload_n 0, 1) := by decide +kernel
theorem dM_init_90 : decode kM_init 90 = .ok (.sipush 9000, 3) := by decide +kernel
theorem dM_init_93 : decode kM_init 93 = .ok (.newarray .int, 2) := by decide +kernel
theorem dM_init_95 : decode kM_init 95 = .ok (.putfield 42, 3) := by decide +kernel
theorem dM_init_98 : decode kM_init 98 = .ok (.aload_n 0, 1) := by decide +kernel
theorem dM_init_99 : decode kM_init 99 = .ok (.sipush 140, 3) := by decide +kernel
theorem dM_init_102 : decode kM_init 102 = .ok (.newarray .int, 2) := by decide +kernel
theorem dM_init_104 : decode kM_init 104 = .ok (.putfield 45, 3) := by decide +kernel
theorem dM_init_107 : decode kM_init 107 = .ok (.aload_n 0, 1) := by decide +kernel
theorem dM_init_108 : decode kM_init 108 = .ok (.sipush 140, 3) := by decide +kernel
theorem dM_init_111 : decode kM_init 111 = .ok (.newarray .int, 2) := by decide +kernel
theorem dM_init_113 : decode kM_init 113 = .ok (.putfield 48, 3) := by decide +kernel
theorem dM_init_116 : decode kM_init 116 = .ok (.aload_n 0, 1) := by decide +kernel
theorem dM_init_117 : decode kM_init 117 = .ok (.sipush 140, 3) := by decide +kernel
theorem dM_init_120 : decode kM_init 120 = .ok (.newarray .int, 2) := by decide +kernel
theorem dM_init_122 : decode kM_init 122 = .ok (.putfield 51, 3) := by decide +kernel
theorem dM_init_125 : decode kM_init 125 = .ok (.aload_n 0, 1) := by decide +kernel
theorem dM_init_126 : decode kM_init 126 = .ok (.sipush 140, 3) := by decide +kernel
theorem dM_init_129 : decode kM_init 129 = .ok (.newarray .int, 2) := by decide +kernel
theorem dM_init_131 : decode kM_init 131 = .ok (.putfield 54, 3) := by decide +kernel
theorem dM_init_134 : decode kM_init 134 = .ok (.aload_n 0, 1) := by decide +kernel
theorem dM_init_135 : decode kM_init 135 = .ok (.sipush 4200, 3) := by decide +kernel
theorem dM_init_138 : decode kM_init 138 = .ok (.newarray .int, 2) := by decide +kernel
theorem dM_init_140 : decode kM_init 140 = .ok (.putfield 57, 3) := by decide +kernel
theorem dM_init_143 : decode kM_init 143 = .ok (.aload_n 0, 1) := by decide +kernel
theorem dM_init_144 : decode kM_init 144 = .ok (.sipush 4200, 3) := by decide +kernel
theorem dM_init_147 : decode kM_init 147 = .ok (.newarray .int, 2) := by decide +kernel
theorem dM_init_149 : decode kM_init 149 = .ok (.putfield 60, 3) := by decide +kernel
theorem dM_init_152 : decode kM_init 152 = .ok (.aload_n 0, 1) := by decide +kernel
theorem dM_init_153 : decode kM_init 153 = .ok (.sipush 4200, 3) := by decide +kernel
theorem dM_init_156 : decode kM_init 156 = .ok (.newarray .int, 2) := by decide +kernel
theorem dM_init_158 : decode kM_init 158 = .ok (.putfield 63, 3) := by decide +kernel
theorem dM_init_161 : decode kM_init 161 = .ok (.aload_n 0, 1) := by decide +kernel
theorem dM_init_162 : decode kM_init 162 = .ok (.sipush 4200, 3) := by decide +kernel
theorem dM_init_165 : decode kM_init 165 = .ok (.newarray .int, 2) := by decide +kernel
theorem dM_init_167 : decode kM_init 167 = .ok (.putfield 66, 3) := by decide +kernel
theorem dM_init_170 : decode kM_init 170 = .ok (.aload_n 0, 1) := by decide +kernel
theorem dM_init_171 : decode kM_init 171 = .ok (.sipush 4200, 3) := by decide +kernel
theorem dM_init_174 : decode kM_init 174 = .ok (.newarray .int, 2) := by decide +kernel
theorem dM_init_176 : decode kM_init 176 = .ok (.putfield 69, 3) := by decide +kernel
theorem dM_init_179 : decode kM_init 179 = .ok (.aload_n 0, 1) := by decide +kernel
theorem dM_init_180 : decode kM_init 180 = .ok (.sipush 4200, 3) := by decide +kernel
theorem dM_init_183 : decode kM_init 183 = .ok (.newarray .int, 2) := by decide +kernel
theorem dM_init_185 : decode kM_init 185 = .ok (.putfield 72, 3) := by decide +kernel
theorem dM_init_188 : decode kM_init 188 = .ok (.aload_n 0, 1) := by decide +kernel
theorem dM_init_189 : decode kM_init 189 = .ok (.sipush 8300, 3) := by decide +kernel
theorem dM_init_192 : decode kM_init 192 = .ok (.newarray .int, 2) := by decide +kernel
theorem dM_init_194 : decode kM_init 194 = .ok (.putfield 75, 3) := by decide +kernel
theorem dM_init_197 : decode kM_init 197 = .ok (.aload_n 0, 1) := by decide +kernel
theorem dM_init_198 : decode kM_init 198 = .ok (.bipush 64, 2) := by decide +kernel
theorem dM_init_200 : decode kM_init 200 = .ok (.newarray .int, 2) := by decide +kernel
theorem dM_init_202 : decode kM_init 202 = .ok (.putfield 78, 3) := by decide +kernel
theorem dM_init_205 : decode kM_init 205 = .ok (.aload_n 0, 1) := by decide +kernel
theorem dM_init_206 : decode kM_init 206 = .ok (.sipush 8600, 3) := by decide +kernel
theorem dM_init_209 : decode kM_init 209 = .ok (.newarray .int, 2) := by decide +kernel
theorem dM_init_211 : decode kM_init 211 = .ok (.putfield 81, 3) := by decide +kernel
theorem dM_init_214 : decode kM_init 214 = .ok (.return_, 1) := by decide +kernel
theorem dM_put_0 : decode kM_put 0 = .ok (.aload_n 0, 1) := by decide +kernel
theorem dM_put_1 : decode kM_put 1 = .ok (.iconst 0, 1) := by decide +kernel
theorem dM_put_2 : decode kM_put 2 = .ok (.putfield 84, 3) := by decide +kernel
theorem dM_put_5 : decode kM_put 5 = .ok (.aload_n 0, 1) := by decide +kernel
theorem dM_put_6 : decode kM_put 6 = .ok (.invokevirtual 117, 3) := by decide +kernel
theorem dM_put_9 : decode kM_put 9 = .ok (.istore 5, 2) := by decide +kernel
theorem dM_put_11 : decode kM_put 11 = .ok (.iload_n 1, 1) := by decide +kernel
theorem dM_put_12 : decode kM_put 12 = .ok (.invokestatic 121, 3) := by decide +kernel
theorem dM_put_15 : decode kM_put 15 = .ok (.ifCond .eq 41, 3) := by decide +kernel
theorem dM_put_18 : decode kM_put 18 = .ok (.iload_n 2, 1) := by decide +kernel
theorem dM_put_19 : decode kM_put 19 = .ok (.invokestatic 121, 3) := by decide +kernel
theorem dM_put_22 : decode kM_put 22 = .ok (.ifCond .eq 34, 3) := by decide +kernel
theorem dM_put_25 : decode kM_put 25 = .ok (.iload_n 3, 1) := by decide +kernel
theorem dM_put_26 : decode kM_put 26 = .ok (.invokestatic 121, 3) := by decide +kernel
theorem dM_put_29 : decode kM_put 29 = .ok (.ifCond .eq 27, 3) := by decide +kernel
theorem dM_put_32 : decode kM_put 32 = .ok (.iload 4, 2) := by decide +kernel
theorem dM_put_34 : decode kM_put 34 = .ok (.invokestatic 121, 3) := by decide +kernel
theorem dM_put_37 : decode kM_put 37 = .ok (.ifCond .eq 19, 3) := by decide +kernel
theorem dM_put_40 : decode kM_put 40 = .ok (.iload_n 1, 1) := by decide +kernel
theorem dM_put_41 : decode kM_put 41 = .ok (.iload_n 3, 1) := by decide +kernel
theorem dM_put_42 : decode kM_put 42 = .ok (.if_icmp .ne 9, 3) := by decide +kernel
theorem dM_put_45 : decode kM_put 45 = .ok (.iload_n 2, 1) := by decide +kernel
theorem dM_put_46 : decode kM_put 46 = .ok (.iload 4, 2) := by decide +kernel
theorem dM_put_48 : decode kM_put 48 = .ok (.if_icmp .eq 8, 3) := by decide +kernel
theorem dM_put_51 : decode kM_put 51 = .ok (.iload 5, 2) := by decide +kernel
theorem dM_put_53 : decode kM_put 53 = .ok (.ifCond .ge 5, 3) := by decide +kernel
theorem dM_put_56 : decode kM_put 56 = .ok (.iconst (-1), 1) := by decide +kernel
theorem dM_put_57 : decode kM_put 57 = .ok (.ireturn, 1) := by decide +kernel
theorem dM_put_58 : decode kM_put 58 = .ok (.aload_n 0, 1) := by decide +kernel
theorem dM_put_59 : decode kM_put 59 = .ok (.getfield 13, 3) := by decide +kernel
theorem dM_put_62 : decode kM_put 62 = .ok (.iload 5, 2) := by decide +kernel
theorem dM_put_64 : decode kM_put 64 = .ok (.iload_n 1, 1) := by decide +kernel
theorem dM_put_65 : decode kM_put 65 = .ok (.iastore, 1) := by decide +kernel
theorem dM_put_66 : decode kM_put 66 = .ok (.aload_n 0, 1) := by decide +kernel
theorem dM_put_67 : decode kM_put 67 = .ok (.getfield 17, 3) := by decide +kernel
theorem dM_put_70 : decode kM_put 70 = .ok (.iload 5, 2) := by decide +kernel
theorem dM_put_72 : decode kM_put 72 = .ok (.iload_n 2, 1) := by decide +kernel
theorem dM_put_73 : decode kM_put 73 = .ok (.iastore, 1) := by decide +kernel
theorem dM_put_74 : decode kM_put 74 = .ok (.aload_n 0, 1) := by decide +kernel
theorem dM_put_75 : decode kM_put 75 = .ok (.getfield 20, 3) := by decide +kernel
theorem dM_put_78 : decode kM_put 78 = .ok (.iload 5, 2) := by decide +kernel
theorem dM_put_80 : decode kM_put 80 = .ok (.iload_n 3, 1) := by decide +kernel
theorem dM_put_81 : decode kM_put 81 = .ok (.iastore, 1) := by decide +kernel
theorem dM_put_82 : decode kM_put 82 = .ok (.aload_n 0, 1) := by decide +kernel
theorem dM_put_83 : decode kM_put 83 = .ok (.getfield 23, 3) := by decide +kernel
theorem dM_put_86 : decode kM_put 86 = .ok (.iload 5, 2) := by decide +kernel
theorem dM_put_88 : decode kM_put 88 = .ok (.iload 4, 2) := by decide +kernel
theorem dM_put_90 : decode kM_put 90 = .ok (.iastore, 1) := by decide +kernel
theorem dM_put_91 : decode kM_put 91 = .ok (.iconst 0, 1) := by decide +kernel
theorem dM_put_92 : decode kM_put 92 = .ok (.istore 6, 2) := by decide +kernel
theorem dM_put_94 : decode kM_put 94 = .ok (.iload 6, 2) := by decide +kernel
theorem dM_put_96 : decode kM_put 96 = .ok (.bipush 64, 2) := by decide +kernel
theorem dM_put_98 : decode kM_put 98 = .ok (.if_icmp .ge 32, 3) := by decide +kernel
theorem dM_put_101 : decode kM_put 101 = .ok (.aload_n 0, 1) := by decide +kernel
theorem dM_put_102 : decode kM_put 102 = .ok (.getfield 7, 3) := by decide +kernel
theorem dM_put_105 : decode kM_put 105 = .ok (.iload 6, 2) := by decide +kernel
theorem dM_put_107 : decode kM_put 107 = .ok (.baload, 1) := by decide +kernel
theorem dM_put_108 : decode kM_put 108 = .ok (.ifCond .eq 16, 3) := by decide +kernel
theorem dM_put_111 : decode kM_put 111 = .ok (.aload_n 0, 1) := by decide +kernel
theorem dM_put_112 : decode kM_put 112 = .ok (.iload 5, 2) := by decide +kernel
theorem dM_put_114 : decode kM_put 114 = .ok (.iload 6, 2) := by decide +kernel
theorem dM_put_116 : decode kM_put 116 = .ok (.invokevirtual 125, 3) := by decide +kernel
theorem dM_put_119 : decode kM_put 119 = .ok (.ifCond .eq 5, 3) := by decide +kernel
theorem dM_put_122 : decode kM_put 122 = .ok (.iconst (-1), 1) := by decide +kernel
theorem dM_put_123 : decode kM_put 123 = .ok (.ireturn, 1) := by decide +kernel
theorem dM_put_124 : decode kM_put 124 = .ok (.iinc 6 1, 3) := by decide +kernel
theorem dM_put_127 : decode kM_put 127 = .ok (.goto (-33), 3) := by decide +kernel
theorem dM_put_130 : decode kM_put 130 = .ok (.aload_n 0, 1) := by decide +kernel
theorem dM_put_131 : decode kM_put 131 = .ok (.getfield 7, 3) := by decide +kernel
theorem dM_put_134 : decode kM_put 134 = .ok (.iload 5, 2) := by decide +kernel
theorem dM_put_136 : decode kM_put 136 = .ok (.iconst 1, 1) := by decide +kernel
theorem dM_put_137 : decode kM_put 137 = .ok (.bastore, 1) := by decide +kernel
theorem dM_put_138 : decode kM_put 138 = .ok (.aload_n 0, 1) := by decide +kernel
theorem dM_put_139 : decode kM_put 139 = .ok (.dup, 1) := by decide +kernel
theorem dM_put_140 : decode kM_put 140 = .ok (.getfield 129, 3) := by decide +kernel
theorem dM_put_143 : decode kM_put 143 = .ok (.iconst 1, 1) := by decide +kernel
theorem dM_put_144 : decode kM_put 144 = .ok (.iadd, 1) := by decide +kernel
theorem dM_put_145 : decode kM_put 145 = .ok (.putfield 129, 3) := by decide +kernel
theorem dM_put_148 : decode kM_put 148 = .ok (.aload_n 0, 1) := by decide +kernel
theorem dM_put_149 : decode kM_put 149 = .ok (.iconst 0, 1) := by decide +kernel
theorem dM_put_150 : decode kM_put 150 = .ok (.putfield 132, 3) := by decide +kernel
theorem dM_put_153 : decode kM_put 153 = .ok (.iload 5, 2) := by decide +kernel
theorem dM_put_155 : decode kM_put 155 = .ok (.ireturn, 1) := by decide +kernel
theorem dM_free_0 : decode kM_free 0 = .ok (.iconst 0, 1) := by decide +kernel
theorem dM_free_1 : decode kM_free 1 = .ok (.istore_n 1, 1) := by decide +kernel
theorem dM_free_2 : decode kM_free 2 = .ok (.iload_n 1, 1) := by decide +kernel
theorem dM_free_3 : decode kM_free 3 = .ok (.bipush 64, 2) := by decide +kernel
theorem dM_free_5 : decode kM_free 5 = .ok (.if_icmp .ge 18, 3) := by decide +kernel
theorem dM_free_8 : decode kM_free 8 = .ok (.aload_n 0, 1) := by decide +kernel
theorem dM_free_9 : decode kM_free 9 = .ok (.getfield 7, 3) := by decide +kernel
theorem dM_free_12 : decode kM_free 12 = .ok (.iload_n 1, 1) := by decide +kernel
theorem dM_free_13 : decode kM_free 13 = .ok (.baload, 1) := by decide +kernel
theorem dM_free_14 : decode kM_free 14 = .ok (.ifCond .eq 9, 3) := by decide +kernel
theorem dM_free_17 : decode kM_free 17 = .ok (.iinc 1 1, 3) := by decide +kernel
theorem dM_free_20 : decode kM_free 20 = .ok (.goto (-18), 3) := by decide +kernel
theorem dM_free_23 : decode kM_free 23 = .ok (.iload_n 1, 1) := by decide +kernel
theorem dM_free_24 : decode kM_free 24 = .ok (.bipush 64, 2) := by decide +kernel
theorem dM_free_26 : decode kM_free 26 = .ok (.if_icmp .ge 7, 3) := by decide +kernel
theorem dM_free_29 : decode kM_free 29 = .ok (.iload_n 1, 1) := by decide +kernel
theorem dM_free_30 : decode kM_free 30 = .ok (.goto 4, 3) := by decide +kernel
theorem dM_free_33 : decode kM_free 33 = .ok (.iconst (-1), 1) := by decide +kernel
theorem dM_free_34 : decode kM_free 34 = .ok (.ireturn, 1) := by decide +kernel
theorem dM_isPlace_0 : decode kM_isPlace 0 = .ok (.iload_n 0, 1) := by decide +kernel
theorem dM_isPlace_1 : decode kM_isPlace 1 = .ok (.sipush (-32768), 3) := by decide +kernel
theorem dM_isPlace_4 : decode kM_isPlace 4 = .ok (.if_icmp .lt 14, 3) := by decide +kernel
theorem dM_isPlace_7 : decode kM_isPlace 7 = .ok (.iload_n 0, 1) := by decide +kernel
theorem dM_isPlace_8 : decode kM_isPlace 8 = .ok (.sipush 32767, 3) := by decide +kernel
theorem dM_isPlace_11 : decode kM_isPlace 11 = .ok (.if_icmp .gt 7, 3) := by decide +kernel
theorem dM_isPlace_14 : decode kM_isPlace 14 = .ok (.iconst 1, 1) := by decide +kernel
theorem dM_isPlace_15 : decode kM_isPlace 15 = .ok (.goto 4, 3) := by decide +kernel
theorem dM_isPlace_18 : decode kM_isPlace 18 = .ok (.iconst 0, 1) := by decide +kernel
theorem dM_isPlace_19 : decode kM_isPlace 19 = .ok (.ireturn, 1) := by decide +kernel
theorem dM_touch_0 : decode kM_touch 0 = .ok (.aload_n 0, 1) := by decide +kernel
theorem dM_touch_1 : decode kM_touch 1 = .ok (.iload_n 2, 1) := by decide +kernel
theorem dM_touch_2 : decode kM_touch 2 = .ok (.aload_n 0, 1) := by decide +kernel
theorem dM_touch_3 : decode kM_touch 3 = .ok (.getfield 13, 3) := by decide +kernel
theorem dM_touch_6 : decode kM_touch 6 = .ok (.iload_n 1, 1) := by decide +kernel
theorem dM_touch_7 : decode kM_touch 7 = .ok (.iaload, 1) := by decide +kernel
theorem dM_touch_8 : decode kM_touch 8 = .ok (.aload_n 0, 1) := by decide +kernel
theorem dM_touch_9 : decode kM_touch 9 = .ok (.getfield 17, 3) := by decide +kernel
theorem dM_touch_12 : decode kM_touch 12 = .ok (.iload_n 1, 1) := by decide +kernel
theorem dM_touch_13 : decode kM_touch 13 = .ok (.iaload, 1) := by decide +kernel
theorem dM_touch_14 : decode kM_touch 14 = .ok (.invokevirtual 102, 3) := by decide +kernel
theorem dM_touch_17 : decode kM_touch 17 = .ok (.ifCond .eq 27, 3) := by decide +kernel
theorem dM_touch_20 : decode kM_touch 20 = .ok (.aload_n 0, 1) := by decide +kernel
theorem dM_touch_21 : decode kM_touch 21 = .ok (.iload_n 2, 1) := by decide +kernel
theorem dM_touch_22 : decode kM_touch 22 = .ok (.aload_n 0, 1) := by decide +kernel
theorem dM_touch_23 : decode kM_touch 23 = .ok (.getfield 20, 3) := by decide +kernel
theorem dM_touch_26 : decode kM_touch 26 = .ok (.iload_n 1, 1) := by decide +kernel
theorem dM_touch_27 : decode kM_touch 27 = .ok (.iaload, 1) := by decide +kernel
theorem dM_touch_28 : decode kM_touch 28 = .ok (.aload_n 0, 1) := by decide +kernel
theorem dM_touch_29 : decode kM_touch 29 = .ok (.getfield 23, 3) := by decide +kernel
theorem dM_touch_32 : decode kM_touch 32 = .ok (.iload_n 1, 1) := by decide +kernel
theorem dM_touch_33 : decode kM_touch 33 = .ok (.iaload, 1) := by decide +kernel
theorem dM_touch_34 : decode kM_touch 34 = .ok (.invokevirtual 102, 3) := by decide +kernel
theorem dM_touch_37 : decode kM_touch 37 = .ok (.ifCond .eq 7, 3) := by decide +kernel
theorem dM_touch_40 : decode kM_touch 40 = .ok (.iconst 1, 1) := by decide +kernel
theorem dM_touch_41 : decode kM_touch 41 = .ok (.goto 4, 3) := by decide +kernel
theorem dM_touch_44 : decode kM_touch 44 = .ok (.iconst 0, 1) := by decide +kernel
theorem dM_touch_45 : decode kM_touch 45 = .ok (.istore_n 3, 1) := by decide +kernel
theorem dM_touch_46 : decode kM_touch 46 = .ok (.aload_n 0, 1) := by decide +kernel
theorem dM_touch_47 : decode kM_touch 47 = .ok (.iload_n 1, 1) := by decide +kernel
theorem dM_touch_48 : decode kM_touch 48 = .ok (.aload_n 0, 1) := by decide +kernel
theorem dM_touch_49 : decode kM_touch 49 = .ok (.getfield 13, 3) := by decide +kernel
theorem dM_touch_52 : decode kM_touch 52 = .ok (.iload_n 2, 1) := by decide +kernel
theorem dM_touch_53 : decode kM_touch 53 = .ok (.iaload, 1) := by decide +kernel
theorem dM_touch_54 : decode kM_touch 54 = .ok (.i2l, 1) := by decide +kernel
theorem dM_touch_55 : decode kM_touch 55 = .ok (.aload_n 0, 1) := by decide +kernel
theorem dM_touch_56 : decode kM_touch 56 = .ok (.getfield 17, 3) := by decide +kernel
theorem dM_touch_59 : decode kM_touch 59 = .ok (.iload_n 2, 1) := by decide +kernel
theorem dM_touch_60 : decode kM_touch 60 = .ok (.iaload, 1) := by decide +kernel
theorem dM_touch_61 : decode kM_touch 61 = .ok (.i2l, 1) := by decide +kernel
theorem dM_touch_62 : decode kM_touch 62 = .ok (.invokevirtual 106, 3) := by decide +kernel
theorem dM_touch_65 : decode kM_touch 65 = .ok (.aload_n 0, 1) := by decide +kernel
theorem dM_touch_66 : decode kM_touch 66 = .ok (.iload_n 1, 1) := by decide +kernel
theorem dM_touch_67 : decode kM_touch 67 = .ok (.aload_n 0, 1) := by decide +kernel
theorem dM_touch_68 : decode kM_touch 68 = .ok (.getfield 20, 3) := by decide +kernel
theorem dM_touch_71 : decode kM_touch 71 = .ok (.iload_n 2, 1) := by decide +kernel
theorem dM_touch_72 : decode kM_touch 72 = .ok (.iaload, 1) := by decide +kernel
theorem dM_touch_73 : decode kM_touch 73 = .ok (.i2l, 1) := by decide +kernel
theorem dM_touch_74 : decode kM_touch 74 = .ok (.aload_n 0, 1) := by decide +kernel
theorem dM_touch_75 : decode kM_touch 75 = .ok (.getfield 23, 3) := by decide +kernel
theorem dM_touch_78 : decode kM_touch 78 = .ok (.iload_n 2, 1) := by decide +kernel
theorem dM_touch_79 : decode kM_touch 79 = .ok (.iaload, 1) := by decide +kernel
theorem dM_touch_80 : decode kM_touch 80 = .ok (.i2l, 1) := by decide +kernel
theorem dM_touch_81 : decode kM_touch 81 = .ok (.invokevirtual 106, 3) := by decide +kernel
theorem dM_touch_84 : decode kM_touch 84 = .ok (.invokestatic 110, 3) := by decide +kernel
theorem dM_touch_87 : decode kM_touch 87 = .ok (.ifCond .eq 51, 3) := by decide +kernel
theorem dM_touch_90 : decode kM_touch 90 = .ok (.aload_n 0, 1) := by decide +kernel
theorem dM_touch_91 : decode kM_touch 91 = .ok (.iload_n 2, 1) := by decide +kernel
theorem dM_touch_92 : decode kM_touch 92 = .ok (.aload_n 0, 1) := by decide +kernel
theorem dM_touch_93 : decode kM_touch 93 = .ok (.getfield 13, 3) := by decide +kernel
theorem dM_touch_96 : decode kM_touch 96 = .ok (.iload_n 1, 1) := by decide +kernel
theorem dM_touch_97 : decode kM_touch 97 = .ok (.iaload, 1) := by decide +kernel
theorem dM_touch_98 : decode kM_touch 98 = .ok (.i2l, 1) := by decide +kernel
theorem dM_touch_99 : decode kM_touch 99 = .ok (.aload_n 0, 1) := by decide +kernel
theorem dM_touch_100 : decode kM_touch 100 = .ok (.getfield 17, 3) := by decide +kernel
theorem dM_touch_103 : decode kM_touch 103 = .ok (.iload_n 1, 1) := by decide +kernel
theorem dM_touch_104 : decode kM_touch 104 = .ok (.iaload, 1) := by decide +kernel
theorem dM_touch_105 : decode kM_touch 105 = .ok (.i2l, 1) := by decide +kernel
theorem dM_touch_106 : decode kM_touch 106 = .ok (.invokevirtual 106, 3) := by decide +kernel
theorem dM_touch_109 : decode kM_touch 109 = .ok (.aload_n 0, 1) := by decide +kernel
theorem dM_touch_110 : decode kM_touch 110 = .ok (.iload_n 2, 1) := by decide +kernel
theorem dM_touch_111 : decode kM_touch 111 = .ok (.aload_n 0, 1) := by decide +kernel
theorem dM_touch_112 : decode kM_touch 112 = .ok (.getfield 20, 3) := by decide +kernel
theorem dM_touch_115 : decode kM_touch 115 = .ok (.iload_n 1, 1) := by decide +kernel
theorem dM_touch_116 : decode kM_touch 116 = .ok (.iaload, 1) := by decide +kernel
theorem dM_touch_117 : decode kM_touch 117 = .ok (.i2l, 1) := by decide +kernel
theorem dM_touch_118 : decode kM_touch 118 = .ok (.aload_n 0, 1) := by decide +kernel
theorem dM_touch_119 : decode kM_touch 119 = .ok (.getfield 23, 3) := by decide +kernel
theorem dM_touch_122 : decode kM_touch 122 = .ok (.iload_n 1, 1) := by decide +kernel
theorem dM_touch_123 : decode kM_touch 123 = .ok (.iaload, 1) := by decide +kernel
theorem dM_touch_124 : decode kM_touch 124 = .ok (.i2l, 1) := by decide +kernel
theorem dM_touch_125 : decode kM_touch 125 = .ok (.invokevirtual 106, 3) := by decide +kernel
theorem dM_touch_128 : decode kM_touch 128 = .ok (.invokestatic 110, 3) := by decide +kernel
theorem dM_touch_131 : decode kM_touch 131 = .ok (.ifCond .eq 7, 3) := by decide +kernel
theorem dM_touch_134 : decode kM_touch 134 = .ok (.iconst 1, 1) := by decide +kernel
theorem dM_touch_135 : decode kM_touch 135 = .ok (.goto 4, 3) := by decide +kernel
theorem dM_touch_138 : decode kM_touch 138 = .ok (.iconst 0, 1) := by decide +kernel
theorem dM_touch_139 : decode kM_touch 139 = .ok (.istore 4, 2) := by decide +kernel
theorem dM_touch_141 : decode kM_touch 141 = .ok (.iload_n 3, 1) := by decide +kernel
theorem dM_touch_142 : decode kM_touch 142 = .ok (.ifCond .ne 88, 3) := by decide +kernel
theorem dM_touch_145 : decode kM_touch 145 = .ok (.iload 4, 2) := by decide +kernel
theorem dM_touch_147 : decode kM_touch 147 = .ok (.ifCond .ne 83, 3) := by decide +kernel
theorem dM_touch_150 : decode kM_touch 150 = .ok (.aload_n 0, 1) := by decide +kernel
theorem dM_touch_151 : decode kM_touch 151 = .ok (.iload_n 1, 1) := by decide +kernel
theorem dM_touch_152 : decode kM_touch 152 = .ok (.aload_n 0, 1) := by decide +kernel
theorem dM_touch_153 : decode kM_touch 153 = .ok (.getfield 13, 3) := by decide +kernel
theorem dM_touch_156 : decode kM_touch 156 = .ok (.iload_n 2, 1) := by decide +kernel
theorem dM_touch_157 : decode kM_touch 157 = .ok (.iaload, 1) := by decide +kernel
theorem dM_touch_158 : decode kM_touch 158 = .ok (.aload_n 0, 1) := by decide +kernel
theorem dM_touch_159 : decode kM_touch 159 = .ok (.getfield 17, 3) := by decide +kernel
theorem dM_touch_162 : decode kM_touch 162 = .ok (.iload_n 2, 1) := by decide +kernel
theorem dM_touch_163 : decode kM_touch 163 = .ok (.iaload, 1) := by decide +kernel
theorem dM_touch_164 : decode kM_touch 164 = .ok (.invokevirtual 114, 3) := by decide +kernel
theorem dM_touch_167 : decode kM_touch 167 = .ok (.ifCond .ne 63, 3) := by decide +kernel
theorem dM_touch_170 : decode kM_touch 170 = .ok (.aload_n 0, 1) := by decide +kernel
theorem dM_touch_171 : decode kM_touch 171 = .ok (.iload_n 1, 1) := by decide +kernel
theorem dM_touch_172 : decode kM_touch 172 = .ok (.aload_n 0, 1) := by decide +kernel
theorem dM_touch_173 : decode kM_touch 173 = .ok (.getfield 20, 3) := by decide +kernel
theorem dM_touch_176 : decode kM_touch 176 = .ok (.iload_n 2, 1) := by decide +kernel
theorem dM_touch_177 : decode kM_touch 177 = .ok (.iaload, 1) := by decide +kernel
theorem dM_touch_178 : decode kM_touch 178 = .ok (.aload_n 0, 1) := by decide +kernel
theorem dM_touch_179 : decode kM_touch 179 = .ok (.getfield 23, 3) := by decide +kernel
theorem dM_touch_182 : decode kM_touch 182 = .ok (.iload_n 2, 1) := by decide +kernel
theorem dM_touch_183 : decode kM_touch 183 = .ok (.iaload, 1) := by decide +kernel
theorem dM_touch_184 : decode kM_touch 184 = .ok (.invokevirtual 114, 3) := by decide +kernel
theorem dM_touch_187 : decode kM_touch 187 = .ok (.ifCond .ne 43, 3) := by decide +kernel
theorem dM_touch_190 : decode kM_touch 190 = .ok (.aload_n 0, 1) := by decide +kernel
theorem dM_touch_191 : decode kM_touch 191 = .ok (.iload_n 2, 1) := by decide +kernel
theorem dM_touch_192 : decode kM_touch 192 = .ok (.aload_n 0, 1) := by decide +kernel
theorem dM_touch_193 : decode kM_touch 193 = .ok (.getfield 13, 3) := by decide +kernel
theorem dM_touch_196 : decode kM_touch 196 = .ok (.iload_n 1, 1) := by decide +kernel
theorem dM_touch_197 : decode kM_touch 197 = .ok (.iaload, 1) := by decide +kernel
theorem dM_touch_198 : decode kM_touch 198 = .ok (.aload_n 0, 1) := by decide +kernel
theorem dM_touch_199 : decode kM_touch 199 = .ok (.getfield 17, 3) := by decide +kernel
theorem dM_touch_202 : decode kM_touch 202 = .ok (.iload_n 1, 1) := by decide +kernel
theorem dM_touch_203 : decode kM_touch 203 = .ok (.iaload, 1) := by decide +kernel
theorem dM_touch_204 : decode kM_touch 204 = .ok (.invokevirtual 114, 3) := by decide +kernel
theorem dM_touch_207 : decode kM_touch 207 = .ok (.ifCond .ne 23, 3) := by decide +kernel
theorem dM_touch_210 : decode kM_touch 210 = .ok (.aload_n 0, 1) := by decide +kernel
theorem dM_touch_211 : decode kM_touch 211 = .ok (.iload_n 2, 1) := by decide +kernel
theorem dM_touch_212 : decode kM_touch 212 = .ok (.aload_n 0, 1) := by decide +kernel
theorem dM_touch_213 : decode kM_touch 213 = .ok (.getfield 20, 3) := by decide +kernel
theorem dM_touch_216 : decode kM_touch 216 = .ok (.iload_n 1, 1) := by decide +kernel
theorem dM_touch_217 : decode kM_touch 217 = .ok (.iaload, 1) := by decide +kernel
theorem dM_touch_218 : decode kM_touch 218 = .ok (.aload_n 0, 1) := by decide +kernel
theorem dM_touch_219 : decode kM_touch 219 = .ok (.getfield 23, 3) := by decide +kernel
theorem dM_touch_222 : decode kM_touch 222 = .ok (.iload_n 1, 1) := by decide +kernel
theorem dM_touch_223 : decode kM_touch 223 = .ok (.iaload, 1) := by decide +kernel
theorem dM_touch_224 : decode kM_touch 224 = .ok (.invokevirtual 114, 3) := by decide +kernel
theorem dM_touch_227 : decode kM_touch 227 = .ok (.ifCond .eq 7, 3) := by decide +kernel
theorem dM_touch_230 : decode kM_touch 230 = .ok (.iconst 1, 1) := by decide +kernel
theorem dM_touch_231 : decode kM_touch 231 = .ok (.goto 4, 3) := by decide +kernel
theorem dM_touch_234 : decode kM_touch 234 = .ok (.iconst 0, 1) := by decide +kernel
theorem dM_touch_235 : decode kM_touch 235 = .ok (.ireturn, 1) := by decide +kernel
theorem dM_isEnd_0 : decode kM_isEnd 0 = .ok (.aload_n 0, 1) := by decide +kernel
theorem dM_isEnd_1 : decode kM_isEnd 1 = .ok (.getfield 13, 3) := by decide +kernel
theorem dM_isEnd_4 : decode kM_isEnd 4 = .ok (.iload_n 1, 1) := by decide +kernel
theorem dM_isEnd_5 : decode kM_isEnd 5 = .ok (.iaload, 1) := by decide +kernel
theorem dM_isEnd_6 : decode kM_isEnd 6 = .ok (.iload_n 2, 1) := by decide +kernel
theorem dM_isEnd_7 : decode kM_isEnd 7 = .ok (.if_icmp .ne 13, 3) := by decide +kernel
theorem dM_isEnd_10 : decode kM_isEnd 10 = .ok (.aload_n 0, 1) := by decide +kernel
theorem dM_isEnd_11 : decode kM_isEnd 11 = .ok (.getfield 17, 3) := by decide +kernel
theorem dM_isEnd_14 : decode kM_isEnd 14 = .ok (.iload_n 1, 1) := by decide +kernel
theorem dM_isEnd_15 : decode kM_isEnd 15 = .ok (.iaload, 1) := by decide +kernel
theorem dM_isEnd_16 : decode kM_isEnd 16 = .ok (.iload_n 3, 1) := by decide +kernel
theorem dM_isEnd_17 : decode kM_isEnd 17 = .ok (.if_icmp .eq 23, 3) := by decide +kernel
theorem dM_isEnd_20 : decode kM_isEnd 20 = .ok (.aload_n 0, 1) := by decide +kernel
theorem dM_isEnd_21 : decode kM_isEnd 21 = .ok (.getfield 20, 3) := by decide +kernel
theorem dM_isEnd_24 : decode kM_isEnd 24 = .ok (.iload_n 1, 1) := by decide +kernel
theorem dM_isEnd_25 : decode kM_isEnd 25 = .ok (.iaload, 1) := by decide +kernel
theorem dM_isEnd_26 : decode kM_isEnd 26 = .ok (.iload_n 2, 1) := by decide +kernel
theorem dM_isEnd_27 : decode kM_isEnd 27 = .ok (.if_icmp .ne 17, 3) := by decide +kernel
theorem dM_isEnd_30 : decode kM_isEnd 30 = .ok (.aload_n 0, 1) := by decide +kernel
theorem dM_isEnd_31 : decode kM_isEnd 31 = .ok (.getfield 23, 3) := by decide +kernel
theorem dM_isEnd_34 : decode kM_isEnd 34 = .ok (.iload_n 1, 1) := by decide +kernel
theorem dM_isEnd_35 : decode kM_isEnd 35 = .ok (.iaload, 1) := by decide +kernel
theorem dM_isEnd_36 : decode kM_isEnd 36 = .ok (.iload_n 3, 1) := by decide +kernel
theorem dM_isEnd_37 : decode kM_isEnd 37 = .ok (.if_icmp .ne 7, 3) := by decide +kernel
theorem dM_isEnd_40 : decode kM_isEnd 40 = .ok (.iconst 1, 1) := by decide +kernel
theorem dM_isEnd_41 : decode kM_isEnd 41 = .ok (.goto 4, 3) := by decide +kernel
theorem dM_isEnd_44 : decode kM_isEnd 44 = .ok (.iconst 0, 1) := by decide +kernel
theorem dM_isEnd_45 : decode kM_isEnd 45 = .ok (.ireturn, 1) := by decide +kernel
theorem dM_sideOf_0 : decode kM_sideOf 0 = .ok (.aload_n 0, 1) := by decide +kernel
theorem dM_sideOf_1 : decode kM_sideOf 1 = .ok (.getfield 20, 3) := by decide +kernel
theorem dM_sideOf_4 : decode kM_sideOf 4 = .ok (.iload_n 1, 1) := by decide +kernel
theorem dM_sideOf_5 : decode kM_sideOf 5 = .ok (.iaload, 1) := by decide +kernel
theorem dM_sideOf_6 : decode kM_sideOf 6 = .ok (.aload_n 0, 1) := by decide +kernel
theorem dM_sideOf_7 : decode kM_sideOf 7 = .ok (.getfield 13, 3) := by decide +kernel
theorem dM_sideOf_10 : decode kM_sideOf 10 = .ok (.iload_n 1, 1) := by decide +kernel
theorem dM_sideOf_11 : decode kM_sideOf 11 = .ok (.iaload, 1) := by decide +kernel
theorem dM_sideOf_12 : decode kM_sideOf 12 = .ok (.isub, 1) := by decide +kernel
theorem dM_sideOf_13 : decode kM_sideOf 13 = .ok (.i2l, 1) := by decide +kernel
theorem dM_sideOf_14 : decode kM_sideOf 14 = .ok (.aload_n 0, 1) := by decide +kernel
theorem dM_sideOf_15 : decode kM_sideOf 15 = .ok (.getfield 23, 3) := by decide +kernel
theorem dM_sideOf_18 : decode kM_sideOf 18 = .ok (.iload_n 1, 1) := by decide +kernel
theorem dM_sideOf_19 : decode kM_sideOf 19 = .ok (.iaload, 1) := by decide +kernel
theorem dM_sideOf_20 : decode kM_sideOf 20 = .ok (.aload_n 0, 1) := by decide +kernel
theorem dM_sideOf_21 : decode kM_sideOf 21 = .ok (.getfield 17, 3) := by decide +kernel
theorem dM_sideOf_24 : decode kM_sideOf 24 = .ok (.iload_n 1, 1) := by decide +kernel
theorem dM_sideOf_25 : decode kM_sideOf 25 = .ok (.iaload, 1) := by decide +kernel
theorem dM_sideOf_26 : decode kM_sideOf 26 = .ok (.isub, 1) := by decide +kernel
theorem dM_sideOf_27 : decode kM_sideOf 27 = .ok (.i2l, 1) := by decide +kernel
theorem dM_sideOf_28 : decode kM_sideOf 28 = .ok (.lload_n 2, 1) := by decide +kernel
theorem dM_sideOf_29 : decode kM_sideOf 29 = .ok (.aload_n 0, 1) := by decide +kernel
theorem dM_sideOf_30 : decode kM_sideOf 30 = .ok (.getfield 13, 3) := by decide +kernel
theorem dM_sideOf_33 : decode kM_sideOf 33 = .ok (.iload_n 1, 1) := by decide +kernel
theorem dM_sideOf_34 : decode kM_sideOf 34 = .ok (.iaload, 1) := by decide +kernel
theorem dM_sideOf_35 : decode kM_sideOf 35 = .ok (.i2l, 1) := by decide +kernel
theorem dM_sideOf_36 : decode kM_sideOf 36 = .ok (.lsub, 1) := by decide +kernel
theorem dM_sideOf_37 : decode kM_sideOf 37 = .ok (.lload 4, 2) := by decide +kernel
theorem dM_sideOf_39 : decode kM_sideOf 39 = .ok (.aload_n 0, 1) := by decide +kernel
theorem dM_sideOf_40 : decode kM_sideOf 40 = .ok (.getfield 17, 3) := by decide +kernel
theorem dM_sideOf_43 : decode kM_sideOf 43 = .ok (.iload_n 1, 1) := by decide +kernel
theorem dM_sideOf_44 : decode kM_sideOf 44 = .ok (.iaload, 1) := by decide +kernel
theorem dM_sideOf_45 : decode kM_sideOf 45 = .ok (.i2l, 1) := by decide +kernel
theorem dM_sideOf_46 : decode kM_sideOf 46 = .ok (.lsub, 1) := by decide +kernel
theorem dM_sideOf_47 : decode kM_sideOf 47 = .ok (.invokestatic 98, 3) := by decide +kernel
theorem dM_sideOf_50 : decode kM_sideOf 50 = .ok (.lreturn, 1) := by decide +kernel
theorem dM_cross_0 : decode kM_cross 0 = .ok (.lload_n 0, 1) := by decide +kernel
theorem dM_cross_1 : decode kM_cross 1 = .ok (.lload 6, 2) := by decide +kernel
theorem dM_cross_3 : decode kM_cross 3 = .ok (.lmul, 1) := by decide +kernel
theorem dM_cross_4 : decode kM_cross 4 = .ok (.lload_n 2, 1) := by decide +kernel
theorem dM_cross_5 : decode kM_cross 5 = .ok (.lload 4, 2) := by decide +kernel
theorem dM_cross_7 : decode kM_cross 7 = .ok (.lmul, 1) := by decide +kernel
theorem dM_cross_8 : decode kM_cross 8 = .ok (.lsub, 1) := by decide +kernel
theorem dM_cross_9 : decode kM_cross 9 = .ok (.lreturn, 1) := by decide +kernel
theorem dM_areOpposite_0 : decode kM_areOpposite 0 = .ok (.lload_n 0, 1) := by decide +kernel
theorem dM_areOpposite_1 : decode kM_areOpposite 1 = .ok (.lconst 0, 1) := by decide +kernel
theorem dM_areOpposite_2 : decode kM_areOpposite 2 = .ok (.lcmp, 1) := by decide +kernel
theorem dM_areOpposite_3 : decode kM_areOpposite 3 = .ok (.ifCond .ge 9, 3) := by decide +kernel
theorem dM_areOpposite_6 : decode kM_areOpposite 6 = .ok (.lload_n 2, 1) := by decide +kernel
theorem dM_areOpposite_7 : decode kM_areOpposite 7 = .ok (.lconst 0, 1) := by decide +kernel
theorem dM_areOpposite_8 : decode kM_areOpposite 8 = .ok (.lcmp, 1) := by decide +kernel
theorem dM_areOpposite_9 : decode kM_areOpposite 9 = .ok (.ifCond .gt 15, 3) := by decide +kernel
theorem dM_areOpposite_12 : decode kM_areOpposite 12 = .ok (.lload_n 0, 1) := by decide +kernel
theorem dM_areOpposite_13 : decode kM_areOpposite 13 = .ok (.lconst 0, 1) := by decide +kernel
theorem dM_areOpposite_14 : decode kM_areOpposite 14 = .ok (.lcmp, 1) := by decide +kernel
theorem dM_areOpposite_15 : decode kM_areOpposite 15 = .ok (.ifCond .le 13, 3) := by decide +kernel
theorem dM_areOpposite_18 : decode kM_areOpposite 18 = .ok (.lload_n 2, 1) := by decide +kernel
theorem dM_areOpposite_19 : decode kM_areOpposite 19 = .ok (.lconst 0, 1) := by decide +kernel
theorem dM_areOpposite_20 : decode kM_areOpposite 20 = .ok (.lcmp, 1) := by decide +kernel
theorem dM_areOpposite_21 : decode kM_areOpposite 21 = .ok (.ifCond .ge 7, 3) := by decide +kernel
theorem dM_areOpposite_24 : decode kM_areOpposite 24 = .ok (.iconst 1, 1) := by decide +kernel
theorem dM_areOpposite_25 : decode kM_areOpposite 25 = .ok (.goto 4, 3) := by decide +kernel
theorem dM_areOpposite_28 : decode kM_areOpposite 28 = .ok (.iconst 0, 1) := by decide +kernel
theorem dM_areOpposite_29 : decode kM_areOpposite 29 = .ok (.ireturn, 1) := by decide +kernel
theorem dM_lies_0 : decode kM_lies 0 = .ok (.aload_n 0, 1) := by decide +kernel
theorem dM_lies_1 : decode kM_lies 1 = .ok (.iload_n 1, 1) := by decide +kernel
theorem dM_lies_2 : decode kM_lies 2 = .ok (.iload_n 2, 1) := by decide +kernel
theorem dM_lies_3 : decode kM_lies 3 = .ok (.iload_n 3, 1) := by decide +kernel
theorem dM_lies_4 : decode kM_lies 4 = .ok (.invokevirtual 102, 3) := by decide +kernel
theorem dM_lies_7 : decode kM_lies 7 = .ok (.ifCond .ne 17, 3) := by decide +kernel
theorem dM_lies_10 : decode kM_lies 10 = .ok (.aload_n 0, 1) := by decide +kernel
theorem dM_lies_11 : decode kM_lies 11 = .ok (.iload_n 1, 1) := by decide +kernel
theorem dM_lies_12 : decode kM_lies 12 = .ok (.iload_n 2, 1) := by decide +kernel
theorem dM_lies_13 : decode kM_lies 13 = .ok (.i2l, 1) := by decide +kernel
theorem dM_lies_14 : decode kM_lies 14 = .ok (.iload_n 3, 1) := by decide +kernel
theorem dM_lies_15 : decode kM_lies 15 = .ok (.i2l, 1) := by decide +kernel
theorem dM_lies_16 : decode kM_lies 16 = .ok (.invokevirtual 106, 3) := by decide +kernel
theorem dM_lies_19 : decode kM_lies 19 = .ok (.lconst 0, 1) := by decide +kernel
theorem dM_lies_20 : decode kM_lies 20 = .ok (.lcmp, 1) := by decide +kernel
theorem dM_lies_21 : decode kM_lies 21 = .ok (.ifCond .eq 5, 3) := by decide +kernel
theorem dM_lies_24 : decode kM_lies 24 = .ok (.iconst 0, 1) := by decide +kernel
theorem dM_lies_25 : decode kM_lies 25 = .ok (.ireturn, 1) := by decide +kernel
theorem dM_lies_26 : decode kM_lies 26 = .ok (.aload_n 0, 1) := by decide +kernel
theorem dM_lies_27 : decode kM_lies 27 = .ok (.getfield 13, 3) := by decide +kernel
theorem dM_lies_30 : decode kM_lies 30 = .ok (.iload_n 1, 1) := by decide +kernel
theorem dM_lies_31 : decode kM_lies 31 = .ok (.iaload, 1) := by decide +kernel
theorem dM_lies_32 : decode kM_lies 32 = .ok (.iload_n 2, 1) := by decide +kernel
theorem dM_lies_33 : decode kM_lies 33 = .ok (.isub, 1) := by decide +kernel
theorem dM_lies_34 : decode kM_lies 34 = .ok (.i2l, 1) := by decide +kernel
theorem dM_lies_35 : decode kM_lies 35 = .ok (.aload_n 0, 1) := by decide +kernel
theorem dM_lies_36 : decode kM_lies 36 = .ok (.getfield 20, 3) := by decide +kernel
theorem dM_lies_39 : decode kM_lies 39 = .ok (.iload_n 1, 1) := by decide +kernel
theorem dM_lies_40 : decode kM_lies 40 = .ok (.iaload, 1) := by decide +kernel
theorem dM_lies_41 : decode kM_lies 41 = .ok (.iload_n 2, 1) := by decide +kernel
theorem dM_lies_42 : decode kM_lies 42 = .ok (.isub, 1) := by decide +kernel
theorem dM_lies_43 : decode kM_lies 43 = .ok (.i2l, 1) := by decide +kernel
theorem dM_lies_44 : decode kM_lies 44 = .ok (.lmul, 1) := by decide +kernel
theorem dM_lies_45 : decode kM_lies 45 = .ok (.aload_n 0, 1) := by decide +kernel
theorem dM_lies_46 : decode kM_lies 46 = .ok (.getfield 17, 3) := by decide +kernel
theorem dM_lies_49 : decode kM_lies 49 = .ok (.iload_n 1, 1) := by decide +kernel
theorem dM_lies_50 : decode kM_lies 50 = .ok (.iaload, 1) := by decide +kernel
theorem dM_lies_51 : decode kM_lies 51 = .ok (.iload_n 3, 1) := by decide +kernel
theorem dM_lies_52 : decode kM_lies 52 = .ok (.isub, 1) := by decide +kernel
theorem dM_lies_53 : decode kM_lies 53 = .ok (.i2l, 1) := by decide +kernel
theorem dM_lies_54 : decode kM_lies 54 = .ok (.aload_n 0, 1) := by decide +kernel
theorem dM_lies_55 : decode kM_lies 55 = .ok (.getfield 23, 3) := by decide +kernel
theorem dM_lies_58 : decode kM_lies 58 = .ok (.iload_n 1, 1) := by decide +kernel
theorem dM_lies_59 : decode kM_lies 59 = .ok (.iaload, 1) := by decide +kernel
theorem dM_lies_60 : decode kM_lies 60 = .ok (.iload_n 3, 1) := by decide +kernel
theorem dM_lies_61 : decode kM_lies 61 = .ok (.isub, 1) := by decide +kernel
theorem dM_lies_62 : decode kM_lies 62 = .ok (.i2l, 1) := by decide +kernel
theorem dM_lies_63 : decode kM_lies 63 = .ok (.lmul, 1) := by decide +kernel
theorem dM_lies_64 : decode kM_lies 64 = .ok (.ladd, 1) := by decide +kernel
theorem dM_lies_65 : decode kM_lies 65 = .ok (.lconst 0, 1) := by decide +kernel
theorem dM_lies_66 : decode kM_lies 66 = .ok (.lcmp, 1) := by decide +kernel
theorem dM_lies_67 : decode kM_lies 67 = .ok (.ifCond .ge 7, 3) := by decide +kernel
theorem dM_lies_70 : decode kM_lies 70 = .ok (.iconst 1, 1) := by decide +kernel
theorem dM_lies_71 : decode kM_lies 71 = .ok (.goto 4, 3) := by decide +kernel
theorem dM_lies_74 : decode kM_lies 74 = .ok (.iconst 0, 1) := by decide +kernel
theorem dM_lies_75 : decode kM_lies 75 = .ok (.ireturn, 1) := by decide +kernel
theorem dM_take_0 : decode kM_take 0 = .ok (.aload_n 0, 1) := by decide +kernel
theorem dM_take_1 : decode kM_take 1 = .ok (.iconst 0, 1) := by decide +kernel
theorem dM_take_2 : decode kM_take 2 = .ok (.putfield 84, 3) := by decide +kernel
theorem dM_take_5 : decode kM_take 5 = .ok (.aload_n 0, 1) := by decide +kernel
theorem dM_take_6 : decode kM_take 6 = .ok (.iload_n 1, 1) := by decide +kernel
theorem dM_take_7 : decode kM_take 7 = .ok (.invokevirtual 136, 3) := by decide +kernel
theorem dM_take_10 : decode kM_take 10 = .ok (.ifCond .ne 5, 3) := by decide +kernel
theorem dM_take_13 : decode kM_take 13 = .ok (.iconst 0, 1) := by decide +kernel
theorem dM_take_14 : decode kM_take 14 = .ok (.ireturn, 1) := by decide +kernel
theorem dM_take_15 : decode kM_take 15 = .ok (.aload_n 0, 1) := by decide +kernel
theorem dM_take_16 : decode kM_take 16 = .ok (.getfield 7, 3) := by decide +kernel
theorem dM_take_19 : decode kM_take 19 = .ok (.iload_n 1, 1) := by decide +kernel
theorem dM_take_20 : decode kM_take 20 = .ok (.iconst 0, 1) := by decide +kernel
theorem dM_take_21 : decode kM_take 21 = .ok (.bastore, 1) := by decide +kernel
theorem dM_take_22 : decode kM_take 22 = .ok (.aload_n 0, 1) := by decide +kernel
theorem dM_take_23 : decode kM_take 23 = .ok (.dup, 1) := by decide +kernel
theorem dM_take_24 : decode kM_take 24 = .ok (.getfield 129, 3) := by decide +kernel
theorem dM_take_27 : decode kM_take 27 = .ok (.iconst 1, 1) := by decide +kernel
theorem dM_take_28 : decode kM_take 28 = .ok (.isub, 1) := by decide +kernel
theorem dM_take_29 : decode kM_take 29 = .ok (.putfield 129, 3) := by decide +kernel
theorem dM_take_32 : decode kM_take 32 = .ok (.aload_n 0, 1) := by decide +kernel
theorem dM_take_33 : decode kM_take 33 = .ok (.iconst 0, 1) := by decide +kernel
theorem dM_take_34 : decode kM_take 34 = .ok (.putfield 132, 3) := by decide +kernel
theorem dM_take_37 : decode kM_take 37 = .ok (.iconst 1, 1) := by decide +kernel
theorem dM_take_38 : decode kM_take 38 = .ok (.ireturn, 1) := by decide +kernel
theorem dM_isWall_0 : decode kM_isWall 0 = .ok (.iload_n 1, 1) := by decide +kernel
theorem dM_isWall_1 : decode kM_isWall 1 = .ok (.ifCond .lt 22, 3) := by decide +kernel
theorem dM_isWall_4 : decode kM_isWall 4 = .ok (.iload_n 1, 1) := by decide +kernel
theorem dM_isWall_5 : decode kM_isWall 5 = .ok (.bipush 64, 2) := by decide +kernel
theorem dM_isWall_7 : decode kM_isWall 7 = .ok (.if_icmp .ge 16, 3) := by decide +kernel
theorem dM_isWall_10 : decode kM_isWall 10 = .ok (.aload_n 0, 1) := by decide +kernel
theorem dM_isWall_11 : decode kM_isWall 11 = .ok (.getfield 7, 3) := by decide +kernel
theorem dM_isWall_14 : decode kM_isWall 14 = .ok (.iload_n 1, 1) := by decide +kernel
theorem dM_isWall_15 : decode kM_isWall 15 = .ok (.baload, 1) := by decide +kernel
theorem dM_isWall_16 : decode kM_isWall 16 = .ok (.ifCond .eq 7, 3) := by decide +kernel
theorem dM_isWall_19 : decode kM_isWall 19 = .ok (.iconst 1, 1) := by decide +kernel
theorem dM_isWall_20 : decode kM_isWall 20 = .ok (.goto 4, 3) := by decide +kernel
theorem dM_isWall_23 : decode kM_isWall 23 = .ok (.iconst 0, 1) := by decide +kernel
theorem dM_isWall_24 : decode kM_isWall 24 = .ok (.ireturn, 1) := by decide +kernel
theorem dM_clear_0 : decode kM_clear 0 = .ok (.aload_n 0, 1) := by decide +kernel
theorem dM_clear_1 : decode kM_clear 1 = .ok (.iconst 0, 1) := by decide +kernel
theorem dM_clear_2 : decode kM_clear 2 = .ok (.putfield 84, 3) := by decide +kernel
theorem dM_clear_5 : decode kM_clear 5 = .ok (.iconst 0, 1) := by decide +kernel
theorem dM_clear_6 : decode kM_clear 6 = .ok (.istore_n 1, 1) := by decide +kernel
theorem dM_clear_7 : decode kM_clear 7 = .ok (.iload_n 1, 1) := by decide +kernel
theorem dM_clear_8 : decode kM_clear 8 = .ok (.bipush 64, 2) := by decide +kernel
theorem dM_clear_10 : decode kM_clear 10 = .ok (.if_icmp .ge 16, 3) := by decide +kernel
theorem dM_clear_13 : decode kM_clear 13 = .ok (.aload_n 0, 1) := by decide +kernel
theorem dM_clear_14 : decode kM_clear 14 = .ok (.getfield 7, 3) := by decide +kernel
theorem dM_clear_17 : decode kM_clear 17 = .ok (.iload_n 1, 1) := by decide +kernel
theorem dM_clear_18 : decode kM_clear 18 = .ok (.iconst 0, 1) := by decide +kernel
theorem dM_clear_19 : decode kM_clear 19 = .ok (.bastore, 1) := by decide +kernel
theorem dM_clear_20 : decode kM_clear 20 = .ok (.iinc 1 1, 3) := by decide +kernel
theorem dM_clear_23 : decode kM_clear 23 = .ok (.goto (-16), 3) := by decide +kernel
theorem dM_clear_26 : decode kM_clear 26 = .ok (.aload_n 0, 1) := by decide +kernel
theorem dM_clear_27 : decode kM_clear 27 = .ok (.iconst 0, 1) := by decide +kernel
theorem dM_clear_28 : decode kM_clear 28 = .ok (.putfield 129, 3) := by decide +kernel
theorem dM_clear_31 : decode kM_clear 31 = .ok (.aload_n 0, 1) := by decide +kernel
theorem dM_clear_32 : decode kM_clear 32 = .ok (.iconst 0, 1) := by decide +kernel
theorem dM_clear_33 : decode kM_clear 33 = .ok (.putfield 132, 3) := by decide +kernel
theorem dM_clear_36 : decode kM_clear 36 = .ok (.return_, 1) := by decide +kernel
theorem dM_node_0 : decode kM_node 0 = .ok (.aload_n 0, 1) := by decide +kernel
theorem dM_node_1 : decode kM_node 1 = .ok (.iconst 0, 1) := by decide +kernel
theorem dM_node_2 : decode kM_node 2 = .ok (.putfield 84, 3) := by decide +kernel
theorem dM_node_5 : decode kM_node 5 = .ok (.aload_n 0, 1) := by decide +kernel
theorem dM_node_6 : decode kM_node 6 = .ok (.iload_n 1, 1) := by decide +kernel
theorem dM_node_7 : decode kM_node 7 = .ok (.invokevirtual 201, 3) := by decide +kernel
theorem dM_node_10 : decode kM_node 10 = .ok (.ifCond .ne 5, 3) := by decide +kernel
theorem dM_node_13 : decode kM_node 13 = .ok (.iconst (-1), 1) := by decide +kernel
theorem dM_node_14 : decode kM_node 14 = .ok (.ireturn, 1) := by decide +kernel
theorem dM_node_15 : decode kM_node 15 = .ok (.iload_n 2, 1) := by decide +kernel
theorem dM_node_16 : decode kM_node 16 = .ok (.tableswitch 107 0 5 #[40, 47, 67, 87, 94, 100], 40) := by decide +kernel
theorem dM_node_56 : decode kM_node 56 = .ok (.aload_n 0, 1) := by decide +kernel
theorem dM_node_57 : decode kM_node 57 = .ok (.getfield 57, 3) := by decide +kernel
theorem dM_node_60 : decode kM_node 60 = .ok (.iload_n 1, 1) := by decide +kernel
theorem dM_node_61 : decode kM_node 61 = .ok (.iaload, 1) := by decide +kernel
theorem dM_node_62 : decode kM_node 62 = .ok (.ireturn, 1) := by decide +kernel
theorem dM_node_63 : decode kM_node 63 = .ok (.aload_n 0, 1) := by decide +kernel
theorem dM_node_64 : decode kM_node 64 = .ok (.getfield 60, 3) := by decide +kernel
theorem dM_node_67 : decode kM_node 67 = .ok (.iload_n 1, 1) := by decide +kernel
theorem dM_node_68 : decode kM_node 68 = .ok (.iaload, 1) := by decide +kernel
theorem dM_node_69 : decode kM_node 69 = .ok (.ifCond .ge 7, 3) := by decide +kernel
theorem dM_node_72 : decode kM_node 72 = .ok (.iconst (-1), 1) := by decide +kernel
theorem dM_node_73 : decode kM_node 73 = .ok (.goto 9, 3) := by decide +kernel
theorem dM_node_76 : decode kM_node 76 = .ok (.aload_n 0, 1) := by decide +kernel
theorem dM_node_77 : decode kM_node 77 = .ok (.getfield 60, 3) := by decide +kernel
theorem dM_node_80 : decode kM_node 80 = .ok (.iload_n 1, 1) := by decide +kernel
theorem dM_node_81 : decode kM_node 81 = .ok (.iaload, 1) := by decide +kernel
theorem dM_node_82 : decode kM_node 82 = .ok (.ireturn, 1) := by decide +kernel
theorem dM_node_83 : decode kM_node 83 = .ok (.aload_n 0, 1) := by decide +kernel
theorem dM_node_84 : decode kM_node 84 = .ok (.getfield 63, 3) := by decide +kernel
theorem dM_node_87 : decode kM_node 87 = .ok (.iload_n 1, 1) := by decide +kernel
theorem dM_node_88 : decode kM_node 88 = .ok (.iaload, 1) := by decide +kernel
theorem dM_node_89 : decode kM_node 89 = .ok (.ifCond .ge 7, 3) := by decide +kernel
theorem dM_node_92 : decode kM_node 92 = .ok (.iconst (-1), 1) := by decide +kernel
theorem dM_node_93 : decode kM_node 93 = .ok (.goto 9, 3) := by decide +kernel
theorem dM_node_96 : decode kM_node 96 = .ok (.aload_n 0, 1) := by decide +kernel
theorem dM_node_97 : decode kM_node 97 = .ok (.getfield 63, 3) := by decide +kernel
theorem dM_node_100 : decode kM_node 100 = .ok (.iload_n 1, 1) := by decide +kernel
theorem dM_node_101 : decode kM_node 101 = .ok (.iaload, 1) := by decide +kernel
theorem dM_node_102 : decode kM_node 102 = .ok (.ireturn, 1) := by decide +kernel
theorem dM_node_103 : decode kM_node 103 = .ok (.aload_n 0, 1) := by decide +kernel
theorem dM_node_104 : decode kM_node 104 = .ok (.getfield 72, 3) := by decide +kernel
theorem dM_node_107 : decode kM_node 107 = .ok (.iload_n 1, 1) := by decide +kernel
theorem dM_node_108 : decode kM_node 108 = .ok (.iaload, 1) := by decide +kernel
theorem dM_node_109 : decode kM_node 109 = .ok (.ireturn, 1) := by decide +kernel
theorem dM_node_110 : decode kM_node 110 = .ok (.aload_n 0, 1) := by decide +kernel
theorem dM_node_111 : decode kM_node 111 = .ok (.iload_n 1, 1) := by decide +kernel
theorem dM_node_112 : decode kM_node 112 = .ok (.invokevirtual 204, 3) := by decide +kernel
theorem dM_node_115 : decode kM_node 115 = .ok (.ireturn, 1) := by decide +kernel
theorem dM_node_116 : decode kM_node 116 = .ok (.aload_n 0, 1) := by decide +kernel
theorem dM_node_117 : decode kM_node 117 = .ok (.getfield 66, 3) := by decide +kernel
theorem dM_node_120 : decode kM_node 120 = .ok (.iload_n 1, 1) := by decide +kernel
theorem dM_node_121 : decode kM_node 121 = .ok (.iaload, 1) := by decide +kernel
theorem dM_node_122 : decode kM_node 122 = .ok (.ireturn, 1) := by decide +kernel
theorem dM_node_123 : decode kM_node 123 = .ok (.iconst (-1), 1) := by decide +kernel
theorem dM_node_124 : decode kM_node 124 = .ok (.ireturn, 1) := by decide +kernel
theorem dM_isNode_0 : decode kM_isNode 0 = .ok (.aload_n 0, 1) := by decide +kernel
theorem dM_isNode_1 : decode kM_isNode 1 = .ok (.invokevirtual 198, 3) := by decide +kernel
theorem dM_isNode_4 : decode kM_isNode 4 = .ok (.iload_n 1, 1) := by decide +kernel
theorem dM_isNode_5 : decode kM_isNode 5 = .ok (.ifCond .lt 15, 3) := by decide +kernel
theorem dM_isNode_8 : decode kM_isNode 8 = .ok (.iload_n 1, 1) := by decide +kernel
theorem dM_isNode_9 : decode kM_isNode 9 = .ok (.aload_n 0, 1) := by decide +kernel
theorem dM_isNode_10 : decode kM_isNode 10 = .ok (.getfield 165, 3) := by decide +kernel
theorem dM_isNode_13 : decode kM_isNode 13 = .ok (.if_icmp .ge 7, 3) := by decide +kernel
theorem dM_isNode_16 : decode kM_isNode 16 = .ok (.iconst 1, 1) := by decide +kernel
theorem dM_isNode_17 : decode kM_isNode 17 = .ok (.goto 4, 3) := by decide +kernel
theorem dM_isNode_20 : decode kM_isNode 20 = .ok (.iconst 0, 1) := by decide +kernel
theorem dM_isNode_21 : decode kM_isNode 21 = .ok (.ireturn, 1) := by decide +kernel
theorem dM_know_0 : decode kM_know 0 = .ok (.aload_n 0, 1) := by decide +kernel
theorem dM_know_1 : decode kM_know 1 = .ok (.getfield 132, 3) := by decide +kernel
theorem dM_know_4 : decode kM_know 4 = .ok (.ifCond .ne 12, 3) := by decide +kernel
theorem dM_know_7 : decode kM_know 7 = .ok (.aload_n 0, 1) := by decide +kernel
theorem dM_know_8 : decode kM_know 8 = .ok (.invokevirtual 195, 3) := by decide +kernel
theorem dM_know_11 : decode kM_know 11 = .ok (.aload_n 0, 1) := by decide +kernel
theorem dM_know_12 : decode kM_know 12 = .ok (.iconst 1, 1) := by decide +kernel
theorem dM_know_13 : decode kM_know 13 = .ok (.putfield 132, 3) := by decide +kernel
theorem dM_know_16 : decode kM_know 16 = .ok (.return_, 1) := by decide +kernel
theorem dM_make_0 : decode kM_make 0 = .ok (.aload_n 0, 1) := by decide +kernel
theorem dM_make_1 : decode kM_make 1 = .ok (.iconst 0, 1) := by decide +kernel
theorem dM_make_2 : decode kM_make 2 = .ok (.putfield 139, 3) := by decide +kernel
theorem dM_make_5 : decode kM_make 5 = .ok (.aload_n 0, 1) := by decide +kernel
theorem dM_make_6 : decode kM_make 6 = .ok (.iconst 0, 1) := by decide +kernel
theorem dM_make_7 : decode kM_make 7 = .ok (.putfield 162, 3) := by decide +kernel
theorem dM_make_10 : decode kM_make 10 = .ok (.aload_n 0, 1) := by decide +kernel
theorem dM_make_11 : decode kM_make 11 = .ok (.iconst 0, 1) := by decide +kernel
theorem dM_make_12 : decode kM_make 12 = .ok (.putfield 165, 3) := by decide +kernel
theorem dM_make_15 : decode kM_make 15 = .ok (.aload_n 0, 1) := by decide +kernel
theorem dM_make_16 : decode kM_make 16 = .ok (.iconst 0, 1) := by decide +kernel
theorem dM_make_17 : decode kM_make 17 = .ok (.putfield 168, 3) := by decide +kernel
theorem dM_make_20 : decode kM_make 20 = .ok (.aload_n 0, 1) := by decide +kernel
theorem dM_make_21 : decode kM_make 21 = .ok (.iconst 0, 1) := by decide +kernel
theorem dM_make_22 : decode kM_make 22 = .ok (.putfield 171, 3) := by decide +kernel
theorem dM_make_25 : decode kM_make 25 = .ok (.aload_n 0, 1) := by decide +kernel
theorem dM_make_26 : decode kM_make 26 = .ok (.iconst 0, 1) := by decide +kernel
theorem dM_make_27 : decode kM_make 27 = .ok (.putfield 174, 3) := by decide +kernel
theorem dM_make_30 : decode kM_make 30 = .ok (.aload_n 0, 1) := by decide +kernel
theorem dM_make_31 : decode kM_make 31 = .ok (.iconst 0, 1) := by decide +kernel
theorem dM_make_32 : decode kM_make 32 = .ok (.putfield 155, 3) := by decide +kernel
theorem dM_make_35 : decode kM_make 35 = .ok (.iconst 0, 1) := by decide +kernel
theorem dM_make_36 : decode kM_make 36 = .ok (.istore_n 1, 1) := by decide +kernel
theorem dM_make_37 : decode kM_make 37 = .ok (.iconst 0, 1) := by decide +kernel
theorem dM_make_38 : decode kM_make 38 = .ok (.istore_n 2, 1) := by decide +kernel
theorem dM_make_39 : decode kM_make 39 = .ok (.iload_n 2, 1) := by decide +kernel
theorem dM_make_40 : decode kM_make 40 = .ok (.bipush 64, 2) := by decide +kernel
theorem dM_make_42 : decode kM_make 42 = .ok (.if_icmp .ge 43, 3) := by decide +kernel
theorem dM_make_45 : decode kM_make 45 = .ok (.aload_n 0, 1) := by decide +kernel
theorem dM_make_46 : decode kM_make 46 = .ok (.getfield 78, 3) := by decide +kernel
theorem dM_make_49 : decode kM_make 49 = .ok (.iload_n 2, 1) := by decide +kernel
theorem dM_make_50 : decode kM_make 50 = .ok (.iconst 0, 1) := by decide +kernel
theorem dM_make_51 : decode kM_make 51 = .ok (.iastore, 1) := by decide +kernel
theorem dM_make_52 : decode kM_make 52 = .ok (.aload_n 0, 1) := by decide +kernel
theorem dM_make_53 : decode kM_make 53 = .ok (.getfield 7, 3) := by decide +kernel
theorem dM_make_56 : decode kM_make 56 = .ok (.iload_n 2, 1) := by decide +kernel
theorem dM_make_57 : decode kM_make 57 = .ok (.baload, 1) := by decide +kernel
theorem dM_make_58 : decode kM_make 58 = .ok (.ifCond .eq 21, 3) := by decide +kernel
theorem dM_make_61 : decode kM_make 61 = .ok (.aload_n 0, 1) := by decide +kernel
theorem dM_make_62 : decode kM_make 62 = .ok (.getfield 42, 3) := by decide +kernel
theorem dM_make_65 : decode kM_make 65 = .ok (.iload_n 1, 1) := by decide +kernel
theorem dM_make_66 : decode kM_make 66 = .ok (.aload_n 0, 1) := by decide +kernel
theorem dM_make_67 : decode kM_make 67 = .ok (.iload_n 2, 1) := by decide +kernel
theorem dM_make_68 : decode kM_make 68 = .ok (.lconst 0, 1) := by decide +kernel
theorem dM_make_69 : decode kM_make 69 = .ok (.lconst 1, 1) := by decide +kernel
theorem dM_make_70 : decode kM_make 70 = .ok (.lconst 1, 1) := by decide +kernel
theorem dM_make_71 : decode kM_make 71 = .ok (.lconst 1, 1) := by decide +kernel
theorem dM_make_72 : decode kM_make 72 = .ok (.invokevirtual 158, 3) := by decide +kernel
theorem dM_make_75 : decode kM_make 75 = .ok (.iastore, 1) := by decide +kernel
theorem dM_make_76 : decode kM_make 76 = .ok (.iinc 1 1, 3) := by decide +kernel
theorem dM_make_79 : decode kM_make 79 = .ok (.iinc 2 1, 3) := by decide +kernel
theorem dM_make_82 : decode kM_make 82 = .ok (.goto (-43), 3) := by decide +kernel
theorem dM_make_85 : decode kM_make 85 = .ok (.aload_n 0, 1) := by decide +kernel
theorem dM_make_86 : decode kM_make 86 = .ok (.iconst 0, 1) := by decide +kernel
theorem dM_make_87 : decode kM_make 87 = .ok (.iload_n 1, 1) := by decide +kernel
theorem dM_make_88 : decode kM_make 88 = .ok (.iconst (-1), 1) := by decide +kernel
theorem dM_make_89 : decode kM_make 89 = .ok (.iconst 0, 1) := by decide +kernel
theorem dM_make_90 : decode kM_make 90 = .ok (.invokevirtual 177, 3) := by decide +kernel
theorem dM_make_93 : decode kM_make 93 = .ok (.aload_n 0, 1) := by decide +kernel
theorem dM_make_94 : decode kM_make 94 = .ok (.getfield 155, 3) := by decide +kernel
theorem dM_make_97 : decode kM_make 97 = .ok (.ifCond .le 56, 3) := by decide +kernel
theorem dM_make_100 : decode kM_make 100 = .ok (.aload_n 0, 1) := by decide +kernel
theorem dM_make_101 : decode kM_make 101 = .ok (.dup, 1) := by decide +kernel
theorem dM_make_102 : decode kM_make 102 = .ok (.getfield 155, 3) := by decide +kernel
theorem dM_make_105 : decode kM_make 105 = .ok (.iconst 1, 1) := by decide +kernel
theorem dM_make_106 : decode kM_make 106 = .ok (.isub, 1) := by decide +kernel
theorem dM_make_107 : decode kM_make 107 = .ok (.putfield 155, 3) := by decide +kernel
theorem dM_make_110 : decode kM_make 110 = .ok (.aload_n 0, 1) := by decide +kernel
theorem dM_make_111 : decode kM_make 111 = .ok (.aload_n 0, 1) := by decide +kernel
theorem dM_make_112 : decode kM_make 112 = .ok (.getfield 45, 3) := by decide +kernel
theorem dM_make_115 : decode kM_make 115 = .ok (.aload_n 0, 1) := by decide +kernel
theorem dM_make_116 : decode kM_make 116 = .ok (.getfield 155, 3) := by decide +kernel
theorem dM_make_119 : decode kM_make 119 = .ok (.iaload, 1) := by decide +kernel
theorem dM_make_120 : decode kM_make 120 = .ok (.aload_n 0, 1) := by decide +kernel
theorem dM_make_121 : decode kM_make 121 = .ok (.getfield 48, 3) := by decide +kernel
theorem dM_make_124 : decode kM_make 124 = .ok (.aload_n 0, 1) := by decide +kernel
theorem dM_make_125 : decode kM_make 125 = .ok (.getfield 155, 3) := by decide +kernel
theorem dM_make_128 : decode kM_make 128 = .ok (.iaload, 1) := by decide +kernel
theorem dM_make_129 : decode kM_make 129 = .ok (.aload_n 0, 1) := by decide +kernel
theorem dM_make_130 : decode kM_make 130 = .ok (.getfield 51, 3) := by decide +kernel
theorem dM_make_133 : decode kM_make 133 = .ok (.aload_n 0, 1) := by decide +kernel
theorem dM_make_134 : decode kM_make 134 = .ok (.getfield 155, 3) := by decide +kernel
theorem dM_make_137 : decode kM_make 137 = .ok (.iaload, 1) := by decide +kernel
theorem dM_make_138 : decode kM_make 138 = .ok (.aload_n 0, 1) := by decide +kernel
theorem dM_make_139 : decode kM_make 139 = .ok (.getfield 54, 3) := by decide +kernel
theorem dM_make_142 : decode kM_make 142 = .ok (.aload_n 0, 1) := by decide +kernel
theorem dM_make_143 : decode kM_make 143 = .ok (.getfield 155, 3) := by decide +kernel
theorem dM_make_146 : decode kM_make 146 = .ok (.iaload, 1) := by decide +kernel
theorem dM_make_147 : decode kM_make 147 = .ok (.invokevirtual 181, 3) := by decide +kernel
theorem dM_make_150 : decode kM_make 150 = .ok (.goto (-57), 3) := by decide +kernel
theorem dM_make_153 : decode kM_make 153 = .ok (.return_, 1) := by decide +kernel
theorem dM_piece_0 : decode kM_piece 0 = .ok (.aload_n 0, 1) := by decide +kernel
theorem dM_piece_1 : decode kM_piece 1 = .ok (.getfield 26, 3) := by decide +kernel
theorem dM_piece_4 : decode kM_piece 4 = .ok (.aload_n 0, 1) := by decide +kernel
theorem dM_piece_5 : decode kM_piece 5 = .ok (.getfield 139, 3) := by decide +kernel
theorem dM_piece_8 : decode kM_piece 8 = .ok (.iload_n 1, 1) := by decide +kernel
theorem dM_piece_9 : decode kM_piece 9 = .ok (.iastore, 1) := by decide +kernel
theorem dM_piece_10 : decode kM_piece 10 = .ok (.aload_n 0, 1) := by decide +kernel
theorem dM_piece_11 : decode kM_piece 11 = .ok (.getfield 29, 3) := by decide +kernel
theorem dM_piece_14 : decode kM_piece 14 = .ok (.aload_n 0, 1) := by decide +kernel
theorem dM_piece_15 : decode kM_piece 15 = .ok (.getfield 139, 3) := by decide +kernel
theorem dM_piece_18 : decode kM_piece 18 = .ok (.lload_n 2, 1) := by decide +kernel
theorem dM_piece_19 : decode kM_piece 19 = .ok (.lastore, 1) := by decide +kernel
theorem dM_piece_20 : decode kM_piece 20 = .ok (.aload_n 0, 1) := by decide +kernel
theorem dM_piece_21 : decode kM_piece 21 = .ok (.getfield 33, 3) := by decide +kernel
theorem dM_piece_24 : decode kM_piece 24 = .ok (.aload_n 0, 1) := by decide +kernel
theorem dM_piece_25 : decode kM_piece 25 = .ok (.getfield 139, 3) := by decide +kernel
theorem dM_piece_28 : decode kM_piece 28 = .ok (.lload 4, 2) := by decide +kernel
theorem dM_piece_30 : decode kM_piece 30 = .ok (.lastore, 1) := by decide +kernel
theorem dM_piece_31 : decode kM_piece 31 = .ok (.aload_n 0, 1) := by decide +kernel
theorem dM_piece_32 : decode kM_piece 32 = .ok (.getfield 36, 3) := by decide +kernel
theorem dM_piece_35 : decode kM_piece 35 = .ok (.aload_n 0, 1) := by decide +kernel
theorem dM_piece_36 : decode kM_piece 36 = .ok (.getfield 139, 3) := by decide +kernel
theorem dM_piece_39 : decode kM_piece 39 = .ok (.lload 6, 2) := by decide +kernel
theorem dM_piece_41 : decode kM_piece 41 = .ok (.lastore, 1) := by decide +kernel
theorem dM_piece_42 : decode kM_piece 42 = .ok (.aload_n 0, 1) := by decide +kernel
theorem dM_piece_43 : decode kM_piece 43 = .ok (.getfield 39, 3) := by decide +kernel
theorem dM_piece_46 : decode kM_piece 46 = .ok (.aload_n 0, 1) := by decide +kernel
theorem dM_piece_47 : decode kM_piece 47 = .ok (.getfield 139, 3) := by decide +kernel
theorem dM_piece_50 : decode kM_piece 50 = .ok (.lload 8, 2) := by decide +kernel
theorem dM_piece_52 : decode kM_piece 52 = .ok (.lastore, 1) := by decide +kernel
theorem dM_piece_53 : decode kM_piece 53 = .ok (.aload_n 0, 1) := by decide +kernel
theorem dM_piece_54 : decode kM_piece 54 = .ok (.dup, 1) := by decide +kernel
theorem dM_piece_55 : decode kM_piece 55 = .ok (.getfield 139, 3) := by decide +kernel
theorem dM_piece_58 : decode kM_piece 58 = .ok (.iconst 1, 1) := by decide +kernel
theorem dM_piece_59 : decode kM_piece 59 = .ok (.iadd, 1) := by decide +kernel
theorem dM_piece_60 : decode kM_piece 60 = .ok (.putfield 139, 3) := by decide +kernel
theorem dM_piece_63 : decode kM_piece 63 = .ok (.aload_n 0, 1) := by decide +kernel
theorem dM_piece_64 : decode kM_piece 64 = .ok (.getfield 139, 3) := by decide +kernel
theorem dM_piece_67 : decode kM_piece 67 = .ok (.iconst 1, 1) := by decide +kernel
theorem dM_piece_68 : decode kM_piece 68 = .ok (.isub, 1) := by decide +kernel
theorem dM_piece_69 : decode kM_piece 69 = .ok (.ireturn, 1) := by decide +kernel
theorem dM_push_0 : decode kM_push 0 = .ok (.aload_n 0, 1) := by decide +kernel
theorem dM_push_1 : decode kM_push 1 = .ok (.getfield 45, 3) := by decide +kernel
theorem dM_push_4 : decode kM_push 4 = .ok (.aload_n 0, 1) := by decide +kernel
theorem dM_push_5 : decode kM_push 5 = .ok (.getfield 155, 3) := by decide +kernel
theorem dM_push_8 : decode kM_push 8 = .ok (.iload_n 1, 1) := by decide +kernel
theorem dM_push_9 : decode kM_push 9 = .ok (.iastore, 1) := by decide +kernel
theorem dM_push_10 : decode kM_push 10 = .ok (.aload_n 0, 1) := by decide +kernel
theorem dM_push_11 : decode kM_push 11 = .ok (.getfield 48, 3) := by decide +kernel
theorem dM_push_14 : decode kM_push 14 = .ok (.aload_n 0, 1) := by decide +kernel
theorem dM_push_15 : decode kM_push 15 = .ok (.getfield 155, 3) := by decide +kernel
theorem dM_push_18 : decode kM_push 18 = .ok (.iload_n 2, 1) := by decide +kernel
theorem dM_push_19 : decode kM_push 19 = .ok (.iastore, 1) := by decide +kernel
theorem dM_push_20 : decode kM_push 20 = .ok (.aload_n 0, 1) := by decide +kernel
theorem dM_push_21 : decode kM_push 21 = .ok (.getfield 51, 3) := by decide +kernel
theorem dM_push_24 : decode kM_push 24 = .ok (.aload_n 0, 1) := by decide +kernel
theorem dM_push_25 : decode kM_push 25 = .ok (.getfield 155, 3) := by decide +kernel
theorem dM_push_28 : decode kM_push 28 = .ok (.iload_n 3, 1) := by decide +kernel
theorem dM_push_29 : decode kM_push 29 = .ok (.iastore, 1) := by decide +kernel
theorem dM_push_30 : decode kM_push 30 = .ok (.aload_n 0, 1) := by decide +kernel
theorem dM_push_31 : decode kM_push 31 = .ok (.getfield 54, 3) := by decide +kernel
theorem dM_push_34 : decode kM_push 34 = .ok (.aload_n 0, 1) := by decide +kernel
theorem dM_push_35 : decode kM_push 35 = .ok (.getfield 155, 3) := by decide +kernel
theorem dM_push_38 : decode kM_push 38 = .ok (.iload 4, 2) := by decide +kernel
theorem dM_push_40 : decode kM_push 40 = .ok (.iastore, 1) := by decide +kernel
theorem dM_push_41 : decode kM_push 41 = .ok (.aload_n 0, 1) := by decide +kernel
theorem dM_push_42 : decode kM_push 42 = .ok (.dup, 1) := by decide +kernel
theorem dM_push_43 : decode kM_push 43 = .ok (.getfield 155, 3) := by decide +kernel
theorem dM_push_46 : decode kM_push 46 = .ok (.iconst 1, 1) := by decide +kernel
theorem dM_push_47 : decode kM_push 47 = .ok (.iadd, 1) := by decide +kernel
theorem dM_push_48 : decode kM_push 48 = .ok (.putfield 155, 3) := by decide +kernel
theorem dM_push_51 : decode kM_push 51 = .ok (.return_, 1) := by decide +kernel
theorem dM_divide_0 : decode kM_divide 0 = .ok (.iload_n 2, 1) := by decide +kernel
theorem dM_divide_1 : decode kM_divide 1 = .ok (.ifCond .ne 12, 3) := by decide +kernel
theorem dM_divide_4 : decode kM_divide 4 = .ok (.iconst (-1), 1) := by decide +kernel
theorem dM_divide_5 : decode kM_divide 5 = .ok (.aload_n 0, 1) := by decide +kernel
theorem dM_divide_6 : decode kM_divide 6 = .ok (.getfield 168, 3) := by decide +kernel
theorem dM_divide_9 : decode kM_divide 9 = .ok (.isub, 1) := by decide +kernel
theorem dM_divide_10 : decode kM_divide 10 = .ok (.goto 7, 3) := by decide +kernel
theorem dM_divide_13 : decode kM_divide 13 = .ok (.aload_n 0, 1) := by decide +kernel
theorem dM_divide_14 : decode kM_divide 14 = .ok (.getfield 165, 3) := by decide +kernel
theorem dM_divide_17 : decode kM_divide 17 = .ok (.istore 5, 2) := by decide +kernel
theorem dM_divide_19 : decode kM_divide 19 = .ok (.iload_n 3, 1) := by decide +kernel
theorem dM_divide_20 : decode kM_divide 20 = .ok (.ifCond .lt 19, 3) := by decide +kernel
theorem dM_divide_23 : decode kM_divide 23 = .ok (.iload 4, 2) := by decide +kernel
theorem dM_divide_25 : decode kM_divide 25 = .ok (.ifCond .ne 14, 3) := by decide +kernel
theorem dM_divide_28 : decode kM_divide 28 = .ok (.aload_n 0, 1) := by decide +kernel
theorem dM_divide_29 : decode kM_divide 29 = .ok (.getfield 60, 3) := by decide +kernel
theorem dM_divide_32 : decode kM_divide 32 = .ok (.iload_n 3, 1) := by decide +kernel
theorem dM_divide_33 : decode kM_divide 33 = .ok (.iload 5, 2) := by decide +kernel
theorem dM_divide_35 : decode kM_divide 35 = .ok (.iastore, 1) := by decide +kernel
theorem dM_divide_36 : decode kM_divide 36 = .ok (.goto 15, 3) := by decide +kernel
theorem dM_divide_39 : decode kM_divide 39 = .ok (.iload_n 3, 1) := by decide +kernel
theorem dM_divide_40 : decode kM_divide 40 = .ok (.ifCond .lt 11, 3) := by decide +kernel
theorem dM_divide_43 : decode kM_divide 43 = .ok (.aload_n 0, 1) := by decide +kernel
theorem dM_divide_44 : decode kM_divide 44 = .ok (.getfield 63, 3) := by decide +kernel
theorem dM_divide_47 : decode kM_divide 47 = .ok (.iload_n 3, 1) := by decide +kernel
theorem dM_divide_48 : decode kM_divide 48 = .ok (.iload 5, 2) := by decide +kernel
theorem dM_divide_50 : decode kM_divide 50 = .ok (.iastore, 1) := by decide +kernel
theorem dM_divide_51 : decode kM_divide 51 = .ok (.iload_n 2, 1) := by decide +kernel
theorem dM_divide_52 : decode kM_divide 52 = .ok (.ifCond .ne 14, 3) := by decide +kernel
theorem dM_divide_55 : decode kM_divide 55 = .ok (.aload_n 0, 1) := by decide +kernel
theorem dM_divide_56 : decode kM_divide 56 = .ok (.dup, 1) := by decide +kernel
theorem dM_divide_57 : decode kM_divide 57 = .ok (.getfield 168, 3) := by decide +kernel
theorem dM_divide_60 : decode kM_divide 60 = .ok (.iconst 1, 1) := by decide +kernel
theorem dM_divide_61 : decode kM_divide 61 = .ok (.iadd, 1) := by decide +kernel
theorem dM_divide_62 : decode kM_divide 62 = .ok (.putfield 168, 3) := by decide +kernel
theorem dM_divide_65 : decode kM_divide 65 = .ok (.return_, 1) := by decide +kernel
theorem dM_divide_66 : decode kM_divide 66 = .ok (.aload_n 0, 1) := by decide +kernel
theorem dM_divide_67 : decode kM_divide 67 = .ok (.getfield 165, 3) := by decide +kernel
theorem dM_divide_70 : decode kM_divide 70 = .ok (.istore 6, 2) := by decide +kernel
theorem dM_divide_72 : decode kM_divide 72 = .ok (.aload_n 0, 1) := by decide +kernel
theorem dM_divide_73 : decode kM_divide 73 = .ok (.dup, 1) := by decide +kernel
theorem dM_divide_74 : decode kM_divide 74 = .ok (.getfield 165, 3) := by decide +kernel
theorem dM_divide_77 : decode kM_divide 77 = .ok (.iconst 1, 1) := by decide +kernel
theorem dM_divide_78 : decode kM_divide 78 = .ok (.iadd, 1) := by decide +kernel
theorem dM_divide_79 : decode kM_divide 79 = .ok (.putfield 165, 3) := by decide +kernel
theorem dM_divide_82 : decode kM_divide 82 = .ok (.aload_n 0, 1) := by decide +kernel
theorem dM_divide_83 : decode kM_divide 83 = .ok (.iload_n 1, 1) := by decide +kernel
theorem dM_divide_84 : decode kM_divide 84 = .ok (.iload_n 2, 1) := by decide +kernel
theorem dM_divide_85 : decode kM_divide 85 = .ok (.invokevirtual 184, 3) := by decide +kernel
theorem dM_divide_88 : decode kM_divide 88 = .ok (.istore 7, 2) := by decide +kernel
theorem dM_divide_90 : decode kM_divide 90 = .ok (.aload_n 0, 1) := by decide +kernel
theorem dM_divide_91 : decode kM_divide 91 = .ok (.getfield 57, 3) := by decide +kernel
theorem dM_divide_94 : decode kM_divide 94 = .ok (.iload 6, 2) := by decide +kernel
theorem dM_divide_96 : decode kM_divide 96 = .ok (.iload 7, 2) := by decide +kernel
theorem dM_divide_98 : decode kM_divide 98 = .ok (.iastore, 1) := by decide +kernel
theorem dM_divide_99 : decode kM_divide 99 = .ok (.aload_n 0, 1) := by decide +kernel
theorem dM_divide_100 : decode kM_divide 100 = .ok (.getfield 66, 3) := by decide +kernel
theorem dM_divide_103 : decode kM_divide 103 = .ok (.iload 6, 2) := by decide +kernel
theorem dM_divide_105 : decode kM_divide 105 = .ok (.iload_n 3, 1) := by decide +kernel
theorem dM_divide_106 : decode kM_divide 106 = .ok (.ifCond .ge 7, 3) := by decide +kernel
theorem dM_divide_109 : decode kM_divide 109 = .ok (.iconst 0, 1) := by decide +kernel
theorem dM_divide_110 : decode kM_divide 110 = .ok (.goto 11, 3) := by decide +kernel
theorem dM_divide_113 : decode kM_divide 113 = .ok (.aload_n 0, 1) := by decide +kernel
theorem dM_divide_114 : decode kM_divide 114 = .ok (.getfield 66, 3) := by decide +kernel
theorem dM_divide_117 : decode kM_divide 117 = .ok (.iload_n 3, 1) := by decide +kernel
theorem dM_divide_118 : decode kM_divide 118 = .ok (.iaload, 1) := by decide +kernel
theorem dM_divide_119 : decode kM_divide 119 = .ok (.iconst 1, 1) := by decide +kernel
theorem dM_divide_120 : decode kM_divide 120 = .ok (.iadd, 1) := by decide +kernel
theorem dM_divide_121 : decode kM_divide 121 = .ok (.iastore, 1) := by decide +kernel
theorem dM_divide_122 : decode kM_divide 122 = .ok (.aload_n 0, 1) := by decide +kernel
theorem dM_divide_123 : decode kM_divide 123 = .ok (.aload_n 0, 1) := by decide +kernel
theorem dM_divide_124 : decode kM_divide 124 = .ok (.getfield 66, 3) := by decide +kernel
theorem dM_divide_127 : decode kM_divide 127 = .ok (.iload 6, 2) := by decide +kernel
theorem dM_divide_129 : decode kM_divide 129 = .ok (.iaload, 1) := by decide +kernel
theorem dM_divide_130 : decode kM_divide 130 = .ok (.iconst 1, 1) := by decide +kernel
theorem dM_divide_131 : decode kM_divide 131 = .ok (.iadd, 1) := by decide +kernel
theorem dM_divide_132 : decode kM_divide 132 = .ok (.aload_n 0, 1) := by decide +kernel
theorem dM_divide_133 : decode kM_divide 133 = .ok (.getfield 174, 3) := by decide +kernel
theorem dM_divide_136 : decode kM_divide 136 = .ok (.if_icmp .le 15, 3) := by decide +kernel
theorem dM_divide_139 : decode kM_divide 139 = .ok (.aload_n 0, 1) := by decide +kernel
theorem dM_divide_140 : decode kM_divide 140 = .ok (.getfield 66, 3) := by decide +kernel
theorem dM_divide_143 : decode kM_divide 143 = .ok (.iload 6, 2) := by decide +kernel
theorem dM_divide_145 : decode kM_divide 145 = .ok (.iaload, 1) := by decide +kernel
theorem dM_divide_146 : decode kM_divide 146 = .ok (.iconst 1, 1) := by decide +kernel
theorem dM_divide_147 : decode kM_divide 147 = .ok (.iadd, 1) := by decide +kernel
theorem dM_divide_148 : decode kM_divide 148 = .ok (.goto 7, 3) := by decide +kernel
theorem dM_divide_151 : decode kM_divide 151 = .ok (.aload_n 0, 1) := by decide +kernel
theorem dM_divide_152 : decode kM_divide 152 = .ok (.getfield 174, 3) := by decide +kernel
theorem dM_divide_155 : decode kM_divide 155 = .ok (.putfield 174, 3) := by decide +kernel
theorem dM_divide_158 : decode kM_divide 158 = .ok (.aload_n 0, 1) := by decide +kernel
theorem dM_divide_159 : decode kM_divide 159 = .ok (.getfield 69, 3) := by decide +kernel
theorem dM_divide_162 : decode kM_divide 162 = .ok (.iload 6, 2) := by decide +kernel
theorem dM_divide_164 : decode kM_divide 164 = .ok (.aload_n 0, 1) := by decide +kernel
theorem dM_divide_165 : decode kM_divide 165 = .ok (.getfield 171, 3) := by decide +kernel
theorem dM_divide_168 : decode kM_divide 168 = .ok (.iastore, 1) := by decide +kernel
theorem dM_divide_169 : decode kM_divide 169 = .ok (.iconst 0, 1) := by decide +kernel
theorem dM_divide_170 : decode kM_divide 170 = .ok (.istore 8, 2) := by decide +kernel
theorem dM_divide_172 : decode kM_divide 172 = .ok (.iload 8, 2) := by decide +kernel
theorem dM_divide_174 : decode kM_divide 174 = .ok (.iload_n 2, 1) := by decide +kernel
theorem dM_divide_175 : decode kM_divide 175 = .ok (.if_icmp .ge 78, 3) := by decide +kernel
theorem dM_divide_178 : decode kM_divide 178 = .ok (.aload_n 0, 1) := by decide +kernel
theorem dM_divide_179 : decode kM_divide 179 = .ok (.iload 7, 2) := by decide +kernel
theorem dM_divide_181 : decode kM_divide 181 = .ok (.aload_n 0, 1) := by decide +kernel
theorem dM_divide_182 : decode kM_divide 182 = .ok (.getfield 42, 3) := by decide +kernel
theorem dM_divide_185 : decode kM_divide 185 = .ok (.iload_n 1, 1) := by decide +kernel
theorem dM_divide_186 : decode kM_divide 186 = .ok (.iload 8, 2) := by decide +kernel
theorem dM_divide_188 : decode kM_divide 188 = .ok (.iadd, 1) := by decide +kernel
theorem dM_divide_189 : decode kM_divide 189 = .ok (.iaload, 1) := by decide +kernel
theorem dM_divide_190 : decode kM_divide 190 = .ok (.invokevirtual 151, 3) := by decide +kernel
theorem dM_divide_193 : decode kM_divide 193 = .ok (.ifCond .ne 54, 3) := by decide +kernel
theorem dM_divide_196 : decode kM_divide 196 = .ok (.aload_n 0, 1) := by decide +kernel
theorem dM_divide_197 : decode kM_divide 197 = .ok (.getfield 75, 3) := by decide +kernel
theorem dM_divide_200 : decode kM_divide 200 = .ok (.aload_n 0, 1) := by decide +kernel
theorem dM_divide_201 : decode kM_divide 201 = .ok (.getfield 171, 3) := by decide +kernel
theorem dM_divide_204 : decode kM_divide 204 = .ok (.aload_n 0, 1) := by decide +kernel
theorem dM_divide_205 : decode kM_divide 205 = .ok (.getfield 42, 3) := by decide +kernel
theorem dM_divide_208 : decode kM_divide 208 = .ok (.iload_n 1, 1) := by decide +kernel
theorem dM_divide_209 : decode kM_divide 209 = .ok (.iload 8, 2) := by decide +kernel
theorem dM_divide_211 : decode kM_divide 211 = .ok (.iadd, 1) := by decide +kernel
theorem dM_divide_212 : decode kM_divide 212 = .ok (.iaload, 1) := by decide +kernel
theorem dM_divide_213 : decode kM_divide 213 = .ok (.iastore, 1) := by decide +kernel
theorem dM_divide_214 : decode kM_divide 214 = .ok (.aload_n 0, 1) := by decide +kernel
theorem dM_divide_215 : decode kM_divide 215 = .ok (.getfield 78, 3) := by decide +kernel
theorem dM_divide_218 : decode kM_divide 218 = .ok (.aload_n 0, 1) := by decide +kernel
theorem dM_divide_219 : decode kM_divide 219 = .ok (.getfield 26, 3) := by decide +kernel
theorem dM_divide_222 : decode kM_divide 222 = .ok (.aload_n 0, 1) := by decide +kernel
theorem dM_divide_223 : decode kM_divide 223 = .ok (.getfield 42, 3) := by decide +kernel
theorem dM_divide_226 : decode kM_divide 226 = .ok (.iload_n 1, 1) := by decide +kernel
theorem dM_divide_227 : decode kM_divide 227 = .ok (.iload 8, 2) := by decide +kernel
theorem dM_divide_229 : decode kM_divide 229 = .ok (.iadd, 1) := by decide +kernel
theorem dM_divide_230 : decode kM_divide 230 = .ok (.iaload, 1) := by decide +kernel
theorem dM_divide_231 : decode kM_divide 231 = .ok (.iaload, 1) := by decide +kernel
theorem dM_divide_232 : decode kM_divide 232 = .ok (.dup2, 1) := by decide +kernel
theorem dM_divide_233 : decode kM_divide 233 = .ok (.iaload, 1) := by decide +kernel
theorem dM_divide_234 : decode kM_divide 234 = .ok (.iconst 1, 1) := by decide +kernel
theorem dM_divide_235 : decode kM_divide 235 = .ok (.iadd, 1) := by decide +kernel
theorem dM_divide_236 : decode kM_divide 236 = .ok (.iastore, 1) := by decide +kernel
theorem dM_divide_237 : decode kM_divide 237 = .ok (.aload_n 0, 1) := by decide +kernel
theorem dM_divide_238 : decode kM_divide 238 = .ok (.dup, 1) := by decide +kernel
theorem dM_divide_239 : decode kM_divide 239 = .ok (.getfield 171, 3) := by decide +kernel
theorem dM_divide_242 : decode kM_divide 242 = .ok (.iconst 1, 1) := by decide +kernel
theorem dM_divide_243 : decode kM_divide 243 = .ok (.iadd, 1) := by decide +kernel
theorem dM_divide_244 : decode kM_divide 244 = .ok (.putfield 171, 3) := by decide +kernel
theorem dM_divide_247 : decode kM_divide 247 = .ok (.iinc 8 1, 3) := by decide +kernel
theorem dM_divide_250 : decode kM_divide 250 = .ok (.goto (-78), 3) := by decide +kernel
theorem dM_divide_253 : decode kM_divide 253 = .ok (.aload_n 0, 1) := by decide +kernel
theorem dM_divide_254 : decode kM_divide 254 = .ok (.getfield 72, 3) := by decide +kernel
theorem dM_divide_257 : decode kM_divide 257 = .ok (.iload 6, 2) := by decide +kernel
theorem dM_divide_259 : decode kM_divide 259 = .ok (.aload_n 0, 1) := by decide +kernel
theorem dM_divide_260 : decode kM_divide 260 = .ok (.getfield 171, 3) := by decide +kernel
theorem dM_divide_263 : decode kM_divide 263 = .ok (.aload_n 0, 1) := by decide +kernel
theorem dM_divide_264 : decode kM_divide 264 = .ok (.getfield 69, 3) := by decide +kernel
theorem dM_divide_267 : decode kM_divide 267 = .ok (.iload 6, 2) := by decide +kernel
theorem dM_divide_269 : decode kM_divide 269 = .ok (.iaload, 1) := by decide +kernel
theorem dM_divide_270 : decode kM_divide 270 = .ok (.isub, 1) := by decide +kernel
theorem dM_divide_271 : decode kM_divide 271 = .ok (.iastore, 1) := by decide +kernel
theorem dM_divide_272 : decode kM_divide 272 = .ok (.iload_n 1, 1) := by decide +kernel
theorem dM_divide_273 : decode kM_divide 273 = .ok (.iload_n 2, 1) := by decide +kernel
theorem dM_divide_274 : decode kM_divide 274 = .ok (.iadd, 1) := by decide +kernel
theorem dM_divide_275 : decode kM_divide 275 = .ok (.istore 8, 2) := by decide +kernel
theorem dM_divide_277 : decode kM_divide 277 = .ok (.aload_n 0, 1) := by decide +kernel
theorem dM_divide_278 : decode kM_divide 278 = .ok (.iload_n 1, 1) := by decide +kernel
theorem dM_divide_279 : decode kM_divide 279 = .ok (.iload_n 2, 1) := by decide +kernel
theorem dM_divide_280 : decode kM_divide 280 = .ok (.iload 7, 2) := by decide +kernel
theorem dM_divide_282 : decode kM_divide 282 = .ok (.iconst (-1), 1) := by decide +kernel
theorem dM_divide_283 : decode kM_divide 283 = .ok (.iload 8, 2) := by decide +kernel
theorem dM_divide_285 : decode kM_divide 285 = .ok (.invokevirtual 187, 3) := by decide +kernel
theorem dM_divide_288 : decode kM_divide 288 = .ok (.istore 9, 2) := by decide +kernel
theorem dM_divide_290 : decode kM_divide 290 = .ok (.iload 8, 2) := by decide +kernel
theorem dM_divide_292 : decode kM_divide 292 = .ok (.iload 9, 2) := by decide +kernel
theorem dM_divide_294 : decode kM_divide 294 = .ok (.iadd, 1) := by decide +kernel
theorem dM_divide_295 : decode kM_divide 295 = .ok (.istore 10, 2) := by decide +kernel
theorem dM_divide_297 : decode kM_divide 297 = .ok (.aload_n 0, 1) := by decide +kernel
theorem dM_divide_298 : decode kM_divide 298 = .ok (.iload_n 1, 1) := by decide +kernel
theorem dM_divide_299 : decode kM_divide 299 = .ok (.iload_n 2, 1) := by decide +kernel
theorem dM_divide_300 : decode kM_divide 300 = .ok (.iload 7, 2) := by decide +kernel
theorem dM_divide_302 : decode kM_divide 302 = .ok (.iconst 1, 1) := by decide +kernel
theorem dM_divide_303 : decode kM_divide 303 = .ok (.iload 10, 2) := by decide +kernel
theorem dM_divide_305 : decode kM_divide 305 = .ok (.invokevirtual 187, 3) := by decide +kernel
theorem dM_divide_308 : decode kM_divide 308 = .ok (.istore 11, 2) := by decide +kernel
theorem dM_divide_310 : decode kM_divide 310 = .ok (.aload_n 0, 1) := by decide +kernel
theorem dM_divide_311 : decode kM_divide 311 = .ok (.iload 8, 2) := by decide +kernel
theorem dM_divide_313 : decode kM_divide 313 = .ok (.iload 9, 2) := by decide +kernel
theorem dM_divide_315 : decode kM_divide 315 = .ok (.iload 6, 2) := by decide +kernel
theorem dM_divide_317 : decode kM_divide 317 = .ok (.iconst 1, 1) := by decide +kernel
theorem dM_divide_318 : decode kM_divide 318 = .ok (.invokevirtual 177, 3) := by decide +kernel
theorem dM_divide_321 : decode kM_divide 321 = .ok (.aload_n 0, 1) := by decide +kernel
theorem dM_divide_322 : decode kM_divide 322 = .ok (.iload 10, 2) := by decide +kernel
theorem dM_divide_324 : decode kM_divide 324 = .ok (.iload 11, 2) := by decide +kernel
theorem dM_divide_326 : decode kM_divide 326 = .ok (.iload 6, 2) := by decide +kernel
theorem dM_divide_328 : decode kM_divide 328 = .ok (.iconst 0, 1) := by decide +kernel
theorem dM_divide_329 : decode kM_divide 329 = .ok (.invokevirtual 177, 3) := by decide +kernel
theorem dM_divide_332 : decode kM_divide 332 = .ok (.return_, 1) := by decide +kernel
theorem dM_bestOf_0 : decode kM_bestOf 0 = .ok (.iconst 0, 1) := by decide +kernel
theorem dM_bestOf_1 : decode kM_bestOf 1 = .ok (.istore_n 3, 1) := by decide +kernel
theorem dM_bestOf_2 : decode kM_bestOf 2 = .ok (.ldc 150, 2) := by decide +kernel
theorem dM_bestOf_4 : decode kM_bestOf 4 = .ok (.istore 4, 2) := by decide +kernel
theorem dM_bestOf_6 : decode kM_bestOf 6 = .ok (.iconst 0, 1) := by decide +kernel
theorem dM_bestOf_7 : decode kM_bestOf 7 = .ok (.istore 5, 2) := by decide +kernel
theorem dM_bestOf_9 : decode kM_bestOf 9 = .ok (.iload 5, 2) := by decide +kernel
theorem dM_bestOf_11 : decode kM_bestOf 11 = .ok (.iload_n 2, 1) := by decide +kernel
theorem dM_bestOf_12 : decode kM_bestOf 12 = .ok (.if_icmp .ge 137, 3) := by decide +kernel
theorem dM_bestOf_15 : decode kM_bestOf 15 = .ok (.iload 5, 2) := by decide +kernel
theorem dM_bestOf_17 : decode kM_bestOf 17 = .ok (.bipush 16, 2) := by decide +kernel
theorem dM_bestOf_19 : decode kM_bestOf 19 = .ok (.if_icmp .ge 130, 3) := by decide +kernel
theorem dM_bestOf_22 : decode kM_bestOf 22 = .ok (.aload_n 0, 1) := by decide +kernel
theorem dM_bestOf_23 : decode kM_bestOf 23 = .ok (.getfield 26, 3) := by decide +kernel
theorem dM_bestOf_26 : decode kM_bestOf 26 = .ok (.aload_n 0, 1) := by decide +kernel
theorem dM_bestOf_27 : decode kM_bestOf 27 = .ok (.getfield 42, 3) := by decide +kernel
theorem dM_bestOf_30 : decode kM_bestOf 30 = .ok (.iload_n 1, 1) := by decide +kernel
theorem dM_bestOf_31 : decode kM_bestOf 31 = .ok (.iload 5, 2) := by decide +kernel
theorem dM_bestOf_33 : decode kM_bestOf 33 = .ok (.iadd, 1) := by decide +kernel
theorem dM_bestOf_34 : decode kM_bestOf 34 = .ok (.iaload, 1) := by decide +kernel
theorem dM_bestOf_35 : decode kM_bestOf 35 = .ok (.iaload, 1) := by decide +kernel
theorem dM_bestOf_36 : decode kM_bestOf 36 = .ok (.istore 6, 2) := by decide +kernel
theorem dM_bestOf_38 : decode kM_bestOf 38 = .ok (.iconst 0, 1) := by decide +kernel
theorem dM_bestOf_39 : decode kM_bestOf 39 = .ok (.istore 7, 2) := by decide +kernel
theorem dM_bestOf_41 : decode kM_bestOf 41 = .ok (.iconst 0, 1) := by decide +kernel
theorem dM_bestOf_42 : decode kM_bestOf 42 = .ok (.istore 8, 2) := by decide +kernel
theorem dM_bestOf_44 : decode kM_bestOf 44 = .ok (.iconst 0, 1) := by decide +kernel
theorem dM_bestOf_45 : decode kM_bestOf 45 = .ok (.istore 9, 2) := by decide +kernel
theorem dM_bestOf_47 : decode kM_bestOf 47 = .ok (.iload 9, 2) := by decide +kernel
theorem dM_bestOf_49 : decode kM_bestOf 49 = .ok (.iload_n 2, 1) := by decide +kernel
theorem dM_bestOf_50 : decode kM_bestOf 50 = .ok (.if_icmp .ge 59, 3) := by decide +kernel
theorem dM_bestOf_53 : decode kM_bestOf 53 = .ok (.aload_n 0, 1) := by decide +kernel
theorem dM_bestOf_54 : decode kM_bestOf 54 = .ok (.iload 6, 2) := by decide +kernel
theorem dM_bestOf_56 : decode kM_bestOf 56 = .ok (.aload_n 0, 1) := by decide +kernel
theorem dM_bestOf_57 : decode kM_bestOf 57 = .ok (.getfield 42, 3) := by decide +kernel
theorem dM_bestOf_60 : decode kM_bestOf 60 = .ok (.iload_n 1, 1) := by decide +kernel
theorem dM_bestOf_61 : decode kM_bestOf 61 = .ok (.iload 9, 2) := by decide +kernel
theorem dM_bestOf_63 : decode kM_bestOf 63 = .ok (.iadd, 1) := by decide +kernel
theorem dM_bestOf_64 : decode kM_bestOf 64 = .ok (.iaload, 1) := by decide +kernel
theorem dM_bestOf_65 : decode kM_bestOf 65 = .ok (.invokevirtual 151, 3) := by decide +kernel
theorem dM_bestOf_68 : decode kM_bestOf 68 = .ok (.istore 10, 2) := by decide +kernel
theorem dM_bestOf_70 : decode kM_bestOf 70 = .ok (.iload 7, 2) := by decide +kernel
theorem dM_bestOf_72 : decode kM_bestOf 72 = .ok (.iload 10, 2) := by decide +kernel
theorem dM_bestOf_74 : decode kM_bestOf 74 = .ok (.iconst 2, 1) := by decide +kernel
theorem dM_bestOf_75 : decode kM_bestOf 75 = .ok (.if_icmp .ne 7, 3) := by decide +kernel
theorem dM_bestOf_78 : decode kM_bestOf 78 = .ok (.iconst 1, 1) := by decide +kernel
theorem dM_bestOf_79 : decode kM_bestOf 79 = .ok (.goto 4, 3) := by decide +kernel
theorem dM_bestOf_82 : decode kM_bestOf 82 = .ok (.iconst 0, 1) := by decide +kernel
theorem dM_bestOf_83 : decode kM_bestOf 83 = .ok (.iadd, 1) := by decide +kernel
theorem dM_bestOf_84 : decode kM_bestOf 84 = .ok (.istore 7, 2) := by decide +kernel
theorem dM_bestOf_86 : decode kM_bestOf 86 = .ok (.iload 8, 2) := by decide +kernel
theorem dM_bestOf_88 : decode kM_bestOf 88 = .ok (.iload 10, 2) := by decide +kernel
theorem dM_bestOf_90 : decode kM_bestOf 90 = .ok (.iconst 2, 1) := by decide +kernel
theorem dM_bestOf_91 : decode kM_bestOf 91 = .ok (.if_icmp .ne 7, 3) := by decide +kernel
theorem dM_bestOf_94 : decode kM_bestOf 94 = .ok (.iconst 0, 1) := by decide +kernel
theorem dM_bestOf_95 : decode kM_bestOf 95 = .ok (.goto 5, 3) := by decide +kernel
theorem dM_bestOf_98 : decode kM_bestOf 98 = .ok (.iload 10, 2) := by decide +kernel
theorem dM_bestOf_100 : decode kM_bestOf 100 = .ok (.iadd, 1) := by decide +kernel
theorem dM_bestOf_101 : decode kM_bestOf 101 = .ok (.istore 8, 2) := by decide +kernel
theorem dM_bestOf_103 : decode kM_bestOf 103 = .ok (.iinc 9 1, 3) := by decide +kernel
theorem dM_bestOf_106 : decode kM_bestOf 106 = .ok (.goto (-59), 3) := by decide +kernel
theorem dM_bestOf_109 : decode kM_bestOf 109 = .ok (.iconst 4, 1) := by decide +kernel
theorem dM_bestOf_110 : decode kM_bestOf 110 = .ok (.iload 7, 2) := by decide +kernel
theorem dM_bestOf_112 : decode kM_bestOf 112 = .ok (.imul, 1) := by decide +kernel
theorem dM_bestOf_113 : decode kM_bestOf 113 = .ok (.iload 8, 2) := by decide +kernel
theorem dM_bestOf_115 : decode kM_bestOf 115 = .ok (.ifCond .ge 9, 3) := by decide +kernel
theorem dM_bestOf_118 : decode kM_bestOf 118 = .ok (.iload 8, 2) := by decide +kernel
theorem dM_bestOf_120 : decode kM_bestOf 120 = .ok (.ineg, 1) := by decide +kernel
theorem dM_bestOf_121 : decode kM_bestOf 121 = .ok (.goto 5, 3) := by decide +kernel
theorem dM_bestOf_124 : decode kM_bestOf 124 = .ok (.iload 8, 2) := by decide +kernel
theorem dM_bestOf_126 : decode kM_bestOf 126 = .ok (.iadd, 1) := by decide +kernel
theorem dM_bestOf_127 : decode kM_bestOf 127 = .ok (.istore 9, 2) := by decide +kernel
theorem dM_bestOf_129 : decode kM_bestOf 129 = .ok (.iload 9, 2) := by decide +kernel
theorem dM_bestOf_131 : decode kM_bestOf 131 = .ok (.iload 4, 2) := by decide +kernel
theorem dM_bestOf_133 : decode kM_bestOf 133 = .ok (.if_icmp .ge 10, 3) := by decide +kernel
theorem dM_bestOf_136 : decode kM_bestOf 136 = .ok (.iload 9, 2) := by decide +kernel
theorem dM_bestOf_138 : decode kM_bestOf 138 = .ok (.istore 4, 2) := by decide +kernel
theorem dM_bestOf_140 : decode kM_bestOf 140 = .ok (.iload 6, 2) := by decide +kernel
theorem dM_bestOf_142 : decode kM_bestOf 142 = .ok (.istore_n 3, 1) := by decide +kernel
theorem dM_bestOf_143 : decode kM_bestOf 143 = .ok (.iinc 5 1, 3) := by decide +kernel
theorem dM_bestOf_146 : decode kM_bestOf 146 = .ok (.goto (-137), 3) := by decide +kernel
theorem dM_bestOf_149 : decode kM_bestOf 149 = .ok (.iload_n 3, 1) := by decide +kernel
theorem dM_bestOf_150 : decode kM_bestOf 150 = .ok (.ireturn, 1) := by decide +kernel
theorem dM_lieOf_0 : decode kM_lieOf 0 = .ok (.aload_n 0, 1) := by decide +kernel
theorem dM_lieOf_1 : decode kM_lieOf 1 = .ok (.getfield 26, 3) := by decide +kernel
theorem dM_lieOf_4 : decode kM_lieOf 4 = .ok (.iload_n 2, 1) := by decide +kernel
theorem dM_lieOf_5 : decode kM_lieOf 5 = .ok (.iaload, 1) := by decide +kernel
theorem dM_lieOf_6 : decode kM_lieOf 6 = .ok (.istore_n 3, 1) := by decide +kernel
theorem dM_lieOf_7 : decode kM_lieOf 7 = .ok (.aload_n 0, 1) := by decide +kernel
theorem dM_lieOf_8 : decode kM_lieOf 8 = .ok (.iload_n 1, 1) := by decide +kernel
theorem dM_lieOf_9 : decode kM_lieOf 9 = .ok (.iload_n 3, 1) := by decide +kernel
theorem dM_lieOf_10 : decode kM_lieOf 10 = .ok (.aload_n 0, 1) := by decide +kernel
theorem dM_lieOf_11 : decode kM_lieOf 11 = .ok (.getfield 29, 3) := by decide +kernel
theorem dM_lieOf_14 : decode kM_lieOf 14 = .ok (.iload_n 2, 1) := by decide +kernel
theorem dM_lieOf_15 : decode kM_lieOf 15 = .ok (.laload, 1) := by decide +kernel
theorem dM_lieOf_16 : decode kM_lieOf 16 = .ok (.aload_n 0, 1) := by decide +kernel
theorem dM_lieOf_17 : decode kM_lieOf 17 = .ok (.getfield 33, 3) := by decide +kernel
theorem dM_lieOf_20 : decode kM_lieOf 20 = .ok (.iload_n 2, 1) := by decide +kernel
theorem dM_lieOf_21 : decode kM_lieOf 21 = .ok (.laload, 1) := by decide +kernel
theorem dM_lieOf_22 : decode kM_lieOf 22 = .ok (.invokevirtual 146, 3) := by decide +kernel
theorem dM_lieOf_25 : decode kM_lieOf 25 = .ok (.istore 4, 2) := by decide +kernel
theorem dM_lieOf_27 : decode kM_lieOf 27 = .ok (.aload_n 0, 1) := by decide +kernel
theorem dM_lieOf_28 : decode kM_lieOf 28 = .ok (.iload_n 1, 1) := by decide +kernel
theorem dM_lieOf_29 : decode kM_lieOf 29 = .ok (.iload_n 3, 1) := by decide +kernel
theorem dM_lieOf_30 : decode kM_lieOf 30 = .ok (.aload_n 0, 1) := by decide +kernel
theorem dM_lieOf_31 : decode kM_lieOf 31 = .ok (.getfield 36, 3) := by decide +kernel
theorem dM_lieOf_34 : decode kM_lieOf 34 = .ok (.iload_n 2, 1) := by decide +kernel
theorem dM_lieOf_35 : decode kM_lieOf 35 = .ok (.laload, 1) := by decide +kernel
theorem dM_lieOf_36 : decode kM_lieOf 36 = .ok (.aload_n 0, 1) := by decide +kernel
theorem dM_lieOf_37 : decode kM_lieOf 37 = .ok (.getfield 39, 3) := by decide +kernel
theorem dM_lieOf_40 : decode kM_lieOf 40 = .ok (.iload_n 2, 1) := by decide +kernel
theorem dM_lieOf_41 : decode kM_lieOf 41 = .ok (.laload, 1) := by decide +kernel
theorem dM_lieOf_42 : decode kM_lieOf 42 = .ok (.invokevirtual 146, 3) := by decide +kernel
theorem dM_lieOf_45 : decode kM_lieOf 45 = .ok (.istore 5, 2) := by decide +kernel
theorem dM_lieOf_47 : decode kM_lieOf 47 = .ok (.iload 4, 2) := by decide +kernel
theorem dM_lieOf_49 : decode kM_lieOf 49 = .ok (.iload 5, 2) := by decide +kernel
theorem dM_lieOf_51 : decode kM_lieOf 51 = .ok (.imul, 1) := by decide +kernel
theorem dM_lieOf_52 : decode kM_lieOf 52 = .ok (.ifCond .ge 7, 3) := by decide +kernel
theorem dM_lieOf_55 : decode kM_lieOf 55 = .ok (.iconst 2, 1) := by decide +kernel
theorem dM_lieOf_56 : decode kM_lieOf 56 = .ok (.goto 15, 3) := by decide +kernel
theorem dM_lieOf_59 : decode kM_lieOf 59 = .ok (.iload 4, 2) := by decide +kernel
theorem dM_lieOf_61 : decode kM_lieOf 61 = .ok (.ifCond .eq 8, 3) := by decide +kernel
theorem dM_lieOf_64 : decode kM_lieOf 64 = .ok (.iload 4, 2) := by decide +kernel
theorem dM_lieOf_66 : decode kM_lieOf 66 = .ok (.goto 5, 3) := by decide +kernel
theorem dM_lieOf_69 : decode kM_lieOf 69 = .ok (.iload 5, 2) := by decide +kernel
theorem dM_lieOf_71 : decode kM_lieOf 71 = .ok (.ireturn, 1) := by decide +kernel
theorem dM_sideAt_0 : decode kM_sideAt 0 = .ok (.aload_n 0, 1) := by decide +kernel
theorem dM_sideAt_1 : decode kM_sideAt 1 = .ok (.iload_n 1, 1) := by decide +kernel
theorem dM_sideAt_2 : decode kM_sideAt 2 = .ok (.aload_n 0, 1) := by decide +kernel
theorem dM_sideAt_3 : decode kM_sideAt 3 = .ok (.getfield 13, 3) := by decide +kernel
theorem dM_sideAt_6 : decode kM_sideAt 6 = .ok (.iload_n 2, 1) := by decide +kernel
theorem dM_sideAt_7 : decode kM_sideAt 7 = .ok (.iaload, 1) := by decide +kernel
theorem dM_sideAt_8 : decode kM_sideAt 8 = .ok (.i2l, 1) := by decide +kernel
theorem dM_sideAt_9 : decode kM_sideAt 9 = .ok (.aload_n 0, 1) := by decide +kernel
theorem dM_sideAt_10 : decode kM_sideAt 10 = .ok (.getfield 17, 3) := by decide +kernel
theorem dM_sideAt_13 : decode kM_sideAt 13 = .ok (.iload_n 2, 1) := by decide +kernel
theorem dM_sideAt_14 : decode kM_sideAt 14 = .ok (.iaload, 1) := by decide +kernel
theorem dM_sideAt_15 : decode kM_sideAt 15 = .ok (.i2l, 1) := by decide +kernel
theorem dM_sideAt_16 : decode kM_sideAt 16 = .ok (.invokevirtual 106, 3) := by decide +kernel
theorem dM_sideAt_19 : decode kM_sideAt 19 = .ok (.lstore 7, 2) := by decide +kernel
theorem dM_sideAt_21 : decode kM_sideAt 21 = .ok (.aload_n 0, 1) := by decide +kernel
theorem dM_sideAt_22 : decode kM_sideAt 22 = .ok (.iload_n 1, 1) := by decide +kernel
theorem dM_sideAt_23 : decode kM_sideAt 23 = .ok (.aload_n 0, 1) := by decide +kernel
theorem dM_sideAt_24 : decode kM_sideAt 24 = .ok (.getfield 20, 3) := by decide +kernel
theorem dM_sideAt_27 : decode kM_sideAt 27 = .ok (.iload_n 2, 1) := by decide +kernel
theorem dM_sideAt_28 : decode kM_sideAt 28 = .ok (.iaload, 1) := by decide +kernel
theorem dM_sideAt_29 : decode kM_sideAt 29 = .ok (.i2l, 1) := by decide +kernel
theorem dM_sideAt_30 : decode kM_sideAt 30 = .ok (.aload_n 0, 1) := by decide +kernel
theorem dM_sideAt_31 : decode kM_sideAt 31 = .ok (.getfield 23, 3) := by decide +kernel
theorem dM_sideAt_34 : decode kM_sideAt 34 = .ok (.iload_n 2, 1) := by decide +kernel
theorem dM_sideAt_35 : decode kM_sideAt 35 = .ok (.iaload, 1) := by decide +kernel
theorem dM_sideAt_36 : decode kM_sideAt 36 = .ok (.i2l, 1) := by decide +kernel
theorem dM_sideAt_37 : decode kM_sideAt 37 = .ok (.invokevirtual 106, 3) := by decide +kernel
theorem dM_sideAt_40 : decode kM_sideAt 40 = .ok (.lstore 9, 2) := by decide +kernel
theorem dM_sideAt_42 : decode kM_sideAt 42 = .ok (.lload 7, 2) := by decide +kernel
theorem dM_sideAt_44 : decode kM_sideAt 44 = .ok (.lload 5, 2) := by decide +kernel
theorem dM_sideAt_46 : decode kM_sideAt 46 = .ok (.lload_n 3, 1) := by decide +kernel
theorem dM_sideAt_47 : decode kM_sideAt 47 = .ok (.lsub, 1) := by decide +kernel
theorem dM_sideAt_48 : decode kM_sideAt 48 = .ok (.lload 9, 2) := by decide +kernel
theorem dM_sideAt_50 : decode kM_sideAt 50 = .ok (.lneg, 1) := by decide +kernel
theorem dM_sideAt_51 : decode kM_sideAt 51 = .ok (.lload_n 3, 1) := by decide +kernel
theorem dM_sideAt_52 : decode kM_sideAt 52 = .ok (.invokestatic 142, 3) := by decide +kernel
theorem dM_sideAt_55 : decode kM_sideAt 55 = .ok (.ireturn, 1) := by decide +kernel
theorem dM_order_0 : decode kM_order 0 = .ok (.lload_n 0, 1) := by decide +kernel
theorem dM_order_1 : decode kM_order 1 = .ok (.lload_n 2, 1) := by decide +kernel
theorem dM_order_2 : decode kM_order 2 = .ok (.invokestatic 88, 3) := by decide +kernel
theorem dM_order_5 : decode kM_order 5 = .ok (.lstore 8, 2) := by decide +kernel
theorem dM_order_7 : decode kM_order 7 = .ok (.lload 4, 2) := by decide +kernel
theorem dM_order_9 : decode kM_order 9 = .ok (.lload 6, 2) := by decide +kernel
theorem dM_order_11 : decode kM_order 11 = .ok (.invokestatic 88, 3) := by decide +kernel
theorem dM_order_14 : decode kM_order 14 = .ok (.lstore 10, 2) := by decide +kernel
theorem dM_order_16 : decode kM_order 16 = .ok (.lload 8, 2) := by decide +kernel
theorem dM_order_18 : decode kM_order 18 = .ok (.lload 10, 2) := by decide +kernel
theorem dM_order_20 : decode kM_order 20 = .ok (.lcmp, 1) := by decide +kernel
theorem dM_order_21 : decode kM_order 21 = .ok (.ifCond .eq 17, 3) := by decide +kernel
theorem dM_order_24 : decode kM_order 24 = .ok (.lload 8, 2) := by decide +kernel
theorem dM_order_26 : decode kM_order 26 = .ok (.lload 10, 2) := by decide +kernel
theorem dM_order_28 : decode kM_order 28 = .ok (.lcmp, 1) := by decide +kernel
theorem dM_order_29 : decode kM_order 29 = .ok (.ifCond .le 7, 3) := by decide +kernel
theorem dM_order_32 : decode kM_order 32 = .ok (.iconst 1, 1) := by decide +kernel
theorem dM_order_33 : decode kM_order 33 = .ok (.goto 4, 3) := by decide +kernel
theorem dM_order_36 : decode kM_order 36 = .ok (.iconst (-1), 1) := by decide +kernel
theorem dM_order_37 : decode kM_order 37 = .ok (.ireturn, 1) := by decide +kernel
theorem dM_order_38 : decode kM_order 38 = .ok (.lload_n 0, 1) := by decide +kernel
theorem dM_order_39 : decode kM_order 39 = .ok (.lload_n 2, 1) := by decide +kernel
theorem dM_order_40 : decode kM_order 40 = .ok (.lmul, 1) := by decide +kernel
theorem dM_order_41 : decode kM_order 41 = .ok (.ldc2_w 96, 3) := by decide +kernel
theorem dM_order_44 : decode kM_order 44 = .ok (.ladd, 1) := by decide +kernel
theorem dM_order_45 : decode kM_order 45 = .ok (.lstore 12, 2) := by decide +kernel
theorem dM_order_47 : decode kM_order 47 = .ok (.lload 4, 2) := by decide +kernel
theorem dM_order_49 : decode kM_order 49 = .ok (.lload 6, 2) := by decide +kernel
theorem dM_order_51 : decode kM_order 51 = .ok (.lmul, 1) := by decide +kernel
theorem dM_order_52 : decode kM_order 52 = .ok (.ldc2_w 96, 3) := by decide +kernel
theorem dM_order_55 : decode kM_order 55 = .ok (.ladd, 1) := by decide +kernel
theorem dM_order_56 : decode kM_order 56 = .ok (.lstore 14, 2) := by decide +kernel
theorem dM_order_58 : decode kM_order 58 = .ok (.lload 12, 2) := by decide +kernel
theorem dM_order_60 : decode kM_order 60 = .ok (.lload 14, 2) := by decide +kernel
theorem dM_order_62 : decode kM_order 62 = .ok (.lcmp, 1) := by decide +kernel
theorem dM_order_63 : decode kM_order 63 = .ok (.ifCond .le 7, 3) := by decide +kernel
theorem dM_order_66 : decode kM_order 66 = .ok (.iconst 1, 1) := by decide +kernel
theorem dM_order_67 : decode kM_order 67 = .ok (.goto 16, 3) := by decide +kernel
theorem dM_order_70 : decode kM_order 70 = .ok (.lload 12, 2) := by decide +kernel
theorem dM_order_72 : decode kM_order 72 = .ok (.lload 14, 2) := by decide +kernel
theorem dM_order_74 : decode kM_order 74 = .ok (.lcmp, 1) := by decide +kernel
theorem dM_order_75 : decode kM_order 75 = .ok (.ifCond .ge 7, 3) := by decide +kernel
theorem dM_order_78 : decode kM_order 78 = .ok (.iconst (-1), 1) := by decide +kernel
theorem dM_order_79 : decode kM_order 79 = .ok (.goto 4, 3) := by decide +kernel
theorem dM_order_82 : decode kM_order 82 = .ok (.iconst 0, 1) := by decide +kernel
theorem dM_order_83 : decode kM_order 83 = .ok (.ireturn, 1) := by decide +kernel
theorem dM_collect_0 : decode kM_collect 0 = .ok (.iconst 0, 1) := by decide +kernel
theorem dM_collect_1 : decode kM_collect 1 = .ok (.istore 6, 2) := by decide +kernel
theorem dM_collect_3 : decode kM_collect 3 = .ok (.iconst 0, 1) := by decide +kernel
theorem dM_collect_4 : decode kM_collect 4 = .ok (.istore 7, 2) := by decide +kernel
theorem dM_collect_6 : decode kM_collect 6 = .ok (.iload 7, 2) := by decide +kernel
theorem dM_collect_8 : decode kM_collect 8 = .ok (.iload_n 2, 1) := by decide +kernel
theorem dM_collect_9 : decode kM_collect 9 = .ok (.if_icmp .ge 101, 3) := by decide +kernel
theorem dM_collect_12 : decode kM_collect 12 = .ok (.aload_n 0, 1) := by decide +kernel
theorem dM_collect_13 : decode kM_collect 13 = .ok (.getfield 42, 3) := by decide +kernel
theorem dM_collect_16 : decode kM_collect 16 = .ok (.iload_n 1, 1) := by decide +kernel
theorem dM_collect_17 : decode kM_collect 17 = .ok (.iload 7, 2) := by decide +kernel
theorem dM_collect_19 : decode kM_collect 19 = .ok (.iadd, 1) := by decide +kernel
theorem dM_collect_20 : decode kM_collect 20 = .ok (.iaload, 1) := by decide +kernel
theorem dM_collect_21 : decode kM_collect 21 = .ok (.istore 8, 2) := by decide +kernel
theorem dM_collect_23 : decode kM_collect 23 = .ok (.aload_n 0, 1) := by decide +kernel
theorem dM_collect_24 : decode kM_collect 24 = .ok (.iload_n 3, 1) := by decide +kernel
theorem dM_collect_25 : decode kM_collect 25 = .ok (.iload 8, 2) := by decide +kernel
theorem dM_collect_27 : decode kM_collect 27 = .ok (.invokevirtual 151, 3) := by decide +kernel
theorem dM_collect_30 : decode kM_collect 30 = .ok (.istore 9, 2) := by decide +kernel
theorem dM_collect_32 : decode kM_collect 32 = .ok (.iload 9, 2) := by decide +kernel
theorem dM_collect_34 : decode kM_collect 34 = .ok (.iload 4, 2) := by decide +kernel
theorem dM_collect_36 : decode kM_collect 36 = .ok (.if_icmp .eq 9, 3) := by decide +kernel
theorem dM_collect_39 : decode kM_collect 39 = .ok (.iload 9, 2) := by decide +kernel
theorem dM_collect_41 : decode kM_collect 41 = .ok (.iconst 2, 1) := by decide +kernel
theorem dM_collect_42 : decode kM_collect 42 = .ok (.if_icmp .ne 62, 3) := by decide +kernel
theorem dM_collect_45 : decode kM_collect 45 = .ok (.aload_n 0, 1) := by decide +kernel
theorem dM_collect_46 : decode kM_collect 46 = .ok (.getfield 42, 3) := by decide +kernel
theorem dM_collect_49 : decode kM_collect 49 = .ok (.iload 5, 2) := by decide +kernel
theorem dM_collect_51 : decode kM_collect 51 = .ok (.iload 6, 2) := by decide +kernel
theorem dM_collect_53 : decode kM_collect 53 = .ok (.iadd, 1) := by decide +kernel
theorem dM_collect_54 : decode kM_collect 54 = .ok (.iload 9, 2) := by decide +kernel
theorem dM_collect_56 : decode kM_collect 56 = .ok (.iconst 2, 1) := by decide +kernel
theorem dM_collect_57 : decode kM_collect 57 = .ok (.if_icmp .ne 15, 3) := by decide +kernel
theorem dM_collect_60 : decode kM_collect 60 = .ok (.aload_n 0, 1) := by decide +kernel
theorem dM_collect_61 : decode kM_collect 61 = .ok (.iload 8, 2) := by decide +kernel
theorem dM_collect_63 : decode kM_collect 63 = .ok (.iload_n 3, 1) := by decide +kernel
theorem dM_collect_64 : decode kM_collect 64 = .ok (.iload 4, 2) := by decide +kernel
theorem dM_collect_66 : decode kM_collect 66 = .ok (.invokevirtual 191, 3) := by decide +kernel
theorem dM_collect_69 : decode kM_collect 69 = .ok (.goto 5, 3) := by decide +kernel
theorem dM_collect_72 : decode kM_collect 72 = .ok (.iload 8, 2) := by decide +kernel
theorem dM_collect_74 : decode kM_collect 74 = .ok (.iastore, 1) := by decide +kernel
theorem dM_collect_75 : decode kM_collect 75 = .ok (.iinc 6 1, 3) := by decide +kernel
theorem dM_collect_78 : decode kM_collect 78 = .ok (.aload_n 0, 1) := by decide +kernel
theorem dM_collect_79 : decode kM_collect 79 = .ok (.dup, 1) := by decide +kernel
theorem dM_collect_80 : decode kM_collect 80 = .ok (.getfield 162, 3) := by decide +kernel
theorem dM_collect_83 : decode kM_collect 83 = .ok (.iload 9, 2) := by decide +kernel
theorem dM_collect_85 : decode kM_collect 85 = .ok (.iconst 2, 1) := by decide +kernel
theorem dM_collect_86 : decode kM_collect 86 = .ok (.if_icmp .ne 13, 3) := by decide +kernel
theorem dM_collect_89 : decode kM_collect 89 = .ok (.iload 4, 2) := by decide +kernel
theorem dM_collect_91 : decode kM_collect 91 = .ok (.iconst 1, 1) := by decide +kernel
theorem dM_collect_92 : decode kM_collect 92 = .ok (.if_icmp .ne 7, 3) := by decide +kernel
theorem dM_collect_95 : decode kM_collect 95 = .ok (.iconst 1, 1) := by decide +kernel
theorem dM_collect_96 : decode kM_collect 96 = .ok (.goto 4, 3) := by decide +kernel
theorem dM_collect_99 : decode kM_collect 99 = .ok (.iconst 0, 1) := by decide +kernel
theorem dM_collect_100 : decode kM_collect 100 = .ok (.iadd, 1) := by decide +kernel
theorem dM_collect_101 : decode kM_collect 101 = .ok (.putfield 162, 3) := by decide +kernel
theorem dM_collect_104 : decode kM_collect 104 = .ok (.iinc 7 1, 3) := by decide +kernel
theorem dM_collect_107 : decode kM_collect 107 = .ok (.goto (-101), 3) := by decide +kernel
theorem dM_collect_110 : decode kM_collect 110 = .ok (.iload 6, 2) := by decide +kernel
theorem dM_collect_112 : decode kM_collect 112 = .ok (.ireturn, 1) := by decide +kernel
theorem dM_part_0 : decode kM_part 0 = .ok (.aload_n 0, 1) := by decide +kernel
theorem dM_part_1 : decode kM_part 1 = .ok (.getfield 26, 3) := by decide +kernel
theorem dM_part_4 : decode kM_part 4 = .ok (.iload_n 1, 1) := by decide +kernel
theorem dM_part_5 : decode kM_part 5 = .ok (.iaload, 1) := by decide +kernel
theorem dM_part_6 : decode kM_part 6 = .ok (.istore 4, 2) := by decide +kernel
theorem dM_part_8 : decode kM_part 8 = .ok (.aload_n 0, 1) := by decide +kernel
theorem dM_part_9 : decode kM_part 9 = .ok (.iload_n 2, 1) := by decide +kernel
theorem dM_part_10 : decode kM_part 10 = .ok (.aload_n 0, 1) := by decide +kernel
theorem dM_part_11 : decode kM_part 11 = .ok (.getfield 13, 3) := by decide +kernel
theorem dM_part_14 : decode kM_part 14 = .ok (.iload 4, 2) := by decide +kernel
theorem dM_part_16 : decode kM_part 16 = .ok (.iaload, 1) := by decide +kernel
theorem dM_part_17 : decode kM_part 17 = .ok (.i2l, 1) := by decide +kernel
theorem dM_part_18 : decode kM_part 18 = .ok (.aload_n 0, 1) := by decide +kernel
theorem dM_part_19 : decode kM_part 19 = .ok (.getfield 17, 3) := by decide +kernel
theorem dM_part_22 : decode kM_part 22 = .ok (.iload 4, 2) := by decide +kernel
theorem dM_part_24 : decode kM_part 24 = .ok (.iaload, 1) := by decide +kernel
theorem dM_part_25 : decode kM_part 25 = .ok (.i2l, 1) := by decide +kernel
theorem dM_part_26 : decode kM_part 26 = .ok (.invokevirtual 106, 3) := by decide +kernel
theorem dM_part_29 : decode kM_part 29 = .ok (.lstore 5, 2) := by decide +kernel
theorem dM_part_31 : decode kM_part 31 = .ok (.lload 5, 2) := by decide +kernel
theorem dM_part_33 : decode kM_part 33 = .ok (.aload_n 0, 1) := by decide +kernel
theorem dM_part_34 : decode kM_part 34 = .ok (.iload_n 2, 1) := by decide +kernel
theorem dM_part_35 : decode kM_part 35 = .ok (.aload_n 0, 1) := by decide +kernel
theorem dM_part_36 : decode kM_part 36 = .ok (.getfield 20, 3) := by decide +kernel
theorem dM_part_39 : decode kM_part 39 = .ok (.iload 4, 2) := by decide +kernel
theorem dM_part_41 : decode kM_part 41 = .ok (.iaload, 1) := by decide +kernel
theorem dM_part_42 : decode kM_part 42 = .ok (.i2l, 1) := by decide +kernel
theorem dM_part_43 : decode kM_part 43 = .ok (.aload_n 0, 1) := by decide +kernel
theorem dM_part_44 : decode kM_part 44 = .ok (.getfield 23, 3) := by decide +kernel
theorem dM_part_47 : decode kM_part 47 = .ok (.iload 4, 2) := by decide +kernel
theorem dM_part_49 : decode kM_part 49 = .ok (.iaload, 1) := by decide +kernel
theorem dM_part_50 : decode kM_part 50 = .ok (.i2l, 1) := by decide +kernel
theorem dM_part_51 : decode kM_part 51 = .ok (.invokevirtual 106, 3) := by decide +kernel
theorem dM_part_54 : decode kM_part 54 = .ok (.lsub, 1) := by decide +kernel
theorem dM_part_55 : decode kM_part 55 = .ok (.lstore 7, 2) := by decide +kernel
theorem dM_part_57 : decode kM_part 57 = .ok (.lload 7, 2) := by decide +kernel
theorem dM_part_59 : decode kM_part 59 = .ok (.lconst 0, 1) := by decide +kernel
theorem dM_part_60 : decode kM_part 60 = .ok (.lcmp, 1) := by decide +kernel
theorem dM_part_61 : decode kM_part 61 = .ok (.ifCond .ge 13, 3) := by decide +kernel
theorem dM_part_64 : decode kM_part 64 = .ok (.lload 5, 2) := by decide +kernel
theorem dM_part_66 : decode kM_part 66 = .ok (.lneg, 1) := by decide +kernel
theorem dM_part_67 : decode kM_part 67 = .ok (.lstore 5, 2) := by decide +kernel
theorem dM_part_69 : decode kM_part 69 = .ok (.lload 7, 2) := by decide +kernel
theorem dM_part_71 : decode kM_part 71 = .ok (.lneg, 1) := by decide +kernel
theorem dM_part_72 : decode kM_part 72 = .ok (.lstore 7, 2) := by decide +kernel
theorem dM_part_74 : decode kM_part 74 = .ok (.aload_n 0, 1) := by decide +kernel
theorem dM_part_75 : decode kM_part 75 = .ok (.iload_n 2, 1) := by decide +kernel
theorem dM_part_76 : decode kM_part 76 = .ok (.iload 4, 2) := by decide +kernel
theorem dM_part_78 : decode kM_part 78 = .ok (.aload_n 0, 1) := by decide +kernel
theorem dM_part_79 : decode kM_part 79 = .ok (.getfield 29, 3) := by decide +kernel
theorem dM_part_82 : decode kM_part 82 = .ok (.iload_n 1, 1) := by decide +kernel
theorem dM_part_83 : decode kM_part 83 = .ok (.laload, 1) := by decide +kernel
theorem dM_part_84 : decode kM_part 84 = .ok (.aload_n 0, 1) := by decide +kernel
theorem dM_part_85 : decode kM_part 85 = .ok (.getfield 33, 3) := by decide +kernel
theorem dM_part_88 : decode kM_part 88 = .ok (.iload_n 1, 1) := by decide +kernel
theorem dM_part_89 : decode kM_part 89 = .ok (.laload, 1) := by decide +kernel
theorem dM_part_90 : decode kM_part 90 = .ok (.invokevirtual 146, 3) := by decide +kernel
theorem dM_part_93 : decode kM_part 93 = .ok (.iload_n 3, 1) := by decide +kernel
theorem dM_part_94 : decode kM_part 94 = .ok (.if_icmp .ne 7, 3) := by decide +kernel
theorem dM_part_97 : decode kM_part 97 = .ok (.iconst 1, 1) := by decide +kernel
theorem dM_part_98 : decode kM_part 98 = .ok (.goto 4, 3) := by decide +kernel
theorem dM_part_101 : decode kM_part 101 = .ok (.iconst 0, 1) := by decide +kernel
theorem dM_part_102 : decode kM_part 102 = .ok (.istore 9, 2) := by decide +kernel
theorem dM_part_104 : decode kM_part 104 = .ok (.iload 9, 2) := by decide +kernel
theorem dM_part_106 : decode kM_part 106 = .ok (.ifCond .eq 28, 3) := by decide +kernel
theorem dM_part_109 : decode kM_part 109 = .ok (.aload_n 0, 1) := by decide +kernel
theorem dM_part_110 : decode kM_part 110 = .ok (.iload 4, 2) := by decide +kernel
theorem dM_part_112 : decode kM_part 112 = .ok (.aload_n 0, 1) := by decide +kernel
theorem dM_part_113 : decode kM_part 113 = .ok (.getfield 29, 3) := by decide +kernel
theorem dM_part_116 : decode kM_part 116 = .ok (.iload_n 1, 1) := by decide +kernel
theorem dM_part_117 : decode kM_part 117 = .ok (.laload, 1) := by decide +kernel
theorem dM_part_118 : decode kM_part 118 = .ok (.aload_n 0, 1) := by decide +kernel
theorem dM_part_119 : decode kM_part 119 = .ok (.getfield 33, 3) := by decide +kernel
theorem dM_part_122 : decode kM_part 122 = .ok (.iload_n 1, 1) := by decide +kernel
theorem dM_part_123 : decode kM_part 123 = .ok (.laload, 1) := by decide +kernel
theorem dM_part_124 : decode kM_part 124 = .ok (.lload 5, 2) := by decide +kernel
theorem dM_part_126 : decode kM_part 126 = .ok (.lload 7, 2) := by decide +kernel
theorem dM_part_128 : decode kM_part 128 = .ok (.invokevirtual 158, 3) := by decide +kernel
theorem dM_part_131 : decode kM_part 131 = .ok (.goto 25, 3) := by decide +kernel
theorem dM_part_134 : decode kM_part 134 = .ok (.aload_n 0, 1) := by decide +kernel
theorem dM_part_135 : decode kM_part 135 = .ok (.iload 4, 2) := by decide +kernel
theorem dM_part_137 : decode kM_part 137 = .ok (.lload 5, 2) := by decide +kernel
theorem dM_part_139 : decode kM_part 139 = .ok (.lload 7, 2) := by decide +kernel
theorem dM_part_141 : decode kM_part 141 = .ok (.aload_n 0, 1) := by decide +kernel
theorem dM_part_142 : decode kM_part 142 = .ok (.getfield 36, 3) := by decide +kernel
theorem dM_part_145 : decode kM_part 145 = .ok (.iload_n 1, 1) := by decide +kernel
theorem dM_part_146 : decode kM_part 146 = .ok (.laload, 1) := by decide +kernel
theorem dM_part_147 : decode kM_part 147 = .ok (.aload_n 0, 1) := by decide +kernel
theorem dM_part_148 : decode kM_part 148 = .ok (.getfield 39, 3) := by decide +kernel
theorem dM_part_151 : decode kM_part 151 = .ok (.iload_n 1, 1) := by decide +kernel
theorem dM_part_152 : decode kM_part 152 = .ok (.laload, 1) := by decide +kernel
theorem dM_part_153 : decode kM_part 153 = .ok (.invokevirtual 158, 3) := by decide +kernel
theorem dM_part_156 : decode kM_part 156 = .ok (.ireturn, 1) := by decide +kernel
theorem dM_within_0 : decode kM_within 0 = .ok (.iload_n 1, 1) := by decide +kernel
theorem dM_within_1 : decode kM_within 1 = .ok (.iconst 1, 1) := by decide +kernel
theorem dM_within_2 : decode kM_within 2 = .ok (.iadd, 1) := by decide +kernel
theorem dM_within_3 : decode kM_within 3 = .ok (.istore_n 2, 1) := by decide +kernel
theorem dM_within_4 : decode kM_within 4 = .ok (.iload_n 2, 1) := by decide +kernel
theorem dM_within_5 : decode kM_within 5 = .ok (.aload_n 0, 1) := by decide +kernel
theorem dM_within_6 : decode kM_within 6 = .ok (.getfield 165, 3) := by decide +kernel
theorem dM_within_9 : decode kM_within 9 = .ok (.if_icmp .ge 24, 3) := by decide +kernel
theorem dM_within_12 : decode kM_within 12 = .ok (.aload_n 0, 1) := by decide +kernel
theorem dM_within_13 : decode kM_within 13 = .ok (.getfield 66, 3) := by decide +kernel
theorem dM_within_16 : decode kM_within 16 = .ok (.iload_n 2, 1) := by decide +kernel
theorem dM_within_17 : decode kM_within 17 = .ok (.iaload, 1) := by decide +kernel
theorem dM_within_18 : decode kM_within 18 = .ok (.aload_n 0, 1) := by decide +kernel
theorem dM_within_19 : decode kM_within 19 = .ok (.getfield 66, 3) := by decide +kernel
theorem dM_within_22 : decode kM_within 22 = .ok (.iload_n 1, 1) := by decide +kernel
theorem dM_within_23 : decode kM_within 23 = .ok (.iaload, 1) := by decide +kernel
theorem dM_within_24 : decode kM_within 24 = .ok (.if_icmp .le 9, 3) := by decide +kernel
theorem dM_within_27 : decode kM_within 27 = .ok (.iinc 2 1, 3) := by decide +kernel
theorem dM_within_30 : decode kM_within 30 = .ok (.goto (-26), 3) := by decide +kernel
theorem dM_within_33 : decode kM_within 33 = .ok (.iload_n 2, 1) := by decide +kernel
theorem dM_within_34 : decode kM_within 34 = .ok (.iload_n 1, 1) := by decide +kernel
theorem dM_within_35 : decode kM_within 35 = .ok (.isub, 1) := by decide +kernel
theorem dM_within_36 : decode kM_within 36 = .ok (.ireturn, 1) := by decide +kernel
theorem dM_wall_0 : decode kM_wall 0 = .ok (.aload_n 0, 1) := by decide +kernel
theorem dM_wall_1 : decode kM_wall 1 = .ok (.iconst 0, 1) := by decide +kernel
theorem dM_wall_2 : decode kM_wall 2 = .ok (.putfield 84, 3) := by decide +kernel
theorem dM_wall_5 : decode kM_wall 5 = .ok (.aload_n 0, 1) := by decide +kernel
theorem dM_wall_6 : decode kM_wall 6 = .ok (.iload_n 1, 1) := by decide +kernel
theorem dM_wall_7 : decode kM_wall 7 = .ok (.iload_n 2, 1) := by decide +kernel
theorem dM_wall_8 : decode kM_wall 8 = .ok (.invokevirtual 208, 3) := by decide +kernel
theorem dM_wall_11 : decode kM_wall 11 = .ok (.ifCond .eq 24, 3) := by decide +kernel
theorem dM_wall_14 : decode kM_wall 14 = .ok (.aload_n 0, 1) := by decide +kernel
theorem dM_wall_15 : decode kM_wall 15 = .ok (.getfield 26, 3) := by decide +kernel
theorem dM_wall_18 : decode kM_wall 18 = .ok (.aload_n 0, 1) := by decide +kernel
theorem dM_wall_19 : decode kM_wall 19 = .ok (.getfield 75, 3) := by decide +kernel
theorem dM_wall_22 : decode kM_wall 22 = .ok (.aload_n 0, 1) := by decide +kernel
theorem dM_wall_23 : decode kM_wall 23 = .ok (.getfield 69, 3) := by decide +kernel
theorem dM_wall_26 : decode kM_wall 26 = .ok (.iload_n 1, 1) := by decide +kernel
theorem dM_wall_27 : decode kM_wall 27 = .ok (.iaload, 1) := by decide +kernel
theorem dM_wall_28 : decode kM_wall 28 = .ok (.iload_n 2, 1) := by decide +kernel
theorem dM_wall_29 : decode kM_wall 29 = .ok (.iadd, 1) := by decide +kernel
theorem dM_wall_30 : decode kM_wall 30 = .ok (.iaload, 1) := by decide +kernel
theorem dM_wall_31 : decode kM_wall 31 = .ok (.iaload, 1) := by decide +kernel
theorem dM_wall_32 : decode kM_wall 32 = .ok (.goto 4, 3) := by decide +kernel
theorem dM_wall_35 : decode kM_wall 35 = .ok (.iconst (-1), 1) := by decide +kernel
theorem dM_wall_36 : decode kM_wall 36 = .ok (.ireturn, 1) := by decide +kernel
theorem dM_isOn_0 : decode kM_isOn 0 = .ok (.aload_n 0, 1) := by decide +kernel
theorem dM_isOn_1 : decode kM_isOn 1 = .ok (.iload_n 1, 1) := by decide +kernel
theorem dM_isOn_2 : decode kM_isOn 2 = .ok (.invokevirtual 201, 3) := by decide +kernel
theorem dM_isOn_5 : decode kM_isOn 5 = .ok (.ifCond .eq 33, 3) := by decide +kernel
theorem dM_isOn_8 : decode kM_isOn 8 = .ok (.iload_n 2, 1) := by decide +kernel
theorem dM_isOn_9 : decode kM_isOn 9 = .ok (.ifCond .lt 29, 3) := by decide +kernel
theorem dM_isOn_12 : decode kM_isOn 12 = .ok (.iload_n 2, 1) := by decide +kernel
theorem dM_isOn_13 : decode kM_isOn 13 = .ok (.aload_n 0, 1) := by decide +kernel
theorem dM_isOn_14 : decode kM_isOn 14 = .ok (.getfield 72, 3) := by decide +kernel
theorem dM_isOn_17 : decode kM_isOn 17 = .ok (.aload_n 0, 1) := by decide +kernel
theorem dM_isOn_18 : decode kM_isOn 18 = .ok (.iload_n 1, 1) := by decide +kernel
theorem dM_isOn_19 : decode kM_isOn 19 = .ok (.invokevirtual 201, 3) := by decide +kernel
theorem dM_isOn_22 : decode kM_isOn 22 = .ok (.ifCond .eq 7, 3) := by decide +kernel
theorem dM_isOn_25 : decode kM_isOn 25 = .ok (.iload_n 1, 1) := by decide +kernel
theorem dM_isOn_26 : decode kM_isOn 26 = .ok (.goto 4, 3) := by decide +kernel
theorem dM_isOn_29 : decode kM_isOn 29 = .ok (.iconst 0, 1) := by decide +kernel
theorem dM_isOn_30 : decode kM_isOn 30 = .ok (.iaload, 1) := by decide +kernel
theorem dM_isOn_31 : decode kM_isOn 31 = .ok (.if_icmp .ge 7, 3) := by decide +kernel
theorem dM_isOn_34 : decode kM_isOn 34 = .ok (.iconst 1, 1) := by decide +kernel
theorem dM_isOn_35 : decode kM_isOn 35 = .ok (.goto 4, 3) := by decide +kernel
theorem dM_isOn_38 : decode kM_isOn 38 = .ok (.iconst 0, 1) := by decide +kernel
theorem dM_isOn_39 : decode kM_isOn 39 = .ok (.ireturn, 1) := by decide +kernel
theorem dM_quotient_0 : decode kM_quotient 0 = .ok (.aload_n 0, 1) := by decide +kernel
theorem dM_quotient_1 : decode kM_quotient 1 = .ok (.iconst 0, 1) := by decide +kernel
theorem dM_quotient_2 : decode kM_quotient 2 = .ok (.putfield 84, 3) := by decide +kernel
theorem dM_quotient_5 : decode kM_quotient 5 = .ok (.aload_n 0, 1) := by decide +kernel
theorem dM_quotient_6 : decode kM_quotient 6 = .ok (.iload_n 1, 1) := by decide +kernel
theorem dM_quotient_7 : decode kM_quotient 7 = .ok (.iload_n 2, 1) := by decide +kernel
theorem dM_quotient_8 : decode kM_quotient 8 = .ok (.invokevirtual 208, 3) := by decide +kernel
theorem dM_quotient_11 : decode kM_quotient 11 = .ok (.ifCond .eq 12, 3) := by decide +kernel
theorem dM_quotient_14 : decode kM_quotient 14 = .ok (.iload_n 3, 1) := by decide +kernel
theorem dM_quotient_15 : decode kM_quotient 15 = .ok (.ifCond .lt 8, 3) := by decide +kernel
theorem dM_quotient_18 : decode kM_quotient 18 = .ok (.iload_n 3, 1) := by decide +kernel
theorem dM_quotient_19 : decode kM_quotient 19 = .ok (.iconst 3, 1) := by decide +kernel
theorem dM_quotient_20 : decode kM_quotient 20 = .ok (.if_icmp .le 7, 3) := by decide +kernel
theorem dM_quotient_23 : decode kM_quotient 23 = .ok (.ldc2_w 211, 3) := by decide +kernel
theorem dM_quotient_26 : decode kM_quotient 26 = .ok (.lreturn, 1) := by decide +kernel
theorem dM_quotient_27 : decode kM_quotient 27 = .ok (.aload_n 0, 1) := by decide +kernel
theorem dM_quotient_28 : decode kM_quotient 28 = .ok (.getfield 75, 3) := by decide +kernel
theorem dM_quotient_31 : decode kM_quotient 31 = .ok (.aload_n 0, 1) := by decide +kernel
theorem dM_quotient_32 : decode kM_quotient 32 = .ok (.getfield 69, 3) := by decide +kernel
theorem dM_quotient_35 : decode kM_quotient 35 = .ok (.iload_n 1, 1) := by decide +kernel
theorem dM_quotient_36 : decode kM_quotient 36 = .ok (.iaload, 1) := by decide +kernel
theorem dM_quotient_37 : decode kM_quotient 37 = .ok (.iload_n 2, 1) := by decide +kernel
theorem dM_quotient_38 : decode kM_quotient 38 = .ok (.iadd, 1) := by decide +kernel
theorem dM_quotient_39 : decode kM_quotient 39 = .ok (.iaload, 1) := by decide +kernel
theorem dM_quotient_40 : decode kM_quotient 40 = .ok (.istore 4, 2) := by decide +kernel
theorem dM_quotient_42 : decode kM_quotient 42 = .ok (.iload_n 3, 1) := by decide +kernel
theorem dM_quotient_43 : decode kM_quotient 43 = .ok (.iconst 2, 1) := by decide +kernel
theorem dM_quotient_44 : decode kM_quotient 44 = .ok (.if_icmp .ge 13, 3) := by decide +kernel
theorem dM_quotient_47 : decode kM_quotient 47 = .ok (.aload_n 0, 1) := by decide +kernel
theorem dM_quotient_48 : decode kM_quotient 48 = .ok (.getfield 29, 3) := by decide +kernel
theorem dM_quotient_51 : decode kM_quotient 51 = .ok (.iload 4, 2) := by decide +kernel
theorem dM_quotient_53 : decode kM_quotient 53 = .ok (.laload, 1) := by decide +kernel
theorem dM_quotient_54 : decode kM_quotient 54 = .ok (.goto 10, 3) := by decide +kernel
theorem dM_quotient_57 : decode kM_quotient 57 = .ok (.aload_n 0, 1) := by decide +kernel
theorem dM_quotient_58 : decode kM_quotient 58 = .ok (.getfield 36, 3) := by decide +kernel
theorem dM_quotient_61 : decode kM_quotient 61 = .ok (.iload 4, 2) := by decide +kernel
theorem dM_quotient_63 : decode kM_quotient 63 = .ok (.laload, 1) := by decide +kernel
theorem dM_quotient_64 : decode kM_quotient 64 = .ok (.lstore 5, 2) := by decide +kernel
theorem dM_quotient_66 : decode kM_quotient 66 = .ok (.iload_n 3, 1) := by decide +kernel
theorem dM_quotient_67 : decode kM_quotient 67 = .ok (.iconst 2, 1) := by decide +kernel
theorem dM_quotient_68 : decode kM_quotient 68 = .ok (.if_icmp .ge 13, 3) := by decide +kernel
theorem dM_quotient_71 : decode kM_quotient 71 = .ok (.aload_n 0, 1) := by decide +kernel
theorem dM_quotient_72 : decode kM_quotient 72 = .ok (.getfield 33, 3) := by decide +kernel
theorem dM_quotient_75 : decode kM_quotient 75 = .ok (.iload 4, 2) := by decide +kernel
theorem dM_quotient_77 : decode kM_quotient 77 = .ok (.laload, 1) := by decide +kernel
theorem dM_quotient_78 : decode kM_quotient 78 = .ok (.goto 10, 3) := by decide +kernel
theorem dM_quotient_81 : decode kM_quotient 81 = .ok (.aload_n 0, 1) := by decide +kernel
theorem dM_quotient_82 : decode kM_quotient 82 = .ok (.getfield 39, 3) := by decide +kernel
theorem dM_quotient_85 : decode kM_quotient 85 = .ok (.iload 4, 2) := by decide +kernel
theorem dM_quotient_87 : decode kM_quotient 87 = .ok (.laload, 1) := by decide +kernel
theorem dM_quotient_88 : decode kM_quotient 88 = .ok (.lstore 7, 2) := by decide +kernel
theorem dM_quotient_90 : decode kM_quotient 90 = .ok (.iload_n 3, 1) := by decide +kernel
theorem dM_quotient_91 : decode kM_quotient 91 = .ok (.iconst 2, 1) := by decide +kernel
theorem dM_quotient_92 : decode kM_quotient 92 = .ok (.irem, 1) := by decide +kernel
theorem dM_quotient_93 : decode kM_quotient 93 = .ok (.ifCond .ne 8, 3) := by decide +kernel
theorem dM_quotient_96 : decode kM_quotient 96 = .ok (.lload 5, 2) := by decide +kernel
theorem dM_quotient_98 : decode kM_quotient 98 = .ok (.goto 5, 3) := by decide +kernel
theorem dM_quotient_101 : decode kM_quotient 101 = .ok (.lload 7, 2) := by decide +kernel
theorem dM_quotient_103 : decode kM_quotient 103 = .ok (.lload 5, 2) := by decide +kernel
theorem dM_quotient_105 : decode kM_quotient 105 = .ok (.lload 7, 2) := by decide +kernel
theorem dM_quotient_107 : decode kM_quotient 107 = .ok (.invokestatic 213, 3) := by decide +kernel
theorem dM_quotient_110 : decode kM_quotient 110 = .ok (.ldiv, 1) := by decide +kernel
theorem dM_quotient_111 : decode kM_quotient 111 = .ok (.lreturn, 1) := by decide +kernel
theorem dM_common_0 : decode kM_common 0 = .ok (.lload_n 0, 1) := by decide +kernel
theorem dM_common_1 : decode kM_common 1 = .ok (.lstore 4, 2) := by decide +kernel
theorem dM_common_3 : decode kM_common 3 = .ok (.lload_n 2, 1) := by decide +kernel
theorem dM_common_4 : decode kM_common 4 = .ok (.lstore 6, 2) := by decide +kernel
theorem dM_common_6 : decode kM_common 6 = .ok (.lload 6, 2) := by decide +kernel
theorem dM_common_8 : decode kM_common 8 = .ok (.lconst 0, 1) := by decide +kernel
theorem dM_common_9 : decode kM_common 9 = .ok (.lcmp, 1) := by decide +kernel
theorem dM_common_10 : decode kM_common 10 = .ok (.ifCond .le 21, 3) := by decide +kernel
theorem dM_common_13 : decode kM_common 13 = .ok (.lload 4, 2) := by decide +kernel
theorem dM_common_15 : decode kM_common 15 = .ok (.lload 6, 2) := by decide +kernel
theorem dM_common_17 : decode kM_common 17 = .ok (.lrem, 1) := by decide +kernel
theorem dM_common_18 : decode kM_common 18 = .ok (.lstore 8, 2) := by decide +kernel
theorem dM_common_20 : decode kM_common 20 = .ok (.lload 6, 2) := by decide +kernel
theorem dM_common_22 : decode kM_common 22 = .ok (.lstore 4, 2) := by decide +kernel
theorem dM_common_24 : decode kM_common 24 = .ok (.lload 8, 2) := by decide +kernel
theorem dM_common_26 : decode kM_common 26 = .ok (.lstore 6, 2) := by decide +kernel
theorem dM_common_28 : decode kM_common 28 = .ok (.goto (-22), 3) := by decide +kernel
theorem dM_common_31 : decode kM_common 31 = .ok (.lload 4, 2) := by decide +kernel
theorem dM_common_33 : decode kM_common 33 = .ok (.lreturn, 1) := by decide +kernel
theorem dM_leaf_0 : decode kM_leaf 0 = .ok (.aload_n 0, 1) := by decide +kernel
theorem dM_leaf_1 : decode kM_leaf 1 = .ok (.iconst 0, 1) := by decide +kernel
theorem dM_leaf_2 : decode kM_leaf 2 = .ok (.putfield 84, 3) := by decide +kernel
theorem dM_leaf_5 : decode kM_leaf 5 = .ok (.iload_n 1, 1) := by decide +kernel
theorem dM_leaf_6 : decode kM_leaf 6 = .ok (.invokestatic 121, 3) := by decide +kernel
theorem dM_leaf_9 : decode kM_leaf 9 = .ok (.ifCond .eq 10, 3) := by decide +kernel
theorem dM_leaf_12 : decode kM_leaf 12 = .ok (.iload_n 2, 1) := by decide +kernel
theorem dM_leaf_13 : decode kM_leaf 13 = .ok (.invokestatic 121, 3) := by decide +kernel
theorem dM_leaf_16 : decode kM_leaf 16 = .ok (.ifCond .ne 5, 3) := by decide +kernel
theorem dM_leaf_19 : decode kM_leaf 19 = .ok (.iconst (-1), 1) := by decide +kernel
theorem dM_leaf_20 : decode kM_leaf 20 = .ok (.ireturn, 1) := by decide +kernel
theorem dM_leaf_21 : decode kM_leaf 21 = .ok (.aload_n 0, 1) := by decide +kernel
theorem dM_leaf_22 : decode kM_leaf 22 = .ok (.invokevirtual 198, 3) := by decide +kernel
theorem dM_leaf_25 : decode kM_leaf 25 = .ok (.aload_n 0, 1) := by decide +kernel
theorem dM_leaf_26 : decode kM_leaf 26 = .ok (.getfield 165, 3) := by decide +kernel
theorem dM_leaf_29 : decode kM_leaf 29 = .ok (.ifCond .le 7, 3) := by decide +kernel
theorem dM_leaf_32 : decode kM_leaf 32 = .ok (.iconst 0, 1) := by decide +kernel
theorem dM_leaf_33 : decode kM_leaf 33 = .ok (.goto 4, 3) := by decide +kernel
theorem dM_leaf_36 : decode kM_leaf 36 = .ok (.iconst (-1), 1) := by decide +kernel
theorem dM_leaf_37 : decode kM_leaf 37 = .ok (.istore_n 3, 1) := by decide +kernel
theorem dM_leaf_38 : decode kM_leaf 38 = .ok (.iload_n 3, 1) := by decide +kernel
theorem dM_leaf_39 : decode kM_leaf 39 = .ok (.ifCond .lt 32, 3) := by decide +kernel
theorem dM_leaf_42 : decode kM_leaf 42 = .ok (.aload_n 0, 1) := by decide +kernel
theorem dM_leaf_43 : decode kM_leaf 43 = .ok (.iload_n 3, 1) := by decide +kernel
theorem dM_leaf_44 : decode kM_leaf 44 = .ok (.iload_n 1, 1) := by decide +kernel
theorem dM_leaf_45 : decode kM_leaf 45 = .ok (.iload_n 2, 1) := by decide +kernel
theorem dM_leaf_46 : decode kM_leaf 46 = .ok (.invokevirtual 216, 3) := by decide +kernel
theorem dM_leaf_49 : decode kM_leaf 49 = .ok (.ifCond .eq 12, 3) := by decide +kernel
theorem dM_leaf_52 : decode kM_leaf 52 = .ok (.aload_n 0, 1) := by decide +kernel
theorem dM_leaf_53 : decode kM_leaf 53 = .ok (.getfield 60, 3) := by decide +kernel
theorem dM_leaf_56 : decode kM_leaf 56 = .ok (.iload_n 3, 1) := by decide +kernel
theorem dM_leaf_57 : decode kM_leaf 57 = .ok (.iaload, 1) := by decide +kernel
theorem dM_leaf_58 : decode kM_leaf 58 = .ok (.goto 9, 3) := by decide +kernel
theorem dM_leaf_61 : decode kM_leaf 61 = .ok (.aload_n 0, 1) := by decide +kernel
theorem dM_leaf_62 : decode kM_leaf 62 = .ok (.getfield 63, 3) := by decide +kernel
theorem dM_leaf_65 : decode kM_leaf 65 = .ok (.iload_n 3, 1) := by decide +kernel
theorem dM_leaf_66 : decode kM_leaf 66 = .ok (.iaload, 1) := by decide +kernel
theorem dM_leaf_67 : decode kM_leaf 67 = .ok (.istore_n 3, 1) := by decide +kernel
theorem dM_leaf_68 : decode kM_leaf 68 = .ok (.goto (-30), 3) := by decide +kernel
theorem dM_leaf_71 : decode kM_leaf 71 = .ok (.iconst (-1), 1) := by decide +kernel
theorem dM_leaf_72 : decode kM_leaf 72 = .ok (.iload_n 3, 1) := by decide +kernel
theorem dM_leaf_73 : decode kM_leaf 73 = .ok (.isub, 1) := by decide +kernel
theorem dM_leaf_74 : decode kM_leaf 74 = .ok (.ireturn, 1) := by decide +kernel
theorem dM_isLeft_0 : decode kM_isLeft 0 = .ok (.aload_n 0, 1) := by decide +kernel
theorem dM_isLeft_1 : decode kM_isLeft 1 = .ok (.aload_n 0, 1) := by decide +kernel
theorem dM_isLeft_2 : decode kM_isLeft 2 = .ok (.getfield 57, 3) := by decide +kernel
theorem dM_isLeft_5 : decode kM_isLeft 5 = .ok (.iload_n 1, 1) := by decide +kernel
theorem dM_isLeft_6 : decode kM_isLeft 6 = .ok (.iaload, 1) := by decide +kernel
theorem dM_isLeft_7 : decode kM_isLeft 7 = .ok (.iload_n 2, 1) := by decide +kernel
theorem dM_isLeft_8 : decode kM_isLeft 8 = .ok (.i2l, 1) := by decide +kernel
theorem dM_isLeft_9 : decode kM_isLeft 9 = .ok (.iload_n 3, 1) := by decide +kernel
theorem dM_isLeft_10 : decode kM_isLeft 10 = .ok (.i2l, 1) := by decide +kernel
theorem dM_isLeft_11 : decode kM_isLeft 11 = .ok (.invokevirtual 106, 3) := by decide +kernel
theorem dM_isLeft_14 : decode kM_isLeft 14 = .ok (.lconst 0, 1) := by decide +kernel
theorem dM_isLeft_15 : decode kM_isLeft 15 = .ok (.lcmp, 1) := by decide +kernel
theorem dM_isLeft_16 : decode kM_isLeft 16 = .ok (.ifCond .le 7, 3) := by decide +kernel
theorem dM_isLeft_19 : decode kM_isLeft 19 = .ok (.iconst 1, 1) := by decide +kernel
theorem dM_isLeft_20 : decode kM_isLeft 20 = .ok (.goto 4, 3) := by decide +kernel
theorem dM_isLeft_23 : decode kM_isLeft 23 = .ok (.iconst 0, 1) := by decide +kernel
theorem dM_isLeft_24 : decode kM_isLeft 24 = .ok (.ireturn, 1) := by decide +kernel
theorem dM_way_0 : decode kM_way 0 = .ok (.aload_n 0, 1) := by decide +kernel
theorem dM_way_1 : decode kM_way 1 = .ok (.iconst 0, 1) := by decide +kernel
theorem dM_way_2 : decode kM_way 2 = .ok (.putfield 84, 3) := by decide +kernel
theorem dM_way_5 : decode kM_way 5 = .ok (.iload_n 1, 1) := by decide +kernel
theorem dM_way_6 : decode kM_way 6 = .ok (.invokestatic 121, 3) := by decide +kernel
theorem dM_way_9 : decode kM_way 9 = .ok (.ifCond .eq 10, 3) := by decide +kernel
theorem dM_way_12 : decode kM_way 12 = .ok (.iload_n 2, 1) := by decide +kernel
theorem dM_way_13 : decode kM_way 13 = .ok (.invokestatic 121, 3) := by decide +kernel
theorem dM_way_16 : decode kM_way 16 = .ok (.ifCond .ne 5, 3) := by decide +kernel
theorem dM_way_19 : decode kM_way 19 = .ok (.iconst (-1), 1) := by decide +kernel
theorem dM_way_20 : decode kM_way 20 = .ok (.ireturn, 1) := by decide +kernel
theorem dM_way_21 : decode kM_way 21 = .ok (.aload_n 0, 1) := by decide +kernel
theorem dM_way_22 : decode kM_way 22 = .ok (.iconst 1, 1) := by decide +kernel
theorem dM_way_23 : decode kM_way 23 = .ok (.putfield 219, 3) := by decide +kernel
theorem dM_way_26 : decode kM_way 26 = .ok (.aload_n 0, 1) := by decide +kernel
theorem dM_way_27 : decode kM_way 27 = .ok (.iload_n 1, 1) := by decide +kernel
theorem dM_way_28 : decode kM_way 28 = .ok (.putfield 222, 3) := by decide +kernel
theorem dM_way_31 : decode kM_way 31 = .ok (.aload_n 0, 1) := by decide +kernel
theorem dM_way_32 : decode kM_way 32 = .ok (.iload_n 2, 1) := by decide +kernel
theorem dM_way_33 : decode kM_way 33 = .ok (.putfield 225, 3) := by decide +kernel
theorem dM_way_36 : decode kM_way 36 = .ok (.aload_n 0, 1) := by decide +kernel
theorem dM_way_37 : decode kM_way 37 = .ok (.invokevirtual 198, 3) := by decide +kernel
theorem dM_way_40 : decode kM_way 40 = .ok (.aload_n 0, 1) := by decide +kernel
theorem dM_way_41 : decode kM_way 41 = .ok (.getfield 171, 3) := by decide +kernel
theorem dM_way_44 : decode kM_way 44 = .ok (.ireturn, 1) := by decide +kernel
theorem dM_step_0 : decode kM_step 0 = .ok (.aload_n 0, 1) := by decide +kernel
theorem dM_step_1 : decode kM_step 1 = .ok (.iconst 0, 1) := by decide +kernel
theorem dM_step_2 : decode kM_step 2 = .ok (.putfield 84, 3) := by decide +kernel
theorem dM_step_5 : decode kM_step 5 = .ok (.aload_n 0, 1) := by decide +kernel
theorem dM_step_6 : decode kM_step 6 = .ok (.invokevirtual 198, 3) := by decide +kernel
theorem dM_step_9 : decode kM_step 9 = .ok (.aload_n 0, 1) := by decide +kernel
theorem dM_step_10 : decode kM_step 10 = .ok (.getfield 219, 3) := by decide +kernel
theorem dM_step_13 : decode kM_step 13 = .ok (.ifCond .eq 24, 3) := by decide +kernel
theorem dM_step_16 : decode kM_step 16 = .ok (.iload_n 1, 1) := by decide +kernel
theorem dM_step_17 : decode kM_step 17 = .ok (.ifCond .lt 20, 3) := by decide +kernel
theorem dM_step_20 : decode kM_step 20 = .ok (.iload_n 1, 1) := by decide +kernel
theorem dM_step_21 : decode kM_step 21 = .ok (.aload_n 0, 1) := by decide +kernel
theorem dM_step_22 : decode kM_step 22 = .ok (.getfield 171, 3) := by decide +kernel
theorem dM_step_25 : decode kM_step 25 = .ok (.if_icmp .ge 12, 3) := by decide +kernel
theorem dM_step_28 : decode kM_step 28 = .ok (.iload_n 2, 1) := by decide +kernel
theorem dM_step_29 : decode kM_step 29 = .ok (.ifCond .lt 8, 3) := by decide +kernel
theorem dM_step_32 : decode kM_step 32 = .ok (.iload_n 2, 1) := by decide +kernel
theorem dM_step_33 : decode kM_step 33 = .ok (.iconst 2, 1) := by decide +kernel
theorem dM_step_34 : decode kM_step 34 = .ok (.if_icmp .le 5, 3) := by decide +kernel
theorem dM_step_37 : decode kM_step 37 = .ok (.iconst (-1), 1) := by decide +kernel
theorem dM_step_38 : decode kM_step 38 = .ok (.ireturn, 1) := by decide +kernel
theorem dM_step_39 : decode kM_step 39 = .ok (.aload_n 0, 1) := by decide +kernel
theorem dM_step_40 : decode kM_step 40 = .ok (.iload_n 1, 1) := by decide +kernel
theorem dM_step_41 : decode kM_step 41 = .ok (.invokevirtual 228, 3) := by decide +kernel
theorem dM_step_44 : decode kM_step 44 = .ok (.istore_n 3, 1) := by decide +kernel
theorem dM_step_45 : decode kM_step 45 = .ok (.iload_n 2, 1) := by decide +kernel
theorem dM_step_46 : decode kM_step 46 = .ok (.iconst 1, 1) := by decide +kernel
theorem dM_step_47 : decode kM_step 47 = .ok (.if_icmp .ne 5, 3) := by decide +kernel
theorem dM_step_50 : decode kM_step 50 = .ok (.iload_n 3, 1) := by decide +kernel
theorem dM_step_51 : decode kM_step 51 = .ok (.ireturn, 1) := by decide +kernel
theorem dM_step_52 : decode kM_step 52 = .ok (.iload_n 1, 1) := by decide +kernel
theorem dM_step_53 : decode kM_step 53 = .ok (.aload_n 0, 1) := by decide +kernel
theorem dM_step_54 : decode kM_step 54 = .ok (.iload_n 3, 1) := by decide +kernel
theorem dM_step_55 : decode kM_step 55 = .ok (.invokevirtual 231, 3) := by decide +kernel
theorem dM_step_58 : decode kM_step 58 = .ok (.isub, 1) := by decide +kernel
theorem dM_step_59 : decode kM_step 59 = .ok (.istore 4, 2) := by decide +kernel
theorem dM_step_61 : decode kM_step 61 = .ok (.iload_n 2, 1) := by decide +kernel
theorem dM_step_62 : decode kM_step 62 = .ok (.iconst 2, 1) := by decide +kernel
theorem dM_step_63 : decode kM_step 63 = .ok (.if_icmp .ne 8, 3) := by decide +kernel
theorem dM_step_66 : decode kM_step 66 = .ok (.iload 4, 2) := by decide +kernel
theorem dM_step_68 : decode kM_step 68 = .ok (.goto 22, 3) := by decide +kernel
theorem dM_step_71 : decode kM_step 71 = .ok (.aload_n 0, 1) := by decide +kernel
theorem dM_step_72 : decode kM_step 72 = .ok (.getfield 26, 3) := by decide +kernel
theorem dM_step_75 : decode kM_step 75 = .ok (.aload_n 0, 1) := by decide +kernel
theorem dM_step_76 : decode kM_step 76 = .ok (.getfield 75, 3) := by decide +kernel
theorem dM_step_79 : decode kM_step 79 = .ok (.aload_n 0, 1) := by decide +kernel
theorem dM_step_80 : decode kM_step 80 = .ok (.getfield 69, 3) := by decide +kernel
theorem dM_step_83 : decode kM_step 83 = .ok (.iload_n 3, 1) := by decide +kernel
theorem dM_step_84 : decode kM_step 84 = .ok (.iaload, 1) := by decide +kernel
theorem dM_step_85 : decode kM_step 85 = .ok (.iload 4, 2) := by decide +kernel
theorem dM_step_87 : decode kM_step 87 = .ok (.iadd, 1) := by decide +kernel
theorem dM_step_88 : decode kM_step 88 = .ok (.iaload, 1) := by decide +kernel
theorem dM_step_89 : decode kM_step 89 = .ok (.iaload, 1) := by decide +kernel
theorem dM_step_90 : decode kM_step 90 = .ok (.ireturn, 1) := by decide +kernel
theorem dM_nodeOf_0 : decode kM_nodeOf 0 = .ok (.iconst 0, 1) := by decide +kernel
theorem dM_nodeOf_1 : decode kM_nodeOf 1 = .ok (.istore_n 2, 1) := by decide +kernel
theorem dM_nodeOf_2 : decode kM_nodeOf 2 = .ok (.iload_n 1, 1) := by decide +kernel
theorem dM_nodeOf_3 : decode kM_nodeOf 3 = .ok (.istore_n 3, 1) := by decide +kernel
theorem dM_nodeOf_4 : decode kM_nodeOf 4 = .ok (.aload_n 0, 1) := by decide +kernel
theorem dM_nodeOf_5 : decode kM_nodeOf 5 = .ok (.getfield 81, 3) := by decide +kernel
theorem dM_nodeOf_8 : decode kM_nodeOf 8 = .ok (.iconst 0, 1) := by decide +kernel
theorem dM_nodeOf_9 : decode kM_nodeOf 9 = .ok (.iconst 0, 1) := by decide +kernel
theorem dM_nodeOf_10 : decode kM_nodeOf 10 = .ok (.iastore, 1) := by decide +kernel
theorem dM_nodeOf_11 : decode kM_nodeOf 11 = .ok (.aload_n 0, 1) := by decide +kernel
theorem dM_nodeOf_12 : decode kM_nodeOf 12 = .ok (.getfield 165, 3) := by decide +kernel
theorem dM_nodeOf_15 : decode kM_nodeOf 15 = .ok (.ifCond .le 7, 3) := by decide +kernel
theorem dM_nodeOf_18 : decode kM_nodeOf 18 = .ok (.iconst 1, 1) := by decide +kernel
theorem dM_nodeOf_19 : decode kM_nodeOf 19 = .ok (.goto 4, 3) := by decide +kernel
theorem dM_nodeOf_22 : decode kM_nodeOf 22 = .ok (.iconst 0, 1) := by decide +kernel
theorem dM_nodeOf_23 : decode kM_nodeOf 23 = .ok (.istore_n 2, 1) := by decide +kernel
theorem dM_nodeOf_24 : decode kM_nodeOf 24 = .ok (.iload_n 2, 1) := by decide +kernel
theorem dM_nodeOf_25 : decode kM_nodeOf 25 = .ok (.ifCond .le 172, 3) := by decide +kernel
theorem dM_nodeOf_28 : decode kM_nodeOf 28 = .ok (.iinc 2 (-1), 3) := by decide +kernel
theorem dM_nodeOf_31 : decode kM_nodeOf 31 = .ok (.aload_n 0, 1) := by decide +kernel
theorem dM_nodeOf_32 : decode kM_nodeOf 32 = .ok (.getfield 81, 3) := by decide +kernel
theorem dM_nodeOf_35 : decode kM_nodeOf 35 = .ok (.iload_n 2, 1) := by decide +kernel
theorem dM_nodeOf_36 : decode kM_nodeOf 36 = .ok (.iaload, 1) := by decide +kernel
theorem dM_nodeOf_37 : decode kM_nodeOf 37 = .ok (.istore 4, 2) := by decide +kernel
theorem dM_nodeOf_39 : decode kM_nodeOf 39 = .ok (.iload 4, 2) := by decide +kernel
theorem dM_nodeOf_41 : decode kM_nodeOf 41 = .ok (.ifCond .lt 71, 3) := by decide +kernel
theorem dM_nodeOf_44 : decode kM_nodeOf 44 = .ok (.aload_n 0, 1) := by decide +kernel
theorem dM_nodeOf_45 : decode kM_nodeOf 45 = .ok (.iload 4, 2) := by decide +kernel
theorem dM_nodeOf_47 : decode kM_nodeOf 47 = .ok (.aload_n 0, 1) := by decide +kernel
theorem dM_nodeOf_48 : decode kM_nodeOf 48 = .ok (.getfield 222, 3) := by decide +kernel
theorem dM_nodeOf_51 : decode kM_nodeOf 51 = .ok (.aload_n 0, 1) := by decide +kernel
theorem dM_nodeOf_52 : decode kM_nodeOf 52 = .ok (.getfield 225, 3) := by decide +kernel
theorem dM_nodeOf_55 : decode kM_nodeOf 55 = .ok (.invokevirtual 216, 3) := by decide +kernel
theorem dM_nodeOf_58 : decode kM_nodeOf 58 = .ok (.ifCond .eq 13, 3) := by decide +kernel
theorem dM_nodeOf_61 : decode kM_nodeOf 61 = .ok (.aload_n 0, 1) := by decide +kernel
theorem dM_nodeOf_62 : decode kM_nodeOf 62 = .ok (.getfield 60, 3) := by decide +kernel
theorem dM_nodeOf_65 : decode kM_nodeOf 65 = .ok (.iload 4, 2) := by decide +kernel
theorem dM_nodeOf_67 : decode kM_nodeOf 67 = .ok (.iaload, 1) := by decide +kernel
theorem dM_nodeOf_68 : decode kM_nodeOf 68 = .ok (.goto 10, 3) := by decide +kernel
theorem dM_nodeOf_71 : decode kM_nodeOf 71 = .ok (.aload_n 0, 1) := by decide +kernel
theorem dM_nodeOf_72 : decode kM_nodeOf 72 = .ok (.getfield 63, 3) := by decide +kernel
theorem dM_nodeOf_75 : decode kM_nodeOf 75 = .ok (.iload 4, 2) := by decide +kernel
theorem dM_nodeOf_77 : decode kM_nodeOf 77 = .ok (.iaload, 1) := by decide +kernel
theorem dM_nodeOf_78 : decode kM_nodeOf 78 = .ok (.istore 5, 2) := by decide +kernel
theorem dM_nodeOf_80 : decode kM_nodeOf 80 = .ok (.aload_n 0, 1) := by decide +kernel
theorem dM_nodeOf_81 : decode kM_nodeOf 81 = .ok (.getfield 81, 3) := by decide +kernel
theorem dM_nodeOf_84 : decode kM_nodeOf 84 = .ok (.iload_n 2, 1) := by decide +kernel
theorem dM_nodeOf_85 : decode kM_nodeOf 85 = .ok (.iconst (-1), 1) := by decide +kernel
theorem dM_nodeOf_86 : decode kM_nodeOf 86 = .ok (.iload 4, 2) := by decide +kernel
theorem dM_nodeOf_88 : decode kM_nodeOf 88 = .ok (.isub, 1) := by decide +kernel
theorem dM_nodeOf_89 : decode kM_nodeOf 89 = .ok (.iastore, 1) := by decide +kernel
theorem dM_nodeOf_90 : decode kM_nodeOf 90 = .ok (.iinc 2 1, 3) := by decide +kernel
theorem dM_nodeOf_93 : decode kM_nodeOf 93 = .ok (.iload 5, 2) := by decide +kernel
theorem dM_nodeOf_95 : decode kM_nodeOf 95 = .ok (.ifCond .lt 14, 3) := by decide +kernel
theorem dM_nodeOf_98 : decode kM_nodeOf 98 = .ok (.aload_n 0, 1) := by decide +kernel
theorem dM_nodeOf_99 : decode kM_nodeOf 99 = .ok (.getfield 81, 3) := by decide +kernel
theorem dM_nodeOf_102 : decode kM_nodeOf 102 = .ok (.iload_n 2, 1) := by decide +kernel
theorem dM_nodeOf_103 : decode kM_nodeOf 103 = .ok (.iload 5, 2) := by decide +kernel
theorem dM_nodeOf_105 : decode kM_nodeOf 105 = .ok (.iastore, 1) := by decide +kernel
theorem dM_nodeOf_106 : decode kM_nodeOf 106 = .ok (.iinc 2 1, 3) := by decide +kernel
theorem dM_nodeOf_109 : decode kM_nodeOf 109 = .ok (.goto 85, 3) := by decide +kernel
theorem dM_nodeOf_112 : decode kM_nodeOf 112 = .ok (.iconst (-1), 1) := by decide +kernel
theorem dM_nodeOf_113 : decode kM_nodeOf 113 = .ok (.iload 4, 2) := by decide +kernel
theorem dM_nodeOf_115 : decode kM_nodeOf 115 = .ok (.isub, 1) := by decide +kernel
theorem dM_nodeOf_116 : decode kM_nodeOf 116 = .ok (.istore 5, 2) := by decide +kernel
theorem dM_nodeOf_118 : decode kM_nodeOf 118 = .ok (.iload_n 3, 1) := by decide +kernel
theorem dM_nodeOf_119 : decode kM_nodeOf 119 = .ok (.aload_n 0, 1) := by decide +kernel
theorem dM_nodeOf_120 : decode kM_nodeOf 120 = .ok (.getfield 72, 3) := by decide +kernel
theorem dM_nodeOf_123 : decode kM_nodeOf 123 = .ok (.iload 5, 2) := by decide +kernel
theorem dM_nodeOf_125 : decode kM_nodeOf 125 = .ok (.iaload, 1) := by decide +kernel
theorem dM_nodeOf_126 : decode kM_nodeOf 126 = .ok (.if_icmp .ge 6, 3) := by decide +kernel
theorem dM_nodeOf_129 : decode kM_nodeOf 129 = .ok (.iload 5, 2) := by decide +kernel
theorem dM_nodeOf_131 : decode kM_nodeOf 131 = .ok (.ireturn, 1) := by decide +kernel
theorem dM_nodeOf_132 : decode kM_nodeOf 132 = .ok (.iload_n 3, 1) := by decide +kernel
theorem dM_nodeOf_133 : decode kM_nodeOf 133 = .ok (.aload_n 0, 1) := by decide +kernel
theorem dM_nodeOf_134 : decode kM_nodeOf 134 = .ok (.getfield 72, 3) := by decide +kernel
theorem dM_nodeOf_137 : decode kM_nodeOf 137 = .ok (.iload 5, 2) := by decide +kernel
theorem dM_nodeOf_139 : decode kM_nodeOf 139 = .ok (.iaload, 1) := by decide +kernel
theorem dM_nodeOf_140 : decode kM_nodeOf 140 = .ok (.isub, 1) := by decide +kernel
theorem dM_nodeOf_141 : decode kM_nodeOf 141 = .ok (.istore_n 3, 1) := by decide +kernel
theorem dM_nodeOf_142 : decode kM_nodeOf 142 = .ok (.aload_n 0, 1) := by decide +kernel
theorem dM_nodeOf_143 : decode kM_nodeOf 143 = .ok (.iload 5, 2) := by decide +kernel
theorem dM_nodeOf_145 : decode kM_nodeOf 145 = .ok (.aload_n 0, 1) := by decide +kernel
theorem dM_nodeOf_146 : decode kM_nodeOf 146 = .ok (.getfield 222, 3) := by decide +kernel
theorem dM_nodeOf_149 : decode kM_nodeOf 149 = .ok (.aload_n 0, 1) := by decide +kernel
theorem dM_nodeOf_150 : decode kM_nodeOf 150 = .ok (.getfield 225, 3) := by decide +kernel
theorem dM_nodeOf_153 : decode kM_nodeOf 153 = .ok (.invokevirtual 216, 3) := by decide +kernel
theorem dM_nodeOf_156 : decode kM_nodeOf 156 = .ok (.ifCond .eq 13, 3) := by decide +kernel
theorem dM_nodeOf_159 : decode kM_nodeOf 159 = .ok (.aload_n 0, 1) := by decide +kernel
theorem dM_nodeOf_160 : decode kM_nodeOf 160 = .ok (.getfield 63, 3) := by decide +kernel
theorem dM_nodeOf_163 : decode kM_nodeOf 163 = .ok (.iload 5, 2) := by decide +kernel
theorem dM_nodeOf_165 : decode kM_nodeOf 165 = .ok (.iaload, 1) := by decide +kernel
theorem dM_nodeOf_166 : decode kM_nodeOf 166 = .ok (.goto 10, 3) := by decide +kernel
theorem dM_nodeOf_169 : decode kM_nodeOf 169 = .ok (.aload_n 0, 1) := by decide +kernel
theorem dM_nodeOf_170 : decode kM_nodeOf 170 = .ok (.getfield 60, 3) := by decide +kernel
theorem dM_nodeOf_173 : decode kM_nodeOf 173 = .ok (.iload 5, 2) := by decide +kernel
theorem dM_nodeOf_175 : decode kM_nodeOf 175 = .ok (.iaload, 1) := by decide +kernel
theorem dM_nodeOf_176 : decode kM_nodeOf 176 = .ok (.istore 6, 2) := by decide +kernel
theorem dM_nodeOf_178 : decode kM_nodeOf 178 = .ok (.iload 6, 2) := by decide +kernel
theorem dM_nodeOf_180 : decode kM_nodeOf 180 = .ok (.ifCond .lt 14, 3) := by decide +kernel
theorem dM_nodeOf_183 : decode kM_nodeOf 183 = .ok (.aload_n 0, 1) := by decide +kernel
theorem dM_nodeOf_184 : decode kM_nodeOf 184 = .ok (.getfield 81, 3) := by decide +kernel
theorem dM_nodeOf_187 : decode kM_nodeOf 187 = .ok (.iload_n 2, 1) := by decide +kernel
theorem dM_nodeOf_188 : decode kM_nodeOf 188 = .ok (.iload 6, 2) := by decide +kernel
theorem dM_nodeOf_190 : decode kM_nodeOf 190 = .ok (.iastore, 1) := by decide +kernel
theorem dM_nodeOf_191 : decode kM_nodeOf 191 = .ok (.iinc 2 1, 3) := by decide +kernel
theorem dM_nodeOf_194 : decode kM_nodeOf 194 = .ok (.goto (-170), 3) := by decide +kernel
theorem dM_nodeOf_197 : decode kM_nodeOf 197 = .ok (.iconst (-1), 1) := by decide +kernel
theorem dM_nodeOf_198 : decode kM_nodeOf 198 = .ok (.ireturn, 1) := by decide +kernel
theorem dM_aheadOf_0 : decode kM_aheadOf 0 = .ok (.iconst 0, 1) := by decide +kernel
theorem dM_aheadOf_1 : decode kM_aheadOf 1 = .ok (.istore_n 2, 1) := by decide +kernel
theorem dM_aheadOf_2 : decode kM_aheadOf 2 = .ok (.aload_n 0, 1) := by decide +kernel
theorem dM_aheadOf_3 : decode kM_aheadOf 3 = .ok (.iload_n 2, 1) := by decide +kernel
theorem dM_aheadOf_4 : decode kM_aheadOf 4 = .ok (.invokevirtual 228, 3) := by decide +kernel
theorem dM_aheadOf_7 : decode kM_aheadOf 7 = .ok (.iload_n 1, 1) := by decide +kernel
theorem dM_aheadOf_8 : decode kM_aheadOf 8 = .ok (.if_icmp .eq 9, 3) := by decide +kernel
theorem dM_aheadOf_11 : decode kM_aheadOf 11 = .ok (.iinc 2 1, 3) := by decide +kernel
theorem dM_aheadOf_14 : decode kM_aheadOf 14 = .ok (.goto (-12), 3) := by decide +kernel
theorem dM_aheadOf_17 : decode kM_aheadOf 17 = .ok (.iload_n 2, 1) := by decide +kernel
theorem dM_aheadOf_18 : decode kM_aheadOf 18 = .ok (.ireturn, 1) := by decide +kernel
theorem dM_of_0 : decode kM_of 0 = .ok (.aload_n 0, 1) := by decide +kernel
theorem dM_of_1 : decode kM_of 1 = .ok (.iconst 0, 1) := by decide +kernel
theorem dM_of_2 : decode kM_of 2 = .ok (.putfield 84, 3) := by decide +kernel
theorem dM_of_5 : decode kM_of 5 = .ok (.aload_n 0, 1) := by decide +kernel
theorem dM_of_6 : decode kM_of 6 = .ok (.iload_n 1, 1) := by decide +kernel
theorem dM_of_7 : decode kM_of 7 = .ok (.invokevirtual 136, 3) := by decide +kernel
theorem dM_of_10 : decode kM_of 10 = .ok (.ifCond .eq 12, 3) := by decide +kernel
theorem dM_of_13 : decode kM_of 13 = .ok (.iload_n 2, 1) := by decide +kernel
theorem dM_of_14 : decode kM_of 14 = .ok (.ifCond .lt 8, 3) := by decide +kernel
theorem dM_of_17 : decode kM_of 17 = .ok (.iload_n 2, 1) := by decide +kernel
theorem dM_of_18 : decode kM_of 18 = .ok (.iconst 4, 1) := by decide +kernel
theorem dM_of_19 : decode kM_of 19 = .ok (.if_icmp .le 6, 3) := by decide +kernel
theorem dM_of_22 : decode kM_of 22 = .ok (.ldc 234, 2) := by decide +kernel
theorem dM_of_24 : decode kM_of 24 = .ok (.ireturn, 1) := by decide +kernel
theorem dM_of_25 : decode kM_of 25 = .ok (.aload_n 0, 1) := by decide +kernel
theorem dM_of_26 : decode kM_of 26 = .ok (.invokevirtual 198, 3) := by decide +kernel
theorem dM_of_29 : decode kM_of 29 = .ok (.iload_n 2, 1) := by decide +kernel
theorem dM_of_30 : decode kM_of 30 = .ok (.ifCond .ne 12, 3) := by decide +kernel
theorem dM_of_33 : decode kM_of 33 = .ok (.aload_n 0, 1) := by decide +kernel
theorem dM_of_34 : decode kM_of 34 = .ok (.getfield 13, 3) := by decide +kernel
theorem dM_of_37 : decode kM_of 37 = .ok (.iload_n 1, 1) := by decide +kernel
theorem dM_of_38 : decode kM_of 38 = .ok (.iaload, 1) := by decide +kernel
theorem dM_of_39 : decode kM_of 39 = .ok (.goto 51, 3) := by decide +kernel
theorem dM_of_42 : decode kM_of 42 = .ok (.iload_n 2, 1) := by decide +kernel
theorem dM_of_43 : decode kM_of 43 = .ok (.iconst 1, 1) := by decide +kernel
theorem dM_of_44 : decode kM_of 44 = .ok (.if_icmp .ne 12, 3) := by decide +kernel
theorem dM_of_47 : decode kM_of 47 = .ok (.aload_n 0, 1) := by decide +kernel
theorem dM_of_48 : decode kM_of 48 = .ok (.getfield 17, 3) := by decide +kernel
theorem dM_of_51 : decode kM_of 51 = .ok (.iload_n 1, 1) := by decide +kernel
theorem dM_of_52 : decode kM_of 52 = .ok (.iaload, 1) := by decide +kernel
theorem dM_of_53 : decode kM_of 53 = .ok (.goto 37, 3) := by decide +kernel
theorem dM_of_56 : decode kM_of 56 = .ok (.iload_n 2, 1) := by decide +kernel
theorem dM_of_57 : decode kM_of 57 = .ok (.iconst 2, 1) := by decide +kernel
theorem dM_of_58 : decode kM_of 58 = .ok (.if_icmp .ne 12, 3) := by decide +kernel
theorem dM_of_61 : decode kM_of 61 = .ok (.aload_n 0, 1) := by decide +kernel
theorem dM_of_62 : decode kM_of 62 = .ok (.getfield 20, 3) := by decide +kernel
theorem dM_of_65 : decode kM_of 65 = .ok (.iload_n 1, 1) := by decide +kernel
theorem dM_of_66 : decode kM_of 66 = .ok (.iaload, 1) := by decide +kernel
theorem dM_of_67 : decode kM_of 67 = .ok (.goto 23, 3) := by decide +kernel
theorem dM_of_70 : decode kM_of 70 = .ok (.iload_n 2, 1) := by decide +kernel
theorem dM_of_71 : decode kM_of 71 = .ok (.iconst 3, 1) := by decide +kernel
theorem dM_of_72 : decode kM_of 72 = .ok (.if_icmp .ne 12, 3) := by decide +kernel
theorem dM_of_75 : decode kM_of 75 = .ok (.aload_n 0, 1) := by decide +kernel
theorem dM_of_76 : decode kM_of 76 = .ok (.getfield 23, 3) := by decide +kernel
theorem dM_of_79 : decode kM_of 79 = .ok (.iload_n 1, 1) := by decide +kernel
theorem dM_of_80 : decode kM_of 80 = .ok (.iaload, 1) := by decide +kernel
theorem dM_of_81 : decode kM_of 81 = .ok (.goto 9, 3) := by decide +kernel
theorem dM_of_84 : decode kM_of 84 = .ok (.aload_n 0, 1) := by decide +kernel
theorem dM_of_85 : decode kM_of 85 = .ok (.getfield 78, 3) := by decide +kernel
theorem dM_of_88 : decode kM_of 88 = .ok (.iload_n 1, 1) := by decide +kernel
theorem dM_of_89 : decode kM_of 89 = .ok (.iaload, 1) := by decide +kernel
theorem dM_of_90 : decode kM_of 90 = .ok (.ireturn, 1) := by decide +kernel
theorem dM_look_0 : decode kM_look 0 = .ok (.aload_n 0, 1) := by decide +kernel
theorem dM_look_1 : decode kM_look 1 = .ok (.iconst 0, 1) := by decide +kernel
theorem dM_look_2 : decode kM_look 2 = .ok (.putfield 84, 3) := by decide +kernel
theorem dM_look_5 : decode kM_look 5 = .ok (.aload_n 0, 1) := by decide +kernel
theorem dM_look_6 : decode kM_look 6 = .ok (.invokevirtual 198, 3) := by decide +kernel
theorem dM_look_9 : decode kM_look 9 = .ok (.iload_n 1, 1) := by decide +kernel
theorem dM_look_10 : decode kM_look 10 = .ok (.tableswitch 68 0 5 #[38, 43, 48, 53, 58, 63], 38) := by decide +kernel
theorem dM_look_48 : decode kM_look 48 = .ok (.aload_n 0, 1) := by decide +kernel
theorem dM_look_49 : decode kM_look 49 = .ok (.getfield 129, 3) := by decide +kernel
theorem dM_look_52 : decode kM_look 52 = .ok (.ireturn, 1) := by decide +kernel
theorem dM_look_53 : decode kM_look 53 = .ok (.aload_n 0, 1) := by decide +kernel
theorem dM_look_54 : decode kM_look 54 = .ok (.getfield 165, 3) := by decide +kernel
theorem dM_look_57 : decode kM_look 57 = .ok (.ireturn, 1) := by decide +kernel
theorem dM_look_58 : decode kM_look 58 = .ok (.aload_n 0, 1) := by decide +kernel
theorem dM_look_59 : decode kM_look 59 = .ok (.getfield 168, 3) := by decide +kernel
theorem dM_look_62 : decode kM_look 62 = .ok (.ireturn, 1) := by decide +kernel
theorem dM_look_63 : decode kM_look 63 = .ok (.aload_n 0, 1) := by decide +kernel
theorem dM_look_64 : decode kM_look 64 = .ok (.getfield 171, 3) := by decide +kernel
theorem dM_look_67 : decode kM_look 67 = .ok (.ireturn, 1) := by decide +kernel
theorem dM_look_68 : decode kM_look 68 = .ok (.aload_n 0, 1) := by decide +kernel
theorem dM_look_69 : decode kM_look 69 = .ok (.getfield 174, 3) := by decide +kernel
theorem dM_look_72 : decode kM_look 72 = .ok (.ireturn, 1) := by decide +kernel
theorem dM_look_73 : decode kM_look 73 = .ok (.aload_n 0, 1) := by decide +kernel
theorem dM_look_74 : decode kM_look 74 = .ok (.getfield 162, 3) := by decide +kernel
theorem dM_look_77 : decode kM_look 77 = .ok (.ireturn, 1) := by decide +kernel
theorem dM_look_78 : decode kM_look 78 = .ok (.iconst (-1), 1) := by decide +kernel
theorem dM_look_79 : decode kM_look 79 = .ok (.ireturn, 1) := by decide +kernel
