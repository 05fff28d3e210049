theorem dX9_comes_306 : decode cX9_comes 306 = .ok (.getfield 78, 3) := by decide +kernel
theorem dX9_comes_309 : decode cX9_comes 309 = .ok (.iload_n 1, 1) := by decide +kernel
theorem dX9_comes_310 : decode cX9_comes 310 = .ok (.dup2, 1) := by decide +kernel
theorem dX9_comes_311 : decode cX9_comes 311 = .ok (.baload, 1) := by decide +kernel
theorem dX9_comes_312 : decode cX9_comes 312 = .ok (.iload 5, 2) := by decide +kernel
theorem dX9_comes_314 : decode cX9_comes 314 = .ok (.ior, 1) := by decide +kernel
theorem dX9_comes_315 : decode cX9_comes 315 = .ok (.bastore, 1) := by decide +kernel
theorem dX9_comes_316 : decode cX9_comes 316 = .ok (.return_, 1) := by decide +kernel
theorem dX9_leastDue_0 : decode cX9_leastDue 0 = .ok (.iconst 0, 1) := by decide +kernel
theorem dX9_leastDue_1 : decode cX9_leastDue 1 = .ok (.istore_n 1, 1) := by decide +kernel
theorem dX9_leastDue_2 : decode cX9_leastDue 2 = .ok (.iload_n 1, 1) := by decide +kernel
theorem dX9_leastDue_3 : decode cX9_leastDue 3 = .ok (.aload_n 0, 1) := by decide +kernel
theorem dX9_leastDue_4 : decode cX9_leastDue 4 = .ok (.getfield 30, 3) := by decide +kernel
theorem dX9_leastDue_7 : decode cX9_leastDue 7 = .ok (.aload_n 0, 1) := by decide +kernel
theorem dX9_leastDue_8 : decode cX9_leastDue 8 = .ok (.getfield 129, 3) := by decide +kernel
theorem dX9_leastDue_11 : decode cX9_leastDue 11 = .ok (.iaload, 1) := by decide +kernel
theorem dX9_leastDue_12 : decode cX9_leastDue 12 = .ok (.if_icmp .ge 20, 3) := by decide +kernel
theorem dX9_leastDue_15 : decode cX9_leastDue 15 = .ok (.aload_n 0, 1) := by decide +kernel
theorem dX9_leastDue_16 : decode cX9_leastDue 16 = .ok (.getfield 78, 3) := by decide +kernel
theorem dX9_leastDue_19 : decode cX9_leastDue 19 = .ok (.iload_n 1, 1) := by decide +kernel
theorem dX9_leastDue_20 : decode cX9_leastDue 20 = .ok (.baload, 1) := by decide +kernel
theorem dX9_leastDue_21 : decode cX9_leastDue 21 = .ok (.ifCond .eq 5, 3) := by decide +kernel
theorem dX9_leastDue_24 : decode cX9_leastDue 24 = .ok (.iload_n 1, 1) := by decide +kernel
theorem dX9_leastDue_25 : decode cX9_leastDue 25 = .ok (.ireturn, 1) := by decide +kernel
theorem dX9_leastDue_26 : decode cX9_leastDue 26 = .ok (.iinc 1 1, 3) := by decide +kernel
theorem dX9_leastDue_29 : decode cX9_leastDue 29 = .ok (.goto (-27), 3) := by decide +kernel
theorem dX9_leastDue_32 : decode cX9_leastDue 32 = .ok (.iconst (-1), 1) := by decide +kernel
theorem dX9_leastDue_33 : decode cX9_leastDue 33 = .ok (.ireturn, 1) := by decide +kernel
theorem dX9_holds_0 : decode cX9_holds 0 = .ok (.iload_n 2, 1) := by decide +kernel
theorem dX9_holds_1 : decode cX9_holds 1 = .ok (.aload_n 0, 1) := by decide +kernel
theorem dX9_holds_2 : decode cX9_holds 2 = .ok (.getfield 45, 3) := by decide +kernel
theorem dX9_holds_5 : decode cX9_holds 5 = .ok (.iload_n 1, 1) := by decide +kernel
theorem dX9_holds_6 : decode cX9_holds 6 = .ok (.iaload, 1) := by decide +kernel
theorem dX9_holds_7 : decode cX9_holds 7 = .ok (.if_icmp .lt 17, 3) := by decide +kernel
theorem dX9_holds_10 : decode cX9_holds 10 = .ok (.iload_n 2, 1) := by decide +kernel
theorem dX9_holds_11 : decode cX9_holds 11 = .ok (.aload_n 0, 1) := by decide +kernel
theorem dX9_holds_12 : decode cX9_holds 12 = .ok (.getfield 48, 3) := by decide +kernel
theorem dX9_holds_15 : decode cX9_holds 15 = .ok (.iload_n 1, 1) := by decide +kernel
theorem dX9_holds_16 : decode cX9_holds 16 = .ok (.iaload, 1) := by decide +kernel
theorem dX9_holds_17 : decode cX9_holds 17 = .ok (.if_icmp .ge 7, 3) := by decide +kernel
theorem dX9_holds_20 : decode cX9_holds 20 = .ok (.iconst 1, 1) := by decide +kernel
theorem dX9_holds_21 : decode cX9_holds 21 = .ok (.goto 4, 3) := by decide +kernel
theorem dX9_holds_24 : decode cX9_holds 24 = .ok (.iconst 0, 1) := by decide +kernel
theorem dX9_holds_25 : decode cX9_holds 25 = .ok (.ireturn, 1) := by decide +kernel
theorem dX9_works_0 : decode cX9_works 0 = .ok (.bipush 40, 2) := by decide +kernel
theorem dX9_works_2 : decode cX9_works 2 = .ok (.aload_n 0, 1) := by decide +kernel
theorem dX9_works_3 : decode cX9_works 3 = .ok (.getfield 129, 3) := by decide +kernel
theorem dX9_works_6 : decode cX9_works 6 = .ok (.imul, 1) := by decide +kernel
theorem dX9_works_7 : decode cX9_works 7 = .ok (.iload_n 1, 1) := by decide +kernel
theorem dX9_works_8 : decode cX9_works 8 = .ok (.iadd, 1) := by decide +kernel
theorem dX9_works_9 : decode cX9_works 9 = .ok (.istore_n 2, 1) := by decide +kernel
theorem dX9_works_10 : decode cX9_works 10 = .ok (.aload_n 0, 1) := by decide +kernel
theorem dX9_works_11 : decode cX9_works 11 = .ok (.getfield 63, 3) := by decide +kernel
theorem dX9_works_14 : decode cX9_works 14 = .ok (.bipush 20, 2) := by decide +kernel
theorem dX9_works_16 : decode cX9_works 16 = .ok (.iload_n 2, 1) := by decide +kernel
theorem dX9_works_17 : decode cX9_works 17 = .ok (.imul, 1) := by decide +kernel
theorem dX9_works_18 : decode cX9_works 18 = .ok (.aload_n 0, 1) := by decide +kernel
theorem dX9_works_19 : decode cX9_works 19 = .ok (.getfield 72, 3) := by decide +kernel
theorem dX9_works_22 : decode cX9_works 22 = .ok (.iconst 0, 1) := by decide +kernel
theorem dX9_works_23 : decode cX9_works 23 = .ok (.invokestatic 162, 3) := by decide +kernel
theorem dX9_works_26 : decode cX9_works 26 = .ok (.aload_n 0, 1) := by decide +kernel
theorem dX9_works_27 : decode cX9_works 27 = .ok (.iconst 0, 1) := by decide +kernel
theorem dX9_works_28 : decode cX9_works 28 = .ok (.putfield 115, 3) := by decide +kernel
theorem dX9_works_31 : decode cX9_works 31 = .ok (.iconst 4, 1) := by decide +kernel
theorem dX9_works_32 : decode cX9_works 32 = .ok (.aload_n 0, 1) := by decide +kernel
theorem dX9_works_33 : decode cX9_works 33 = .ok (.getfield 129, 3) := by decide +kernel
theorem dX9_works_36 : decode cX9_works 36 = .ok (.imul, 1) := by decide +kernel
theorem dX9_works_37 : decode cX9_works 37 = .ok (.istore_n 3, 1) := by decide +kernel
theorem dX9_works_38 : decode cX9_works 38 = .ok (.iload_n 3, 1) := by decide +kernel
theorem dX9_works_39 : decode cX9_works 39 = .ok (.iconst 4, 1) := by decide +kernel
theorem dX9_works_40 : decode cX9_works 40 = .ok (.aload_n 0, 1) := by decide +kernel
theorem dX9_works_41 : decode cX9_works 41 = .ok (.getfield 129, 3) := by decide +kernel
theorem dX9_works_44 : decode cX9_works 44 = .ok (.imul, 1) := by decide +kernel
theorem dX9_works_45 : decode cX9_works 45 = .ok (.aload_n 0, 1) := by decide +kernel
theorem dX9_works_46 : decode cX9_works 46 = .ok (.getfield 42, 3) := by decide +kernel
theorem dX9_works_49 : decode cX9_works 49 = .ok (.aload_n 0, 1) := by decide +kernel
theorem dX9_works_50 : decode cX9_works 50 = .ok (.getfield 129, 3) := by decide +kernel
theorem dX9_works_53 : decode cX9_works 53 = .ok (.iaload, 1) := by decide +kernel
theorem dX9_works_54 : decode cX9_works 54 = .ok (.iadd, 1) := by decide +kernel
theorem dX9_works_55 : decode cX9_works 55 = .ok (.if_icmp .ge 42, 3) := by decide +kernel
theorem dX9_works_58 : decode cX9_works 58 = .ok (.aload_n 0, 1) := by decide +kernel
theorem dX9_works_59 : decode cX9_works 59 = .ok (.getfield 115, 3) := by decide +kernel
theorem dX9_works_62 : decode cX9_works 62 = .ok (.ifCond .ne 35, 3) := by decide +kernel
theorem dX9_works_65 : decode cX9_works 65 = .ok (.aload_n 0, 1) := by decide +kernel
theorem dX9_works_66 : decode cX9_works 66 = .ok (.iload_n 3, 1) := by decide +kernel
theorem dX9_works_67 : decode cX9_works 67 = .ok (.iload_n 1, 1) := by decide +kernel
theorem dX9_works_68 : decode cX9_works 68 = .ok (.invokevirtual 173, 3) := by decide +kernel
theorem dX9_works_71 : decode cX9_works 71 = .ok (.ifCond .eq 20, 3) := by decide +kernel
theorem dX9_works_74 : decode cX9_works 74 = .ok (.aload_n 0, 1) := by decide +kernel
theorem dX9_works_75 : decode cX9_works 75 = .ok (.iload_n 3, 1) := by decide +kernel
theorem dX9_works_76 : decode cX9_works 76 = .ok (.invokevirtual 176, 3) := by decide +kernel
theorem dX9_works_79 : decode cX9_works 79 = .ok (.aload_n 0, 1) := by decide +kernel
theorem dX9_works_80 : decode cX9_works 80 = .ok (.aload_n 0, 1) := by decide +kernel
theorem dX9_works_81 : decode cX9_works 81 = .ok (.getfield 51, 3) := by decide +kernel
theorem dX9_works_84 : decode cX9_works 84 = .ok (.iload_n 3, 1) := by decide +kernel
theorem dX9_works_85 : decode cX9_works 85 = .ok (.iaload, 1) := by decide +kernel
theorem dX9_works_86 : decode cX9_works 86 = .ok (.iload_n 1, 1) := by decide +kernel
theorem dX9_works_87 : decode cX9_works 87 = .ok (.iconst 1, 1) := by decide +kernel
theorem dX9_works_88 : decode cX9_works 88 = .ok (.invokevirtual 179, 3) := by decide +kernel
theorem dX9_works_91 : decode cX9_works 91 = .ok (.iinc 3 1, 3) := by decide +kernel
theorem dX9_works_94 : decode cX9_works 94 = .ok (.goto (-56), 3) := by decide +kernel
theorem dX9_works_97 : decode cX9_works 97 = .ok (.aload_n 0, 1) := by decide +kernel
theorem dX9_works_98 : decode cX9_works 98 = .ok (.getfield 115, 3) := by decide +kernel
theorem dX9_works_101 : decode cX9_works 101 = .ok (.ifCond .le 4, 3) := by decide +kernel
theorem dX9_works_104 : decode cX9_works 104 = .ok (.return_, 1) := by decide +kernel
theorem dX9_works_105 : decode cX9_works 105 = .ok (.aload_n 0, 1) := by decide +kernel
theorem dX9_works_106 : decode cX9_works 106 = .ok (.iload_n 1, 1) := by decide +kernel
theorem dX9_works_107 : decode cX9_works 107 = .ok (.invokevirtual 183, 3) := by decide +kernel
theorem dX9_works_110 : decode cX9_works 110 = .ok (.aload_n 0, 1) := by decide +kernel
theorem dX9_works_111 : decode cX9_works 111 = .ok (.getfield 115, 3) := by decide +kernel
theorem dX9_works_114 : decode cX9_works 114 = .ok (.ifCond .ne 86, 3) := by decide +kernel
theorem dX9_works_117 : decode cX9_works 117 = .ok (.aload_n 0, 1) := by decide +kernel
theorem dX9_works_118 : decode cX9_works 118 = .ok (.getfield 72, 3) := by decide +kernel
theorem dX9_works_121 : decode cX9_works 121 = .ok (.iconst 0, 1) := by decide +kernel
theorem dX9_works_122 : decode cX9_works 122 = .ok (.aload_n 0, 1) := by decide +kernel
theorem dX9_works_123 : decode cX9_works 123 = .ok (.getfield 75, 3) := by decide +kernel
theorem dX9_works_126 : decode cX9_works 126 = .ok (.iconst 0, 1) := by decide +kernel
theorem dX9_works_127 : decode cX9_works 127 = .ok (.invokestatic 162, 3) := by decide +kernel
theorem dX9_works_130 : decode cX9_works 130 = .ok (.aload_n 0, 1) := by decide +kernel
theorem dX9_works_131 : decode cX9_works 131 = .ok (.getfield 33, 3) := by decide +kernel
theorem dX9_works_134 : decode cX9_works 134 = .ok (.iload_n 2, 1) := by decide +kernel
theorem dX9_works_135 : decode cX9_works 135 = .ok (.iaload, 1) := by decide +kernel
theorem dX9_works_136 : decode cX9_works 136 = .ok (.invokestatic 186, 3) := by decide +kernel
theorem dX9_works_139 : decode cX9_works 139 = .ok (.ifCond .eq 12, 3) := by decide +kernel
theorem dX9_works_142 : decode cX9_works 142 = .ok (.aload_n 0, 1) := by decide +kernel
theorem dX9_works_143 : decode cX9_works 143 = .ok (.iload_n 1, 1) := by decide +kernel
theorem dX9_works_144 : decode cX9_works 144 = .ok (.iconst 1, 1) := by decide +kernel
theorem dX9_works_145 : decode cX9_works 145 = .ok (.iadd, 1) := by decide +kernel
theorem dX9_works_146 : decode cX9_works 146 = .ok (.iload_n 1, 1) := by decide +kernel
theorem dX9_works_147 : decode cX9_works 147 = .ok (.iconst 0, 1) := by decide +kernel
theorem dX9_works_148 : decode cX9_works 148 = .ok (.invokevirtual 179, 3) := by decide +kernel
theorem dX9_works_151 : decode cX9_works 151 = .ok (.aload_n 0, 1) := by decide +kernel
theorem dX9_works_152 : decode cX9_works 152 = .ok (.getfield 36, 3) := by decide +kernel
theorem dX9_works_155 : decode cX9_works 155 = .ok (.iload_n 2, 1) := by decide +kernel
theorem dX9_works_156 : decode cX9_works 156 = .ok (.iaload, 1) := by decide +kernel
theorem dX9_works_157 : decode cX9_works 157 = .ok (.istore_n 3, 1) := by decide +kernel
theorem dX9_works_158 : decode cX9_works 158 = .ok (.aload_n 0, 1) := by decide +kernel
theorem dX9_works_159 : decode cX9_works 159 = .ok (.getfield 33, 3) := by decide +kernel
theorem dX9_works_162 : decode cX9_works 162 = .ok (.iload_n 2, 1) := by decide +kernel
theorem dX9_works_163 : decode cX9_works 163 = .ok (.iaload, 1) := by decide +kernel
theorem dX9_works_164 : decode cX9_works 164 = .ok (.invokestatic 189, 3) := by decide +kernel
theorem dX9_works_167 : decode cX9_works 167 = .ok (.ifCond .eq 33, 3) := by decide +kernel
theorem dX9_works_170 : decode cX9_works 170 = .ok (.iload_n 3, 1) := by decide +kernel
theorem dX9_works_171 : decode cX9_works 171 = .ok (.aload_n 0, 1) := by decide +kernel
theorem dX9_works_172 : decode cX9_works 172 = .ok (.getfield 39, 3) := by decide +kernel
theorem dX9_works_175 : decode cX9_works 175 = .ok (.iload_n 2, 1) := by decide +kernel
theorem dX9_works_176 : decode cX9_works 176 = .ok (.iaload, 1) := by decide +kernel
theorem dX9_works_177 : decode cX9_works 177 = .ok (.if_icmp .gt 23, 3) := by decide +kernel
theorem dX9_works_180 : decode cX9_works 180 = .ok (.aload_n 0, 1) := by decide +kernel
theorem dX9_works_181 : decode cX9_works 181 = .ok (.getfield 115, 3) := by decide +kernel
theorem dX9_works_184 : decode cX9_works 184 = .ok (.ifCond .ne 16, 3) := by decide +kernel
theorem dX9_works_187 : decode cX9_works 187 = .ok (.aload_n 0, 1) := by decide +kernel
theorem dX9_works_188 : decode cX9_works 188 = .ok (.iload_n 3, 1) := by decide +kernel
theorem dX9_works_189 : decode cX9_works 189 = .ok (.iload_n 1, 1) := by decide +kernel
theorem dX9_works_190 : decode cX9_works 190 = .ok (.iconst 0, 1) := by decide +kernel
theorem dX9_works_191 : decode cX9_works 191 = .ok (.invokevirtual 179, 3) := by decide +kernel
theorem dX9_works_194 : decode cX9_works 194 = .ok (.iinc 3 1, 3) := by decide +kernel
theorem dX9_works_197 : decode cX9_works 197 = .ok (.goto (-39), 3) := by decide +kernel
theorem dX9_works_200 : decode cX9_works 200 = .ok (.return_, 1) := by decide +kernel
theorem dX9_compute_0 : decode cX9_compute 0 = .ok (.iload_n 1, 1) := by decide +kernel
theorem dX9_compute_1 : decode cX9_compute 1 = .ok (.invokestatic 112, 3) := by decide +kernel
theorem dX9_compute_4 : decode cX9_compute 4 = .ok (.ifCond .eq 12, 3) := by decide +kernel
theorem dX9_compute_7 : decode cX9_compute 7 = .ok (.aload_n 0, 1) := by decide +kernel
theorem dX9_compute_8 : decode cX9_compute 8 = .ok (.getfield 30, 3) := by decide +kernel
theorem dX9_compute_11 : decode cX9_compute 11 = .ok (.iload_n 1, 1) := by decide +kernel
theorem dX9_compute_12 : decode cX9_compute 12 = .ok (.iaload, 1) := by decide +kernel
theorem dX9_compute_13 : decode cX9_compute 13 = .ok (.ifCond .ne 5, 3) := by decide +kernel
theorem dX9_compute_16 : decode cX9_compute 16 = .ok (.iconst (-1), 1) := by decide +kernel
theorem dX9_compute_17 : decode cX9_compute 17 = .ok (.ireturn, 1) := by decide +kernel
theorem dX9_compute_18 : decode cX9_compute 18 = .ok (.aload_n 0, 1) := by decide +kernel
theorem dX9_compute_19 : decode cX9_compute 19 = .ok (.iload_n 1, 1) := by decide +kernel
theorem dX9_compute_20 : decode cX9_compute 20 = .ok (.putfield 129, 3) := by decide +kernel
theorem dX9_compute_23 : decode cX9_compute 23 = .ok (.aload_n 0, 1) := by decide +kernel
theorem dX9_compute_24 : decode cX9_compute 24 = .ok (.getfield 57, 3) := by decide +kernel
theorem dX9_compute_27 : decode cX9_compute 27 = .ok (.iload_n 1, 1) := by decide +kernel
theorem dX9_compute_28 : decode cX9_compute 28 = .ok (.iconst 0, 1) := by decide +kernel
theorem dX9_compute_29 : decode cX9_compute 29 = .ok (.bastore, 1) := by decide +kernel
theorem dX9_compute_30 : decode cX9_compute 30 = .ok (.iconst 0, 1) := by decide +kernel
theorem dX9_compute_31 : decode cX9_compute 31 = .ok (.istore_n 2, 1) := by decide +kernel
theorem dX9_compute_32 : decode cX9_compute 32 = .ok (.iload_n 2, 1) := by decide +kernel
theorem dX9_compute_33 : decode cX9_compute 33 = .ok (.bipush 40, 2) := by decide +kernel
theorem dX9_compute_35 : decode cX9_compute 35 = .ok (.if_icmp .ge 40, 3) := by decide +kernel
theorem dX9_compute_38 : decode cX9_compute 38 = .ok (.aload_n 0, 1) := by decide +kernel
theorem dX9_compute_39 : decode cX9_compute 39 = .ok (.getfield 60, 3) := by decide +kernel
theorem dX9_compute_42 : decode cX9_compute 42 = .ok (.bipush 40, 2) := by decide +kernel
theorem dX9_compute_44 : decode cX9_compute 44 = .ok (.iload_n 1, 1) := by decide +kernel
theorem dX9_compute_45 : decode cX9_compute 45 = .ok (.imul, 1) := by decide +kernel
theorem dX9_compute_46 : decode cX9_compute 46 = .ok (.iload_n 2, 1) := by decide +kernel
theorem dX9_compute_47 : decode cX9_compute 47 = .ok (.iadd, 1) := by decide +kernel
theorem dX9_compute_48 : decode cX9_compute 48 = .ok (.iconst 0, 1) := by decide +kernel
theorem dX9_compute_49 : decode cX9_compute 49 = .ok (.bastore, 1) := by decide +kernel
theorem dX9_compute_50 : decode cX9_compute 50 = .ok (.aload_n 0, 1) := by decide +kernel
theorem dX9_compute_51 : decode cX9_compute 51 = .ok (.getfield 66, 3) := by decide +kernel
theorem dX9_compute_54 : decode cX9_compute 54 = .ok (.bipush 40, 2) := by decide +kernel
theorem dX9_compute_56 : decode cX9_compute 56 = .ok (.iload_n 1, 1) := by decide +kernel
theorem dX9_compute_57 : decode cX9_compute 57 = .ok (.imul, 1) := by decide +kernel
theorem dX9_compute_58 : decode cX9_compute 58 = .ok (.iload_n 2, 1) := by decide +kernel
theorem dX9_compute_59 : decode cX9_compute 59 = .ok (.iadd, 1) := by decide +kernel
theorem dX9_compute_60 : decode cX9_compute 60 = .ok (.iconst 0, 1) := by decide +kernel
theorem dX9_compute_61 : decode cX9_compute 61 = .ok (.bastore, 1) := by decide +kernel
theorem dX9_compute_62 : decode cX9_compute 62 = .ok (.aload_n 0, 1) := by decide +kernel
theorem dX9_compute_63 : decode cX9_compute 63 = .ok (.getfield 78, 3) := by decide +kernel
theorem dX9_compute_66 : decode cX9_compute 66 = .ok (.iload_n 2, 1) := by decide +kernel
theorem dX9_compute_67 : decode cX9_compute 67 = .ok (.iconst 0, 1) := by decide +kernel
theorem dX9_compute_68 : decode cX9_compute 68 = .ok (.bastore, 1) := by decide +kernel
theorem dX9_compute_69 : decode cX9_compute 69 = .ok (.iinc 2 1, 3) := by decide +kernel
theorem dX9_compute_72 : decode cX9_compute 72 = .ok (.goto (-40), 3) := by decide +kernel
theorem dX9_compute_75 : decode cX9_compute 75 = .ok (.aload_n 0, 1) := by decide +kernel
theorem dX9_compute_76 : decode cX9_compute 76 = .ok (.aload_n 0, 1) := by decide +kernel
theorem dX9_compute_77 : decode cX9_compute 77 = .ok (.getfield 75, 3) := by decide +kernel
theorem dX9_compute_80 : decode cX9_compute 80 = .ok (.invokevirtual 192, 3) := by decide +kernel
theorem dX9_compute_83 : decode cX9_compute 83 = .ok (.aload_n 0, 1) := by decide +kernel
theorem dX9_compute_84 : decode cX9_compute 84 = .ok (.getfield 60, 3) := by decide +kernel
theorem dX9_compute_87 : decode cX9_compute 87 = .ok (.bipush 40, 2) := by decide +kernel
theorem dX9_compute_89 : decode cX9_compute 89 = .ok (.iload_n 1, 1) := by decide +kernel
theorem dX9_compute_90 : decode cX9_compute 90 = .ok (.imul, 1) := by decide +kernel
theorem dX9_compute_91 : decode cX9_compute 91 = .ok (.iconst 1, 1) := by decide +kernel
theorem dX9_compute_92 : decode cX9_compute 92 = .ok (.bastore, 1) := by decide +kernel
theorem dX9_compute_93 : decode cX9_compute 93 = .ok (.aload_n 0, 1) := by decide +kernel
theorem dX9_compute_94 : decode cX9_compute 94 = .ok (.getfield 75, 3) := by decide +kernel
theorem dX9_compute_97 : decode cX9_compute 97 = .ok (.iconst 0, 1) := by decide +kernel
theorem dX9_compute_98 : decode cX9_compute 98 = .ok (.aload_n 0, 1) := by decide +kernel
theorem dX9_compute_99 : decode cX9_compute 99 = .ok (.getfield 63, 3) := by decide +kernel
theorem dX9_compute_102 : decode cX9_compute 102 = .ok (.sipush 800, 3) := by decide +kernel
theorem dX9_compute_105 : decode cX9_compute 105 = .ok (.iload_n 1, 1) := by decide +kernel
theorem dX9_compute_106 : decode cX9_compute 106 = .ok (.imul, 1) := by decide +kernel
theorem dX9_compute_107 : decode cX9_compute 107 = .ok (.invokestatic 162, 3) := by decide +kernel
theorem dX9_compute_110 : decode cX9_compute 110 = .ok (.aload_n 0, 1) := by decide +kernel
theorem dX9_compute_111 : decode cX9_compute 111 = .ok (.getfield 78, 3) := by decide +kernel
theorem dX9_compute_114 : decode cX9_compute 114 = .ok (.iconst 0, 1) := by decide +kernel
theorem dX9_compute_115 : decode cX9_compute 115 = .ok (.iconst 1, 1) := by decide +kernel
theorem dX9_compute_116 : decode cX9_compute 116 = .ok (.bastore, 1) := by decide +kernel
theorem dX9_compute_117 : decode cX9_compute 117 = .ok (.iconst 0, 1) := by decide +kernel
theorem dX9_compute_118 : decode cX9_compute 118 = .ok (.istore_n 2, 1) := by decide +kernel
theorem dX9_compute_119 : decode cX9_compute 119 = .ok (.iload_n 2, 1) := by decide +kernel
theorem dX9_compute_120 : decode cX9_compute 120 = .ok (.ifCond .lt 43, 3) := by decide +kernel
theorem dX9_compute_123 : decode cX9_compute 123 = .ok (.aload_n 0, 1) := by decide +kernel
theorem dX9_compute_124 : decode cX9_compute 124 = .ok (.getfield 78, 3) := by decide +kernel
theorem dX9_compute_127 : decode cX9_compute 127 = .ok (.iload_n 2, 1) := by decide +kernel
theorem dX9_compute_128 : decode cX9_compute 128 = .ok (.iconst 0, 1) := by decide +kernel
theorem dX9_compute_129 : decode cX9_compute 129 = .ok (.bastore, 1) := by decide +kernel
theorem dX9_compute_130 : decode cX9_compute 130 = .ok (.aload_n 0, 1) := by decide +kernel
theorem dX9_compute_131 : decode cX9_compute 131 = .ok (.iload_n 2, 1) := by decide +kernel
theorem dX9_compute_132 : decode cX9_compute 132 = .ok (.invokevirtual 196, 3) := by decide +kernel
theorem dX9_compute_135 : decode cX9_compute 135 = .ok (.aload_n 0, 1) := by decide +kernel
theorem dX9_compute_136 : decode cX9_compute 136 = .ok (.getfield 115, 3) := by decide +kernel
theorem dX9_compute_139 : decode cX9_compute 139 = .ok (.ifCond .le 16, 3) := by decide +kernel
theorem dX9_compute_142 : decode cX9_compute 142 = .ok (.aload_n 0, 1) := by decide +kernel
theorem dX9_compute_143 : decode cX9_compute 143 = .ok (.aload_n 0, 1) := by decide +kernel
theorem dX9_compute_144 : decode cX9_compute 144 = .ok (.getfield 115, 3) := by decide +kernel
theorem dX9_compute_147 : decode cX9_compute 147 = .ok (.putfield 199, 3) := by decide +kernel
theorem dX9_compute_150 : decode cX9_compute 150 = .ok (.bipush (-10), 2) := by decide +kernel
theorem dX9_compute_152 : decode cX9_compute 152 = .ok (.iload_n 2, 1) := by decide +kernel
theorem dX9_compute_153 : decode cX9_compute 153 = .ok (.isub, 1) := by decide +kernel
theorem dX9_compute_154 : decode cX9_compute 154 = .ok (.ireturn, 1) := by decide +kernel
theorem dX9_compute_155 : decode cX9_compute 155 = .ok (.aload_n 0, 1) := by decide +kernel
theorem dX9_compute_156 : decode cX9_compute 156 = .ok (.invokevirtual 202, 3) := by decide +kernel
theorem dX9_compute_159 : decode cX9_compute 159 = .ok (.istore_n 2, 1) := by decide +kernel
theorem dX9_compute_160 : decode cX9_compute 160 = .ok (.goto (-41), 3) := by decide +kernel
theorem dX9_compute_163 : decode cX9_compute 163 = .ok (.aload_n 0, 1) := by decide +kernel
theorem dX9_compute_164 : decode cX9_compute 164 = .ok (.iconst 0, 1) := by decide +kernel
theorem dX9_compute_165 : decode cX9_compute 165 = .ok (.putfield 199, 3) := by decide +kernel
theorem dX9_compute_168 : decode cX9_compute 168 = .ok (.aload_n 0, 1) := by decide +kernel
theorem dX9_compute_169 : decode cX9_compute 169 = .ok (.getfield 57, 3) := by decide +kernel
theorem dX9_compute_172 : decode cX9_compute 172 = .ok (.iload_n 1, 1) := by decide +kernel
theorem dX9_compute_173 : decode cX9_compute 173 = .ok (.iconst 1, 1) := by decide +kernel
theorem dX9_compute_174 : decode cX9_compute 174 = .ok (.bastore, 1) := by decide +kernel
theorem dX9_compute_175 : decode cX9_compute 175 = .ok (.aload_n 0, 1) := by decide +kernel
theorem dX9_compute_176 : decode cX9_compute 176 = .ok (.iload_n 1, 1) := by decide +kernel
theorem dX9_compute_177 : decode cX9_compute 177 = .ok (.invokevirtual 205, 3) := by decide +kernel
theorem dX9_compute_180 : decode cX9_compute 180 = .ok (.ireturn, 1) := by decide +kernel
theorem dX9_layFrames_0 : decode cX9_layFrames 0 = .ok (.iconst 0, 1) := by decide +kernel
theorem dX9_layFrames_1 : decode cX9_layFrames 1 = .ok (.istore_n 2, 1) := by decide +kernel
theorem dX9_layFrames_2 : decode cX9_layFrames 2 = .ok (.iload_n 2, 1) := by decide +kernel
theorem dX9_layFrames_3 : decode cX9_layFrames 3 = .ok (.aload_n 0, 1) := by decide +kernel
theorem dX9_layFrames_4 : decode cX9_layFrames 4 = .ok (.getfield 30, 3) := by decide +kernel
theorem dX9_layFrames_7 : decode cX9_layFrames 7 = .ok (.iload_n 1, 1) := by decide +kernel
theorem dX9_layFrames_8 : decode cX9_layFrames 8 = .ok (.iaload, 1) := by decide +kernel
theorem dX9_layFrames_9 : decode cX9_layFrames 9 = .ok (.if_icmp .ge 129, 3) := by decide +kernel
theorem dX9_layFrames_12 : decode cX9_layFrames 12 = .ok (.bipush 40, 2) := by decide +kernel
theorem dX9_layFrames_14 : decode cX9_layFrames 14 = .ok (.iload_n 1, 1) := by decide +kernel
theorem dX9_layFrames_15 : decode cX9_layFrames 15 = .ok (.imul, 1) := by decide +kernel
theorem dX9_layFrames_16 : decode cX9_layFrames 16 = .ok (.iload_n 2, 1) := by decide +kernel
theorem dX9_layFrames_17 : decode cX9_layFrames 17 = .ok (.iadd, 1) := by decide +kernel
theorem dX9_layFrames_18 : decode cX9_layFrames 18 = .ok (.istore_n 3, 1) := by decide +kernel
theorem dX9_layFrames_19 : decode cX9_layFrames 19 = .ok (.aload_n 0, 1) := by decide +kernel
theorem dX9_layFrames_20 : decode cX9_layFrames 20 = .ok (.getfield 60, 3) := by decide +kernel
theorem dX9_layFrames_23 : decode cX9_layFrames 23 = .ok (.iload_n 3, 1) := by decide +kernel
theorem dX9_layFrames_24 : decode cX9_layFrames 24 = .ok (.baload, 1) := by decide +kernel
theorem dX9_layFrames_25 : decode cX9_layFrames 25 = .ok (.ifCond .eq 107, 3) := by decide +kernel
theorem dX9_layFrames_28 : decode cX9_layFrames 28 = .ok (.aload_n 0, 1) := by decide +kernel
theorem dX9_layFrames_29 : decode cX9_layFrames 29 = .ok (.getfield 36, 3) := by decide +kernel
theorem dX9_layFrames_32 : decode cX9_layFrames 32 = .ok (.iload_n 3, 1) := by decide +kernel
theorem dX9_layFrames_33 : decode cX9_layFrames 33 = .ok (.iaload, 1) := by decide +kernel
theorem dX9_layFrames_34 : decode cX9_layFrames 34 = .ok (.istore 4, 2) := by decide +kernel
theorem dX9_layFrames_36 : decode cX9_layFrames 36 = .ok (.aload_n 0, 1) := by decide +kernel
theorem dX9_layFrames_37 : decode cX9_layFrames 37 = .ok (.getfield 33, 3) := by decide +kernel
theorem dX9_layFrames_40 : decode cX9_layFrames 40 = .ok (.iload_n 3, 1) := by decide +kernel
theorem dX9_layFrames_41 : decode cX9_layFrames 41 = .ok (.iaload, 1) := by decide +kernel
theorem dX9_layFrames_42 : decode cX9_layFrames 42 = .ok (.invokestatic 189, 3) := by decide +kernel
theorem dX9_layFrames_45 : decode cX9_layFrames 45 = .ok (.ifCond .eq 33, 3) := by decide +kernel
theorem dX9_layFrames_48 : decode cX9_layFrames 48 = .ok (.iload 4, 2) := by decide +kernel
theorem dX9_layFrames_50 : decode cX9_layFrames 50 = .ok (.aload_n 0, 1) := by decide +kernel
theorem dX9_layFrames_51 : decode cX9_layFrames 51 = .ok (.getfield 39, 3) := by decide +kernel
theorem dX9_layFrames_54 : decode cX9_layFrames 54 = .ok (.iload_n 3, 1) := by decide +kernel
theorem dX9_layFrames_55 : decode cX9_layFrames 55 = .ok (.iaload, 1) := by decide +kernel
theorem dX9_layFrames_56 : decode cX9_layFrames 56 = .ok (.if_icmp .gt 22, 3) := by decide +kernel
theorem dX9_layFrames_59 : decode cX9_layFrames 59 = .ok (.aload_n 0, 1) := by decide +kernel
theorem dX9_layFrames_60 : decode cX9_layFrames 60 = .ok (.getfield 66, 3) := by decide +kernel
theorem dX9_layFrames_63 : decode cX9_layFrames 63 = .ok (.bipush 40, 2) := by decide +kernel
theorem dX9_layFrames_65 : decode cX9_layFrames 65 = .ok (.iload_n 1, 1) := by decide +kernel
theorem dX9_layFrames_66 : decode cX9_layFrames 66 = .ok (.imul, 1) := by decide +kernel
theorem dX9_layFrames_67 : decode cX9_layFrames 67 = .ok (.iload 4, 2) := by decide +kernel
theorem dX9_layFrames_69 : decode cX9_layFrames 69 = .ok (.iadd, 1) := by decide +kernel
theorem dX9_layFrames_70 : decode cX9_layFrames 70 = .ok (.iconst 1, 1) := by decide +kernel
theorem dX9_layFrames_71 : decode cX9_layFrames 71 = .ok (.bastore, 1) := by decide +kernel
theorem dX9_layFrames_72 : decode cX9_layFrames 72 = .ok (.iinc 4 1, 3) := by decide +kernel
theorem dX9_layFrames_75 : decode cX9_layFrames 75 = .ok (.goto (-39), 3) := by decide +kernel
theorem dX9_layFrames_78 : decode cX9_layFrames 78 = .ok (.iconst 4, 1) := by decide +kernel
theorem dX9_layFrames_79 : decode cX9_layFrames 79 = .ok (.iload_n 1, 1) := by decide +kernel
theorem dX9_layFrames_80 : decode cX9_layFrames 80 = .ok (.imul, 1) := by decide +kernel
theorem dX9_layFrames_81 : decode cX9_layFrames 81 = .ok (.istore 4, 2) := by decide +kernel
theorem dX9_layFrames_83 : decode cX9_layFrames 83 = .ok (.iload 4, 2) := by decide +kernel
theorem dX9_layFrames_85 : decode cX9_layFrames 85 = .ok (.iconst 4, 1) := by decide +kernel
theorem dX9_layFrames_86 : decode cX9_layFrames 86 = .ok (.iload_n 1, 1) := by decide +kernel
theorem dX9_layFrames_87 : decode cX9_layFrames 87 = .ok (.imul, 1) := by decide +kernel
theorem dX9_layFrames_88 : decode cX9_layFrames 88 = .ok (.aload_n 0, 1) := by decide +kernel
theorem dX9_layFrames_89 : decode cX9_layFrames 89 = .ok (.getfield 42, 3) := by decide +kernel
theorem dX9_layFrames_92 : decode cX9_layFrames 92 = .ok (.iload_n 1, 1) := by decide +kernel
theorem dX9_layFrames_93 : decode cX9_layFrames 93 = .ok (.iaload, 1) := by decide +kernel
theorem dX9_layFrames_94 : decode cX9_layFrames 94 = .ok (.iadd, 1) := by decide +kernel
theorem dX9_layFrames_95 : decode cX9_layFrames 95 = .ok (.if_icmp .ge 37, 3) := by decide +kernel
theorem dX9_layFrames_98 : decode cX9_layFrames 98 = .ok (.aload_n 0, 1) := by decide +kernel
theorem dX9_layFrames_99 : decode cX9_layFrames 99 = .ok (.iload 4, 2) := by decide +kernel
theorem dX9_layFrames_101 : decode cX9_layFrames 101 = .ok (.iload_n 2, 1) := by decide +kernel
theorem dX9_layFrames_102 : decode cX9_layFrames 102 = .ok (.invokevirtual 173, 3) := by decide +kernel
theorem dX9_layFrames_105 : decode cX9_layFrames 105 = .ok (.ifCond .eq 21, 3) := by decide +kernel
theorem dX9_layFrames_108 : decode cX9_layFrames 108 = .ok (.aload_n 0, 1) := by decide +kernel
theorem dX9_layFrames_109 : decode cX9_layFrames 109 = .ok (.getfield 66, 3) := by decide +kernel
theorem dX9_layFrames_112 : decode cX9_layFrames 112 = .ok (.bipush 40, 2) := by decide +kernel
theorem dX9_layFrames_114 : decode cX9_layFrames 114 = .ok (.iload_n 1, 1) := by decide +kernel
theorem dX9_layFrames_115 : decode cX9_layFrames 115 = .ok (.imul, 1) := by decide +kernel
theorem dX9_layFrames_116 : decode cX9_layFrames 116 = .ok (.aload_n 0, 1) := by decide +kernel
theorem dX9_layFrames_117 : decode cX9_layFrames 117 = .ok (.getfield 51, 3) := by decide +kernel
theorem dX9_layFrames_120 : decode cX9_layFrames 120 = .ok (.iload 4, 2) := by decide +kernel
theorem dX9_layFrames_122 : decode cX9_layFrames 122 = .ok (.iaload, 1) := by decide +kernel
theorem dX9_layFrames_123 : decode cX9_layFrames 123 = .ok (.iadd, 1) := by decide +kernel
theorem dX9_layFrames_124 : decode cX9_layFrames 124 = .ok (.iconst 1, 1) := by decide +kernel
theorem dX9_layFrames_125 : decode cX9_layFrames 125 = .ok (.bastore, 1) := by decide +kernel
theorem dX9_layFrames_126 : decode cX9_layFrames 126 = .ok (.iinc 4 1, 3) := by decide +kernel
theorem dX9_layFrames_129 : decode cX9_layFrames 129 = .ok (.goto (-46), 3) := by decide +kernel
theorem dX9_layFrames_132 : decode cX9_layFrames 132 = .ok (.iinc 2 1, 3) := by decide +kernel
theorem dX9_layFrames_135 : decode cX9_layFrames 135 = .ok (.goto (-133), 3) := by decide +kernel
theorem dX9_layFrames_138 : decode cX9_layFrames 138 = .ok (.iconst 0, 1) := by decide +kernel
theorem dX9_layFrames_139 : decode cX9_layFrames 139 = .ok (.istore_n 2, 1) := by decide +kernel
theorem dX9_layFrames_140 : decode cX9_layFrames 140 = .ok (.iconst 0, 1) := by decide +kernel
theorem dX9_layFrames_141 : decode cX9_layFrames 141 = .ok (.istore_n 3, 1) := by decide +kernel
theorem dX9_layFrames_142 : decode cX9_layFrames 142 = .ok (.iload_n 3, 1) := by decide +kernel
theorem dX9_layFrames_143 : decode cX9_layFrames 143 = .ok (.aload_n 0, 1) := by decide +kernel
theorem dX9_layFrames_144 : decode cX9_layFrames 144 = .ok (.getfield 30, 3) := by decide +kernel
theorem dX9_layFrames_147 : decode cX9_layFrames 147 = .ok (.iload_n 1, 1) := by decide +kernel
theorem dX9_layFrames_148 : decode cX9_layFrames 148 = .ok (.iaload, 1) := by decide +kernel
theorem dX9_layFrames_149 : decode cX9_layFrames 149 = .ok (.if_icmp .ge 55, 3) := by decide +kernel
theorem dX9_layFrames_152 : decode cX9_layFrames 152 = .ok (.aload_n 0, 1) := by decide +kernel
theorem dX9_layFrames_153 : decode cX9_layFrames 153 = .ok (.getfield 66, 3) := by decide +kernel
theorem dX9_layFrames_156 : decode cX9_layFrames 156 = .ok (.bipush 40, 2) := by decide +kernel
theorem dX9_layFrames_158 : decode cX9_layFrames 158 = .ok (.iload_n 1, 1) := by decide +kernel
theorem dX9_layFrames_159 : decode cX9_layFrames 159 = .ok (.imul, 1) := by decide +kernel
theorem dX9_layFrames_160 : decode cX9_layFrames 160 = .ok (.iload_n 3, 1) := by decide +kernel
theorem dX9_layFrames_161 : decode cX9_layFrames 161 = .ok (.iadd, 1) := by decide +kernel
theorem dX9_layFrames_162 : decode cX9_layFrames 162 = .ok (.baload, 1) := by decide +kernel
theorem dX9_layFrames_163 : decode cX9_layFrames 163 = .ok (.ifCond .eq 35, 3) := by decide +kernel
theorem dX9_layFrames_166 : decode cX9_layFrames 166 = .ok (.aload_n 0, 1) := by decide +kernel
theorem dX9_layFrames_167 : decode cX9_layFrames 167 = .ok (.getfield 63, 3) := by decide +kernel
theorem dX9_layFrames_170 : decode cX9_layFrames 170 = .ok (.bipush 20, 2) := by decide +kernel
theorem dX9_layFrames_172 : decode cX9_layFrames 172 = .ok (.bipush 40, 2) := by decide +kernel
theorem dX9_layFrames_174 : decode cX9_layFrames 174 = .ok (.iload_n 1, 1) := by decide +kernel
theorem dX9_layFrames_175 : decode cX9_layFrames 175 = .ok (.imul, 1) := by decide +kernel
theorem dX9_layFrames_176 : decode cX9_layFrames 176 = .ok (.iload_n 3, 1) := by decide +kernel
theorem dX9_layFrames_177 : decode cX9_layFrames 177 = .ok (.iadd, 1) := by decide +kernel
theorem dX9_layFrames_178 : decode cX9_layFrames 178 = .ok (.imul, 1) := by decide +kernel
theorem dX9_layFrames_179 : decode cX9_layFrames 179 = .ok (.aload_n 0, 1) := by decide +kernel
theorem dX9_layFrames_180 : decode cX9_layFrames 180 = .ok (.getfield 69, 3) := by decide +kernel
theorem dX9_layFrames_183 : decode cX9_layFrames 183 = .ok (.bipush 20, 2) := by decide +kernel
theorem dX9_layFrames_185 : decode cX9_layFrames 185 = .ok (.bipush 40, 2) := by decide +kernel
theorem dX9_layFrames_187 : decode cX9_layFrames 187 = .ok (.iload_n 1, 1) := by decide +kernel
theorem dX9_layFrames_188 : decode cX9_layFrames 188 = .ok (.imul, 1) := by decide +kernel
theorem dX9_layFrames_189 : decode cX9_layFrames 189 = .ok (.iload_n 3, 1) := by decide +kernel
theorem dX9_layFrames_190 : decode cX9_layFrames 190 = .ok (.iadd, 1) := by decide +kernel
theorem dX9_layFrames_191 : decode cX9_layFrames 191 = .ok (.imul, 1) := by decide +kernel
theorem dX9_layFrames_192 : decode cX9_layFrames 192 = .ok (.invokestatic 162, 3) := by decide +kernel
theorem dX9_layFrames_195 : decode cX9_layFrames 195 = .ok (.iinc 2 1, 3) := by decide +kernel
theorem dX9_layFrames_198 : decode cX9_layFrames 198 = .ok (.iinc 3 1, 3) := by decide +kernel
theorem dX9_layFrames_201 : decode cX9_layFrames 201 = .ok (.goto (-59), 3) := by decide +kernel
theorem dX9_layFrames_204 : decode cX9_layFrames 204 = .ok (.iload_n 2, 1) := by decide +kernel
theorem dX9_layFrames_205 : decode cX9_layFrames 205 = .ok (.ireturn, 1) := by decide +kernel
theorem dX9_fault_0 : decode cX9_fault 0 = .ok (.aload_n 0, 1) := by decide +kernel
theorem dX9_fault_1 : decode cX9_fault 1 = .ok (.getfield 199, 3) := by decide +kernel
theorem dX9_fault_4 : decode cX9_fault 4 = .ok (.ireturn, 1) := by decide +kernel
theorem dX9_part_0 : decode cX9_part 0 = .ok (.iload_n 3, 1) := by decide +kernel
theorem dX9_part_1 : decode cX9_part 1 = .ok (.iconst 0, 1) := by decide +kernel
theorem dX9_part_2 : decode cX9_part 2 = .ok (.bipush 7, 2) := by decide +kernel
theorem dX9_part_4 : decode cX9_part 4 = .ok (.invokestatic 90, 3) := by decide +kernel
theorem dX9_part_7 : decode cX9_part 7 = .ok (.ifCond .eq 9, 3) := by decide +kernel
theorem dX9_part_10 : decode cX9_part 10 = .ok (.aload_n 1, 1) := by decide +kernel
theorem dX9_part_11 : decode cX9_part 11 = .ok (.iload_n 2, 1) := by decide +kernel
theorem dX9_part_12 : decode cX9_part 12 = .ok (.iload_n 3, 1) := by decide +kernel
theorem dX9_part_13 : decode cX9_part 13 = .ok (.iadd, 1) := by decide +kernel
theorem dX9_part_14 : decode cX9_part 14 = .ok (.iaload, 1) := by decide +kernel
theorem dX9_part_15 : decode cX9_part 15 = .ok (.ireturn, 1) := by decide +kernel
theorem dX9_part_16 : decode cX9_part 16 = .ok (.iload_n 3, 1) := by decide +kernel
theorem dX9_part_17 : decode cX9_part 17 = .ok (.bipush 99, 2) := by decide +kernel
theorem dX9_part_19 : decode cX9_part 19 = .ok (.if_icmp .ne 10, 3) := by decide +kernel
theorem dX9_part_22 : decode cX9_part 22 = .ok (.aload_n 1, 1) := by decide +kernel
theorem dX9_part_23 : decode cX9_part 23 = .ok (.iload_n 2, 1) := by decide +kernel
theorem dX9_part_24 : decode cX9_part 24 = .ok (.bipush 8, 2) := by decide +kernel
theorem dX9_part_26 : decode cX9_part 26 = .ok (.iadd, 1) := by decide +kernel
theorem dX9_part_27 : decode cX9_part 27 = .ok (.iaload, 1) := by decide +kernel
theorem dX9_part_28 : decode cX9_part 28 = .ok (.ireturn, 1) := by decide +kernel
theorem dX9_part_29 : decode cX9_part 29 = .ok (.iload_n 3, 1) := by decide +kernel
theorem dX9_part_30 : decode cX9_part 30 = .ok (.bipush 100, 2) := by decide +kernel
theorem dX9_part_32 : decode cX9_part 32 = .ok (.isub, 1) := by decide +kernel
theorem dX9_part_33 : decode cX9_part 33 = .ok (.iconst 0, 1) := by decide +kernel
theorem dX9_part_34 : decode cX9_part 34 = .ok (.aload_n 1, 1) := by decide +kernel
theorem dX9_part_35 : decode cX9_part 35 = .ok (.iload_n 2, 1) := by decide +kernel
theorem dX9_part_36 : decode cX9_part 36 = .ok (.bipush 8, 2) := by decide +kernel
theorem dX9_part_38 : decode cX9_part 38 = .ok (.iadd, 1) := by decide +kernel
theorem dX9_part_39 : decode cX9_part 39 = .ok (.iaload, 1) := by decide +kernel
theorem dX9_part_40 : decode cX9_part 40 = .ok (.iconst 1, 1) := by decide +kernel
theorem dX9_part_41 : decode cX9_part 41 = .ok (.isub, 1) := by decide +kernel
theorem dX9_part_42 : decode cX9_part 42 = .ok (.invokestatic 90, 3) := by decide +kernel
theorem dX9_part_45 : decode cX9_part 45 = .ok (.ifCond .eq 17, 3) := by decide +kernel
theorem dX9_part_48 : decode cX9_part 48 = .ok (.aload_n 1, 1) := by decide +kernel
theorem dX9_part_49 : decode cX9_part 49 = .ok (.iload_n 2, 1) := by decide +kernel
theorem dX9_part_50 : decode cX9_part 50 = .ok (.bipush 9, 2) := by decide +kernel
theorem dX9_part_52 : decode cX9_part 52 = .ok (.iadd, 1) := by decide +kernel
theorem dX9_part_53 : decode cX9_part 53 = .ok (.iload_n 3, 1) := by decide +kernel
theorem dX9_part_54 : decode cX9_part 54 = .ok (.iadd, 1) := by decide +kernel
theorem dX9_part_55 : decode cX9_part 55 = .ok (.bipush 100, 2) := by decide +kernel
theorem dX9_part_57 : decode cX9_part 57 = .ok (.isub, 1) := by decide +kernel
theorem dX9_part_58 : decode cX9_part 58 = .ok (.iaload, 1) := by decide +kernel
theorem dX9_part_59 : decode cX9_part 59 = .ok (.goto 5, 3) := by decide +kernel
theorem dX9_part_62 : decode cX9_part 62 = .ok (.bipush (-5), 2) := by decide +kernel
theorem dX9_part_64 : decode cX9_part 64 = .ok (.ireturn, 1) := by decide +kernel
theorem dX9_isAsked_0 : decode cX9_isAsked 0 = .ok (.iload_n 0, 1) := by decide +kernel
theorem dX9_isAsked_1 : decode cX9_isAsked 1 = .ok (.iconst 0, 1) := by decide +kernel
theorem dX9_isAsked_2 : decode cX9_isAsked 2 = .ok (.bipush 7, 2) := by decide +kernel
theorem dX9_isAsked_4 : decode cX9_isAsked 4 = .ok (.invokestatic 90, 3) := by decide +kernel
theorem dX9_isAsked_7 : decode cX9_isAsked 7 = .ok (.ifCond .ne 20, 3) := by decide +kernel
theorem dX9_isAsked_10 : decode cX9_isAsked 10 = .ok (.iload_n 0, 1) := by decide +kernel
theorem dX9_isAsked_11 : decode cX9_isAsked 11 = .ok (.bipush 99, 2) := by decide +kernel
theorem dX9_isAsked_13 : decode cX9_isAsked 13 = .ok (.if_icmp .eq 14, 3) := by decide +kernel
theorem dX9_isAsked_16 : decode cX9_isAsked 16 = .ok (.iload_n 0, 1) := by decide +kernel
theorem dX9_isAsked_17 : decode cX9_isAsked 17 = .ok (.bipush 100, 2) := by decide +kernel
theorem dX9_isAsked_19 : decode cX9_isAsked 19 = .ok (.bipush 109, 2) := by decide +kernel
theorem dX9_isAsked_21 : decode cX9_isAsked 21 = .ok (.invokestatic 90, 3) := by decide +kernel
theorem dX9_isAsked_24 : decode cX9_isAsked 24 = .ok (.ifCond .eq 7, 3) := by decide +kernel
theorem dX9_isAsked_27 : decode cX9_isAsked 27 = .ok (.iconst 1, 1) := by decide +kernel
theorem dX9_isAsked_28 : decode cX9_isAsked 28 = .ok (.goto 4, 3) := by decide +kernel
theorem dX9_isAsked_31 : decode cX9_isAsked 31 = .ok (.iconst 0, 1) := by decide +kernel
theorem dX9_isAsked_32 : decode cX9_isAsked 32 = .ok (.ireturn, 1) := by decide +kernel
theorem dX9_state_0 : decode cX9_state 0 = .ok (.iload_n 1, 1) := by decide +kernel
theorem dX9_state_1 : decode cX9_state 1 = .ok (.invokestatic 112, 3) := by decide +kernel
theorem dX9_state_4 : decode cX9_state 4 = .ok (.ifCond .eq 26, 3) := by decide +kernel
theorem dX9_state_7 : decode cX9_state 7 = .ok (.iload_n 2, 1) := by decide +kernel
theorem dX9_state_8 : decode cX9_state 8 = .ok (.iconst 0, 1) := by decide +kernel
theorem dX9_state_9 : decode cX9_state 9 = .ok (.aload_n 0, 1) := by decide +kernel
theorem dX9_state_10 : decode cX9_state 10 = .ok (.getfield 30, 3) := by decide +kernel
theorem dX9_state_13 : decode cX9_state 13 = .ok (.iload_n 1, 1) := by decide +kernel
theorem dX9_state_14 : decode cX9_state 14 = .ok (.iaload, 1) := by decide +kernel
theorem dX9_state_15 : decode cX9_state 15 = .ok (.iconst 1, 1) := by decide +kernel
theorem dX9_state_16 : decode cX9_state 16 = .ok (.isub, 1) := by decide +kernel
theorem dX9_state_17 : decode cX9_state 17 = .ok (.invokestatic 90, 3) := by decide +kernel
theorem dX9_state_20 : decode cX9_state 20 = .ok (.ifCond .eq 10, 3) := by decide +kernel
theorem dX9_state_23 : decode cX9_state 23 = .ok (.iload_n 3, 1) := by decide +kernel
theorem dX9_state_24 : decode cX9_state 24 = .ok (.invokestatic 209, 3) := by decide +kernel
theorem dX9_state_27 : decode cX9_state 27 = .ok (.ifCond .ne 5, 3) := by decide +kernel
theorem dX9_state_30 : decode cX9_state 30 = .ok (.iconst (-1), 1) := by decide +kernel
theorem dX9_state_31 : decode cX9_state 31 = .ok (.ireturn, 1) := by decide +kernel
theorem dX9_state_32 : decode cX9_state 32 = .ok (.aload_n 0, 1) := by decide +kernel
theorem dX9_state_33 : decode cX9_state 33 = .ok (.getfield 57, 3) := by decide +kernel
theorem dX9_state_36 : decode cX9_state 36 = .ok (.iload_n 1, 1) := by decide +kernel
theorem dX9_state_37 : decode cX9_state 37 = .ok (.baload, 1) := by decide +kernel
theorem dX9_state_38 : decode cX9_state 38 = .ok (.ifCond .ne 6, 3) := by decide +kernel
theorem dX9_state_41 : decode cX9_state 41 = .ok (.bipush (-3), 2) := by decide +kernel
theorem dX9_state_43 : decode cX9_state 43 = .ok (.ireturn, 1) := by decide +kernel
theorem dX9_state_44 : decode cX9_state 44 = .ok (.aload_n 0, 1) := by decide +kernel
theorem dX9_state_45 : decode cX9_state 45 = .ok (.getfield 60, 3) := by decide +kernel
theorem dX9_state_48 : decode cX9_state 48 = .ok (.bipush 40, 2) := by decide +kernel
theorem dX9_state_50 : decode cX9_state 50 = .ok (.iload_n 1, 1) := by decide +kernel
theorem dX9_state_51 : decode cX9_state 51 = .ok (.imul, 1) := by decide +kernel
theorem dX9_state_52 : decode cX9_state 52 = .ok (.iload_n 2, 1) := by decide +kernel
theorem dX9_state_53 : decode cX9_state 53 = .ok (.iadd, 1) := by decide +kernel
theorem dX9_state_54 : decode cX9_state 54 = .ok (.baload, 1) := by decide +kernel
theorem dX9_state_55 : decode cX9_state 55 = .ok (.ifCond .ne 6, 3) := by decide +kernel
theorem dX9_state_58 : decode cX9_state 58 = .ok (.bipush (-4), 2) := by decide +kernel
theorem dX9_state_60 : decode cX9_state 60 = .ok (.ireturn, 1) := by decide +kernel
theorem dX9_state_61 : decode cX9_state 61 = .ok (.aload_n 0, 1) := by decide +kernel
theorem dX9_state_62 : decode cX9_state 62 = .ok (.aload_n 0, 1) := by decide +kernel
theorem dX9_state_63 : decode cX9_state 63 = .ok (.getfield 63, 3) := by decide +kernel
theorem dX9_state_66 : decode cX9_state 66 = .ok (.bipush 20, 2) := by decide +kernel
theorem dX9_state_68 : decode cX9_state 68 = .ok (.bipush 40, 2) := by decide +kernel
theorem dX9_state_70 : decode cX9_state 70 = .ok (.iload_n 1, 1) := by decide +kernel
theorem dX9_state_71 : decode cX9_state 71 = .ok (.imul, 1) := by decide +kernel
theorem dX9_state_72 : decode cX9_state 72 = .ok (.iload_n 2, 1) := by decide +kernel
theorem dX9_state_73 : decode cX9_state 73 = .ok (.iadd, 1) := by decide +kernel
theorem dX9_state_74 : decode cX9_state 74 = .ok (.imul, 1) := by decide +kernel
theorem dX9_state_75 : decode cX9_state 75 = .ok (.iload_n 3, 1) := by decide +kernel
theorem dX9_state_76 : decode cX9_state 76 = .ok (.invokevirtual 212, 3) := by decide +kernel
theorem dX9_state_79 : decode cX9_state 79 = .ok (.istore 4, 2) := by decide +kernel
theorem dX9_state_81 : decode cX9_state 81 = .ok (.iload 4, 2) := by decide +kernel
theorem dX9_state_83 : decode cX9_state 83 = .ok (.bipush (-4), 2) := by decide +kernel
theorem dX9_state_85 : decode cX9_state 85 = .ok (.if_icmp .ge 7, 3) := by decide +kernel
theorem dX9_state_88 : decode cX9_state 88 = .ok (.iconst (-1), 1) := by decide +kernel
theorem dX9_state_89 : decode cX9_state 89 = .ok (.goto 5, 3) := by decide +kernel
theorem dX9_state_92 : decode cX9_state 92 = .ok (.iload 4, 2) := by decide +kernel
theorem dX9_state_94 : decode cX9_state 94 = .ok (.ireturn, 1) := by decide +kernel
theorem dX9_frameCount_0 : decode cX9_frameCount 0 = .ok (.iconst 0, 1) := by decide +kernel
theorem dX9_frameCount_1 : decode cX9_frameCount 1 = .ok (.istore_n 2, 1) := by decide +kernel
theorem dX9_frameCount_2 : decode cX9_frameCount 2 = .ok (.iconst 0, 1) := by decide +kernel
theorem dX9_frameCount_3 : decode cX9_frameCount 3 = .ok (.istore_n 3, 1) := by decide +kernel
theorem dX9_frameCount_4 : decode cX9_frameCount 4 = .ok (.iload_n 3, 1) := by decide +kernel
theorem dX9_frameCount_5 : decode cX9_frameCount 5 = .ok (.aload_n 0, 1) := by decide +kernel
theorem dX9_frameCount_6 : decode cX9_frameCount 6 = .ok (.getfield 30, 3) := by decide +kernel
theorem dX9_frameCount_9 : decode cX9_frameCount 9 = .ok (.iload_n 1, 1) := by decide +kernel
theorem dX9_frameCount_10 : decode cX9_frameCount 10 = .ok (.iaload, 1) := by decide +kernel
theorem dX9_frameCount_11 : decode cX9_frameCount 11 = .ok (.if_icmp .ge 31, 3) := by decide +kernel
theorem dX9_frameCount_14 : decode cX9_frameCount 14 = .ok (.iload_n 2, 1) := by decide +kernel
theorem dX9_frameCount_15 : decode cX9_frameCount 15 = .ok (.aload_n 0, 1) := by decide +kernel
theorem dX9_frameCount_16 : decode cX9_frameCount 16 = .ok (.getfield 66, 3) := by decide +kernel
theorem dX9_frameCount_19 : decode cX9_frameCount 19 = .ok (.bipush 40, 2) := by decide +kernel
theorem dX9_frameCount_21 : decode cX9_frameCount 21 = .ok (.iload_n 1, 1) := by decide +kernel
theorem dX9_frameCount_22 : decode cX9_frameCount 22 = .ok (.imul, 1) := by decide +kernel
theorem dX9_frameCount_23 : decode cX9_frameCount 23 = .ok (.iload_n 3, 1) := by decide +kernel
theorem dX9_frameCount_24 : decode cX9_frameCount 24 = .ok (.iadd, 1) := by decide +kernel
theorem dX9_frameCount_25 : decode cX9_frameCount 25 = .ok (.baload, 1) := by decide +kernel
theorem dX9_frameCount_26 : decode cX9_frameCount 26 = .ok (.ifCond .eq 7, 3) := by decide +kernel
theorem dX9_frameCount_29 : decode cX9_frameCount 29 = .ok (.iconst 1, 1) := by decide +kernel
theorem dX9_frameCount_30 : decode cX9_frameCount 30 = .ok (.goto 4, 3) := by decide +kernel
theorem dX9_frameCount_33 : decode cX9_frameCount 33 = .ok (.iconst 0, 1) := by decide +kernel
theorem dX9_frameCount_34 : decode cX9_frameCount 34 = .ok (.iadd, 1) := by decide +kernel
theorem dX9_frameCount_35 : decode cX9_frameCount 35 = .ok (.istore_n 2, 1) := by decide +kernel
theorem dX9_frameCount_36 : decode cX9_frameCount 36 = .ok (.iinc 3 1, 3) := by decide +kernel
theorem dX9_frameCount_39 : decode cX9_frameCount 39 = .ok (.goto (-35), 3) := by decide +kernel
theorem dX9_frameCount_42 : decode cX9_frameCount 42 = .ok (.iload_n 2, 1) := by decide +kernel
theorem dX9_frameCount_43 : decode cX9_frameCount 43 = .ok (.ireturn, 1) := by decide +kernel
theorem dX9_actOf_0 : decode cX9_actOf 0 = .ok (.iload_n 2, 1) := by decide +kernel
theorem dX9_actOf_1 : decode cX9_actOf 1 = .ok (.ifCond .ge 8, 3) := by decide +kernel
theorem dX9_actOf_4 : decode cX9_actOf 4 = .ok (.bipush 99, 2) := by decide +kernel
theorem dX9_actOf_6 : decode cX9_actOf 6 = .ok (.goto 4, 3) := by decide +kernel
theorem dX9_actOf_9 : decode cX9_actOf 9 = .ok (.iload_n 2, 1) := by decide +kernel
theorem dX9_actOf_10 : decode cX9_actOf 10 = .ok (.istore_n 3, 1) := by decide +kernel
theorem dX9_actOf_11 : decode cX9_actOf 11 = .ok (.iconst 0, 1) := by decide +kernel
theorem dX9_actOf_12 : decode cX9_actOf 12 = .ok (.istore 4, 2) := by decide +kernel
theorem dX9_actOf_14 : decode cX9_actOf 14 = .ok (.iload 4, 2) := by decide +kernel
theorem dX9_actOf_16 : decode cX9_actOf 16 = .ok (.aload_n 0, 1) := by decide +kernel
theorem dX9_actOf_17 : decode cX9_actOf 17 = .ok (.getfield 30, 3) := by decide +kernel
theorem dX9_actOf_20 : decode cX9_actOf 20 = .ok (.iload_n 1, 1) := by decide +kernel
theorem dX9_actOf_21 : decode cX9_actOf 21 = .ok (.iaload, 1) := by decide +kernel
theorem dX9_actOf_22 : decode cX9_actOf 22 = .ok (.if_icmp .ge 34, 3) := by decide +kernel
theorem dX9_actOf_25 : decode cX9_actOf 25 = .ok (.aload_n 0, 1) := by decide +kernel
theorem dX9_actOf_26 : decode cX9_actOf 26 = .ok (.getfield 66, 3) := by decide +kernel
theorem dX9_actOf_29 : decode cX9_actOf 29 = .ok (.bipush 40, 2) := by decide +kernel
theorem dX9_actOf_31 : decode cX9_actOf 31 = .ok (.iload_n 1, 1) := by decide +kernel
theorem dX9_actOf_32 : decode cX9_actOf 32 = .ok (.imul, 1) := by decide +kernel
theorem dX9_actOf_33 : decode cX9_actOf 33 = .ok (.iload 4, 2) := by decide +kernel
theorem dX9_actOf_35 : decode cX9_actOf 35 = .ok (.iadd, 1) := by decide +kernel
theorem dX9_actOf_36 : decode cX9_actOf 36 = .ok (.baload, 1) := by decide +kernel
theorem dX9_actOf_37 : decode cX9_actOf 37 = .ok (.ifCond .eq 13, 3) := by decide +kernel
theorem dX9_actOf_40 : decode cX9_actOf 40 = .ok (.iload_n 3, 1) := by decide +kernel
theorem dX9_actOf_41 : decode cX9_actOf 41 = .ok (.ifCond .ne 6, 3) := by decide +kernel
theorem dX9_actOf_44 : decode cX9_actOf 44 = .ok (.iload 4, 2) := by decide +kernel
theorem dX9_actOf_46 : decode cX9_actOf 46 = .ok (.ireturn, 1) := by decide +kernel
theorem dX9_actOf_47 : decode cX9_actOf 47 = .ok (.iinc 3 (-1), 3) := by decide +kernel
theorem dX9_actOf_50 : decode cX9_actOf 50 = .ok (.iinc 4 1, 3) := by decide +kernel
theorem dX9_actOf_53 : decode cX9_actOf 53 = .ok (.goto (-39), 3) := by decide +kernel
theorem dX9_actOf_56 : decode cX9_actOf 56 = .ok (.iconst (-1), 1) := by decide +kernel
theorem dX9_actOf_57 : decode cX9_actOf 57 = .ok (.ireturn, 1) := by decide +kernel
theorem dX9_frame_0 : decode cX9_frame 0 = .ok (.iload_n 1, 1) := by decide +kernel
theorem dX9_frame_1 : decode cX9_frame 1 = .ok (.invokestatic 112, 3) := by decide +kernel
theorem dX9_frame_4 : decode cX9_frame 4 = .ok (.ifCond .ne 5, 3) := by decide +kernel
theorem dX9_frame_7 : decode cX9_frame 7 = .ok (.iconst (-1), 1) := by decide +kernel
theorem dX9_frame_8 : decode cX9_frame 8 = .ok (.ireturn, 1) := by decide +kernel
theorem dX9_frame_9 : decode cX9_frame 9 = .ok (.aload_n 0, 1) := by decide +kernel
theorem dX9_frame_10 : decode cX9_frame 10 = .ok (.getfield 57, 3) := by decide +kernel
theorem dX9_frame_13 : decode cX9_frame 13 = .ok (.iload_n 1, 1) := by decide +kernel
theorem dX9_frame_14 : decode cX9_frame 14 = .ok (.baload, 1) := by decide +kernel
theorem dX9_frame_15 : decode cX9_frame 15 = .ok (.ifCond .ne 6, 3) := by decide +kernel
theorem dX9_frame_18 : decode cX9_frame 18 = .ok (.bipush (-3), 2) := by decide +kernel
theorem dX9_frame_20 : decode cX9_frame 20 = .ok (.ireturn, 1) := by decide +kernel
theorem dX9_frame_21 : decode cX9_frame 21 = .ok (.aload_n 0, 1) := by decide +kernel
theorem dX9_frame_22 : decode cX9_frame 22 = .ok (.iload_n 1, 1) := by decide +kernel
theorem dX9_frame_23 : decode cX9_frame 23 = .ok (.iload_n 2, 1) := by decide +kernel
theorem dX9_frame_24 : decode cX9_frame 24 = .ok (.invokevirtual 216, 3) := by decide +kernel
theorem dX9_frame_27 : decode cX9_frame 27 = .ok (.istore 4, 2) := by decide +kernel
theorem dX9_frame_29 : decode cX9_frame 29 = .ok (.iload 4, 2) := by decide +kernel
theorem dX9_frame_31 : decode cX9_frame 31 = .ok (.ifCond .lt 16, 3) := by decide +kernel
theorem dX9_frame_34 : decode cX9_frame 34 = .ok (.iload_n 3, 1) := by decide +kernel
theorem dX9_frame_35 : decode cX9_frame 35 = .ok (.bipush 98, 2) := by decide +kernel
theorem dX9_frame_37 : decode cX9_frame 37 = .ok (.if_icmp .eq 12, 3) := by decide +kernel
theorem dX9_frame_40 : decode cX9_frame 40 = .ok (.iload_n 3, 1) := by decide +kernel
theorem dX9_frame_41 : decode cX9_frame 41 = .ok (.invokestatic 209, 3) := by decide +kernel
theorem dX9_frame_44 : decode cX9_frame 44 = .ok (.ifCond .ne 5, 3) := by decide +kernel
theorem dX9_frame_47 : decode cX9_frame 47 = .ok (.iconst (-1), 1) := by decide +kernel
theorem dX9_frame_48 : decode cX9_frame 48 = .ok (.ireturn, 1) := by decide +kernel
theorem dX9_frame_49 : decode cX9_frame 49 = .ok (.iload_n 3, 1) := by decide +kernel
theorem dX9_frame_50 : decode cX9_frame 50 = .ok (.bipush 98, 2) := by decide +kernel
theorem dX9_frame_52 : decode cX9_frame 52 = .ok (.if_icmp .ne 8, 3) := by decide +kernel
theorem dX9_frame_55 : decode cX9_frame 55 = .ok (.iload 4, 2) := by decide +kernel
theorem dX9_frame_57 : decode cX9_frame 57 = .ok (.goto 22, 3) := by decide +kernel
theorem dX9_frame_60 : decode cX9_frame 60 = .ok (.aload_n 0, 1) := by decide +kernel
theorem dX9_frame_61 : decode cX9_frame 61 = .ok (.aload_n 0, 1) := by decide +kernel
theorem dX9_frame_62 : decode cX9_frame 62 = .ok (.getfield 69, 3) := by decide +kernel
theorem dX9_frame_65 : decode cX9_frame 65 = .ok (.bipush 20, 2) := by decide +kernel
theorem dX9_frame_67 : decode cX9_frame 67 = .ok (.bipush 40, 2) := by decide +kernel
theorem dX9_frame_69 : decode cX9_frame 69 = .ok (.iload_n 1, 1) := by decide +kernel
theorem dX9_frame_70 : decode cX9_frame 70 = .ok (.imul, 1) := by decide +kernel
theorem dX9_frame_71 : decode cX9_frame 71 = .ok (.iload 4, 2) := by decide +kernel
theorem dX9_frame_73 : decode cX9_frame 73 = .ok (.iadd, 1) := by decide +kernel
theorem dX9_frame_74 : decode cX9_frame 74 = .ok (.imul, 1) := by decide +kernel
theorem dX9_frame_75 : decode cX9_frame 75 = .ok (.iload_n 3, 1) := by decide +kernel
theorem dX9_frame_76 : decode cX9_frame 76 = .ok (.invokevirtual 212, 3) := by decide +kernel
theorem dX9_frame_79 : decode cX9_frame 79 = .ok (.istore 5, 2) := by decide +kernel
theorem dX9_frame_81 : decode cX9_frame 81 = .ok (.iload 5, 2) := by decide +kernel
theorem dX9_frame_83 : decode cX9_frame 83 = .ok (.bipush (-4), 2) := by decide +kernel
theorem dX9_frame_85 : decode cX9_frame 85 = .ok (.if_icmp .ge 7, 3) := by decide +kernel
theorem dX9_frame_88 : decode cX9_frame 88 = .ok (.iconst (-1), 1) := by decide +kernel
theorem dX9_frame_89 : decode cX9_frame 89 = .ok (.goto 5, 3) := by decide +kernel
theorem dX9_frame_92 : decode cX9_frame 92 = .ok (.iload 5, 2) := by decide +kernel
theorem dX9_frame_94 : decode cX9_frame 94 = .ok (.ireturn, 1) := by decide +kernel
theorem dX9_toldPlaces_0 : decode cX9_toldPlaces 0 = .ok (.iconst 0, 1) := by decide +kernel
theorem dX9_toldPlaces_1 : decode cX9_toldPlaces 1 = .ok (.istore_n 3, 1) := by decide +kernel
theorem dX9_toldPlaces_2 : decode cX9_toldPlaces 2 = .ok (.iconst 0, 1) := by decide +kernel
theorem dX9_toldPlaces_3 : decode cX9_toldPlaces 3 = .ok (.istore 4, 2) := by decide +kernel
theorem dX9_toldPlaces_5 : decode cX9_toldPlaces 5 = .ok (.iconst 0, 1) := by decide +kernel
theorem dX9_toldPlaces_6 : decode cX9_toldPlaces 6 = .ok (.istore 5, 2) := by decide +kernel
theorem dX9_toldPlaces_8 : decode cX9_toldPlaces 8 = .ok (.iload 5, 2) := by decide +kernel
theorem dX9_toldPlaces_10 : decode cX9_toldPlaces 10 = .ok (.bipush 8, 2) := by decide +kernel
theorem dX9_toldPlaces_12 : decode cX9_toldPlaces 12 = .ok (.if_icmp .ge 48, 3) := by decide +kernel
theorem dX9_toldPlaces_15 : decode cX9_toldPlaces 15 = .ok (.aload_n 0, 1) := by decide +kernel
theorem dX9_toldPlaces_16 : decode cX9_toldPlaces 16 = .ok (.iload_n 1, 1) := by decide +kernel
theorem dX9_toldPlaces_17 : decode cX9_toldPlaces 17 = .ok (.iload 5, 2) := by decide +kernel
theorem dX9_toldPlaces_19 : decode cX9_toldPlaces 19 = .ok (.iadd, 1) := by decide +kernel
theorem dX9_toldPlaces_20 : decode cX9_toldPlaces 20 = .ok (.iaload, 1) := by decide +kernel
theorem dX9_toldPlaces_21 : decode cX9_toldPlaces 21 = .ok (.iconst 3, 1) := by decide +kernel
theorem dX9_toldPlaces_22 : decode cX9_toldPlaces 22 = .ok (.if_icmp .eq 32, 3) := by decide +kernel
theorem dX9_toldPlaces_25 : decode cX9_toldPlaces 25 = .ok (.aload_n 2, 1) := by decide +kernel
theorem dX9_toldPlaces_26 : decode cX9_toldPlaces 26 = .ok (.iload_n 3, 1) := by decide +kernel
theorem dX9_toldPlaces_27 : decode cX9_toldPlaces 27 = .ok (.aload_n 0, 1) := by decide +kernel
theorem dX9_toldPlaces_28 : decode cX9_toldPlaces 28 = .ok (.iload_n 1, 1) := by decide +kernel
theorem dX9_toldPlaces_29 : decode cX9_toldPlaces 29 = .ok (.iload 5, 2) := by decide +kernel
theorem dX9_toldPlaces_31 : decode cX9_toldPlaces 31 = .ok (.iadd, 1) := by decide +kernel
theorem dX9_toldPlaces_32 : decode cX9_toldPlaces 32 = .ok (.iaload, 1) := by decide +kernel
theorem dX9_toldPlaces_33 : decode cX9_toldPlaces 33 = .ok (.iastore, 1) := by decide +kernel
theorem dX9_toldPlaces_34 : decode cX9_toldPlaces 34 = .ok (.iinc 3 1, 3) := by decide +kernel
theorem dX9_toldPlaces_37 : decode cX9_toldPlaces 37 = .ok (.aload_n 0, 1) := by decide +kernel
theorem dX9_toldPlaces_38 : decode cX9_toldPlaces 38 = .ok (.iload_n 1, 1) := by decide +kernel
theorem dX9_toldPlaces_39 : decode cX9_toldPlaces 39 = .ok (.iload 5, 2) := by decide +kernel
theorem dX9_toldPlaces_41 : decode cX9_toldPlaces 41 = .ok (.iadd, 1) := by decide +kernel
theorem dX9_toldPlaces_42 : decode cX9_toldPlaces 42 = .ok (.iaload, 1) := by decide +kernel
theorem dX9_toldPlaces_43 : decode cX9_toldPlaces 43 = .ok (.ifCond .eq 7, 3) := by decide +kernel
theorem dX9_toldPlaces_46 : decode cX9_toldPlaces 46 = .ok (.iload_n 3, 1) := by decide +kernel
theorem dX9_toldPlaces_47 : decode cX9_toldPlaces 47 = .ok (.goto 5, 3) := by decide +kernel
theorem dX9_toldPlaces_50 : decode cX9_toldPlaces 50 = .ok (.iload 4, 2) := by decide +kernel
theorem dX9_toldPlaces_52 : decode cX9_toldPlaces 52 = .ok (.istore 4, 2) := by decide +kernel
theorem dX9_toldPlaces_54 : decode cX9_toldPlaces 54 = .ok (.iinc 5 1, 3) := by decide +kernel
theorem dX9_toldPlaces_57 : decode cX9_toldPlaces 57 = .ok (.goto (-49), 3) := by decide +kernel
theorem dX9_toldPlaces_60 : decode cX9_toldPlaces 60 = .ok (.iload 4, 2) := by decide +kernel
theorem dX9_toldPlaces_62 : decode cX9_toldPlaces 62 = .ok (.ireturn, 1) := by decide +kernel
theorem dX9_form_0 : decode cX9_form 0 = .ok (.iload_n 1, 1) := by decide +kernel
theorem dX9_form_1 : decode cX9_form 1 = .ok (.invokestatic 112, 3) := by decide +kernel
theorem dX9_form_4 : decode cX9_form 4 = .ok (.ifCond .ne 5, 3) := by decide +kernel
theorem dX9_form_7 : decode cX9_form 7 = .ok (.iconst (-1), 1) := by decide +kernel
theorem dX9_form_8 : decode cX9_form 8 = .ok (.ireturn, 1) := by decide +kernel
theorem dX9_form_9 : decode cX9_form 9 = .ok (.aload_n 0, 1) := by decide +kernel
theorem dX9_form_10 : decode cX9_form 10 = .ok (.getfield 57, 3) := by decide +kernel
theorem dX9_form_13 : decode cX9_form 13 = .ok (.iload_n 1, 1) := by decide +kernel
theorem dX9_form_14 : decode cX9_form 14 = .ok (.baload, 1) := by decide +kernel
theorem dX9_form_15 : decode cX9_form 15 = .ok (.ifCond .ne 6, 3) := by decide +kernel
theorem dX9_form_18 : decode cX9_form 18 = .ok (.bipush (-3), 2) := by decide +kernel
theorem dX9_form_20 : decode cX9_form 20 = .ok (.ireturn, 1) := by decide +kernel
theorem dX9_form_21 : decode cX9_form 21 = .ok (.aload_n 0, 1) := by decide +kernel
theorem dX9_form_22 : decode cX9_form 22 = .ok (.iload_n 1, 1) := by decide +kernel
theorem dX9_form_23 : decode cX9_form 23 = .ok (.iload_n 2, 1) := by decide +kernel
theorem dX9_form_24 : decode cX9_form 24 = .ok (.invokevirtual 216, 3) := by decide +kernel
theorem dX9_form_27 : decode cX9_form 27 = .ok (.istore_n 3, 1) := by decide +kernel
theorem dX9_form_28 : decode cX9_form 28 = .ok (.iload_n 3, 1) := by decide +kernel
theorem dX9_form_29 : decode cX9_form 29 = .ok (.ifCond .ge 5, 3) := by decide +kernel
theorem dX9_form_32 : decode cX9_form 32 = .ok (.iconst (-1), 1) := by decide +kernel
theorem dX9_form_33 : decode cX9_form 33 = .ok (.ireturn, 1) := by decide +kernel
theorem dX9_form_34 : decode cX9_form 34 = .ok (.iload_n 2, 1) := by decide +kernel
theorem dX9_form_35 : decode cX9_form 35 = .ok (.ifCond .ne 33, 3) := by decide +kernel
theorem dX9_form_38 : decode cX9_form 38 = .ok (.aload_n 0, 1) := by decide +kernel
theorem dX9_form_39 : decode cX9_form 39 = .ok (.iload_n 1, 1) := by decide +kernel
theorem dX9_form_40 : decode cX9_form 40 = .ok (.putfield 129, 3) := by decide +kernel
theorem dX9_form_43 : decode cX9_form 43 = .ok (.aload_n 0, 1) := by decide +kernel
theorem dX9_form_44 : decode cX9_form 44 = .ok (.aload_n 0, 1) := by decide +kernel
theorem dX9_form_45 : decode cX9_form 45 = .ok (.getfield 75, 3) := by decide +kernel
theorem dX9_form_48 : decode cX9_form 48 = .ok (.invokevirtual 192, 3) := by decide +kernel
theorem dX9_form_51 : decode cX9_form 51 = .ok (.aload_n 0, 1) := by decide +kernel
theorem dX9_form_52 : decode cX9_form 52 = .ok (.getfield 75, 3) := by decide +kernel
theorem dX9_form_55 : decode cX9_form 55 = .ok (.iconst 0, 1) := by decide +kernel
theorem dX9_form_56 : decode cX9_form 56 = .ok (.aload_n 0, 1) := by decide +kernel
theorem dX9_form_57 : decode cX9_form 57 = .ok (.getfield 84, 3) := by decide +kernel
theorem dX9_form_60 : decode cX9_form 60 = .ok (.invokestatic 219, 3) := by decide +kernel
theorem dX9_form_63 : decode cX9_form 63 = .ok (.istore 4, 2) := by decide +kernel
theorem dX9_form_65 : decode cX9_form 65 = .ok (.goto 32, 3) := by decide +kernel
theorem dX9_form_68 : decode cX9_form 68 = .ok (.aload_n 0, 1) := by decide +kernel
theorem dX9_form_69 : decode cX9_form 69 = .ok (.getfield 69, 3) := by decide +kernel
theorem dX9_form_72 : decode cX9_form 72 = .ok (.bipush 20, 2) := by decide +kernel
theorem dX9_form_74 : decode cX9_form 74 = .ok (.bipush 40, 2) := by decide +kernel
theorem dX9_form_76 : decode cX9_form 76 = .ok (.iload_n 1, 1) := by decide +kernel
theorem dX9_form_77 : decode cX9_form 77 = .ok (.imul, 1) := by decide +kernel
theorem dX9_form_78 : decode cX9_form 78 = .ok (.aload_n 0, 1) := by decide +kernel
theorem dX9_form_79 : decode cX9_form 79 = .ok (.iload_n 1, 1) := by decide +kernel
theorem dX9_form_80 : decode cX9_form 80 = .ok (.iload_n 2, 1) := by decide +kernel
theorem dX9_form_81 : decode cX9_form 81 = .ok (.iconst 1, 1) := by decide +kernel
theorem dX9_form_82 : decode cX9_form 82 = .ok (.isub, 1) := by decide +kernel
theorem dX9_form_83 : decode cX9_form 83 = .ok (.invokevirtual 216, 3) := by decide +kernel
theorem dX9_form_86 : decode cX9_form 86 = .ok (.iadd, 1) := by decide +kernel
theorem dX9_form_87 : decode cX9_form 87 = .ok (.imul, 1) := by decide +kernel
theorem dX9_form_88 : decode cX9_form 88 = .ok (.aload_n 0, 1) := by decide +kernel
theorem dX9_form_89 : decode cX9_form 89 = .ok (.getfield 84, 3) := by decide +kernel
theorem dX9_form_92 : decode cX9_form 92 = .ok (.invokestatic 219, 3) := by decide +kernel
theorem dX9_form_95 : decode cX9_form 95 = .ok (.istore 4, 2) := by decide +kernel
theorem dX9_form_97 : decode cX9_form 97 = .ok (.bipush 20, 2) := by decide +kernel
theorem dX9_form_99 : decode cX9_form 99 = .ok (.bipush 40, 2) := by decide +kernel
theorem dX9_form_101 : decode cX9_form 101 = .ok (.iload_n 1, 1) := by decide +kernel
theorem dX9_form_102 : decode cX9_form 102 = .ok (.imul, 1) := by decide +kernel
theorem dX9_form_103 : decode cX9_form 103 = .ok (.iload_n 3, 1) := by decide +kernel
theorem dX9_form_104 : decode cX9_form 104 = .ok (.iadd, 1) := by decide +kernel
theorem dX9_form_105 : decode cX9_form 105 = .ok (.imul, 1) := by decide +kernel
theorem dX9_form_106 : decode cX9_form 106 = .ok (.istore 5, 2) := by decide +kernel
theorem dX9_form_108 : decode cX9_form 108 = .ok (.aload_n 0, 1) := by decide +kernel
theorem dX9_form_109 : decode cX9_form 109 = .ok (.getfield 69, 3) := by decide +kernel
theorem dX9_form_112 : decode cX9_form 112 = .ok (.iload 5, 2) := by decide +kernel
theorem dX9_form_114 : decode cX9_form 114 = .ok (.aload_n 0, 1) := by decide +kernel
theorem dX9_form_115 : decode cX9_form 115 = .ok (.getfield 87, 3) := by decide +kernel
theorem dX9_form_118 : decode cX9_form 118 = .ok (.invokestatic 219, 3) := by decide +kernel
theorem dX9_form_121 : decode cX9_form 121 = .ok (.istore 6, 2) := by decide +kernel
theorem dX9_form_123 : decode cX9_form 123 = .ok (.iconst 1, 1) := by decide +kernel
theorem dX9_form_124 : decode cX9_form 124 = .ok (.istore 7, 2) := by decide +kernel
theorem dX9_form_126 : decode cX9_form 126 = .ok (.iconst 0, 1) := by decide +kernel
theorem dX9_form_127 : decode cX9_form 127 = .ok (.istore 8, 2) := by decide +kernel
theorem dX9_form_129 : decode cX9_form 129 = .ok (.iload 8, 2) := by decide +kernel
theorem dX9_form_131 : decode cX9_form 131 = .ok (.iload 4, 2) := by decide +kernel
theorem dX9_form_133 : decode cX9_form 133 = .ok (.if_icmp .ge 43, 3) := by decide +kernel
theorem dX9_form_136 : decode cX9_form 136 = .ok (.iload 8, 2) := by decide +kernel
theorem dX9_form_138 : decode cX9_form 138 = .ok (.iload 6, 2) := by decide +kernel
theorem dX9_form_140 : decode cX9_form 140 = .ok (.if_icmp .ge 36, 3) := by decide +kernel
theorem dX9_form_143 : decode cX9_form 143 = .ok (.iload 7, 2) := by decide +kernel
theorem dX9_form_145 : decode cX9_form 145 = .ok (.aload_n 0, 1) := by decide +kernel
theorem dX9_form_146 : decode cX9_form 146 = .ok (.getfield 84, 3) := by decide +kernel
theorem dX9_form_149 : decode cX9_form 149 = .ok (.iload 8, 2) := by decide +kernel
theorem dX9_form_151 : decode cX9_form 151 = .ok (.iaload, 1) := by decide +kernel
theorem dX9_form_152 : decode cX9_form 152 = .ok (.aload_n 0, 1) := by decide +kernel
theorem dX9_form_153 : decode cX9_form 153 = .ok (.getfield 87, 3) := by decide +kernel
theorem dX9_form_156 : decode cX9_form 156 = .ok (.iload 8, 2) := by decide +kernel
theorem dX9_form_158 : decode cX9_form 158 = .ok (.iaload, 1) := by decide +kernel
theorem dX9_form_159 : decode cX9_form 159 = .ok (.if_icmp .ne 7, 3) := by decide +kernel
theorem dX9_form_162 : decode cX9_form 162 = .ok (.iconst 1, 1) := by decide +kernel
theorem dX9_form_163 : decode cX9_form 163 = .ok (.goto 4, 3) := by decide +kernel
theorem dX9_form_166 : decode cX9_form 166 = .ok (.iconst 0, 1) := by decide +kernel
theorem dX9_form_167 : decode cX9_form 167 = .ok (.iand, 1) := by decide +kernel
theorem dX9_form_168 : decode cX9_form 168 = .ok (.istore 7, 2) := by decide +kernel
theorem dX9_form_170 : decode cX9_form 170 = .ok (.iinc 8 1, 3) := by decide +kernel
theorem dX9_form_173 : decode cX9_form 173 = .ok (.goto (-44), 3) := by decide +kernel
theorem dX9_form_176 : decode cX9_form 176 = .ok (.aload_n 0, 1) := by decide +kernel
theorem dX9_form_177 : decode cX9_form 177 = .ok (.getfield 69, 3) := by decide +kernel
theorem dX9_form_180 : decode cX9_form 180 = .ok (.iload 5, 2) := by decide +kernel
theorem dX9_form_182 : decode cX9_form 182 = .ok (.bipush 8, 2) := by decide +kernel
theorem dX9_form_184 : decode cX9_form 184 = .ok (.iadd, 1) := by decide +kernel
theorem dX9_form_185 : decode cX9_form 185 = .ok (.iaload, 1) := by decide +kernel
theorem dX9_form_186 : decode cX9_form 186 = .ok (.istore 8, 2) := by decide +kernel
theorem dX9_form_188 : decode cX9_form 188 = .ok (.iload 7, 2) := by decide +kernel
theorem dX9_form_190 : decode cX9_form 190 = .ok (.ifCond .eq 22, 3) := by decide +kernel
theorem dX9_form_193 : decode cX9_form 193 = .ok (.iload 8, 2) := by decide +kernel
theorem dX9_form_195 : decode cX9_form 195 = .ok (.iconst 1, 1) := by decide +kernel
theorem dX9_form_196 : decode cX9_form 196 = .ok (.if_icmp .gt 16, 3) := by decide +kernel
theorem dX9_form_199 : decode cX9_form 199 = .ok (.iload 8, 2) := by decide +kernel
theorem dX9_form_201 : decode cX9_form 201 = .ok (.iconst 1, 1) := by decide +kernel
theorem dX9_form_202 : decode cX9_form 202 = .ok (.if_icmp .ne 13, 3) := by decide +kernel
theorem dX9_form_205 : decode cX9_form 205 = .ok (.iload 4, 2) := by decide +kernel
theorem dX9_form_207 : decode cX9_form 207 = .ok (.iload 6, 2) := by decide +kernel
theorem dX9_form_209 : decode cX9_form 209 = .ok (.if_icmp .eq 6, 3) := by decide +kernel
theorem dX9_form_212 : decode cX9_form 212 = .ok (.bipush 40, 2) := by decide +kernel
theorem dX9_form_214 : decode cX9_form 214 = .ok (.ireturn, 1) := by decide +kernel
theorem dX9_form_215 : decode cX9_form 215 = .ok (.iload 4, 2) := by decide +kernel
theorem dX9_form_217 : decode cX9_form 217 = .ok (.iload 6, 2) := by decide +kernel
theorem dX9_form_219 : decode cX9_form 219 = .ok (.if_icmp .ne 8, 3) := by decide +kernel
theorem dX9_form_222 : decode cX9_form 222 = .ok (.iload 8, 2) := by decide +kernel
theorem dX9_form_224 : decode cX9_form 224 = .ok (.goto 59, 3) := by decide +kernel
theorem dX9_form_227 : decode cX9_form 227 = .ok (.iload 6, 2) := by decide +kernel
theorem dX9_form_229 : decode cX9_form 229 = .ok (.iload 4, 2) := by decide +kernel
theorem dX9_form_231 : decode cX9_form 231 = .ok (.if_icmp .ge 23, 3) := by decide +kernel
theorem dX9_form_234 : decode cX9_form 234 = .ok (.iload 4, 2) := by decide +kernel
theorem dX9_form_236 : decode cX9_form 236 = .ok (.iload 6, 2) := by decide +kernel
theorem dX9_form_238 : decode cX9_form 238 = .ok (.isub, 1) := by decide +kernel
theorem dX9_form_239 : decode cX9_form 239 = .ok (.iconst 3, 1) := by decide +kernel
theorem dX9_form_240 : decode cX9_form 240 = .ok (.if_icmp .gt 14, 3) := by decide +kernel
theorem dX9_form_243 : decode cX9_form 243 = .ok (.bipush 20, 2) := by decide +kernel
theorem dX9_form_245 : decode cX9_form 245 = .ok (.iload 4, 2) := by decide +kernel
theorem dX9_form_247 : decode cX9_form 247 = .ok (.iadd, 1) := by decide +kernel
theorem dX9_form_248 : decode cX9_form 248 = .ok (.iload 6, 2) := by decide +kernel
theorem dX9_form_250 : decode cX9_form 250 = .ok (.isub, 1) := by decide +kernel
theorem dX9_form_251 : decode cX9_form 251 = .ok (.goto 32, 3) := by decide +kernel
theorem dX9_form_254 : decode cX9_form 254 = .ok (.iload 6, 2) := by decide +kernel
theorem dX9_form_256 : decode cX9_form 256 = .ok (.iload 4, 2) := by decide +kernel
theorem dX9_form_258 : decode cX9_form 258 = .ok (.if_icmp .le 23, 3) := by decide +kernel
theorem dX9_form_261 : decode cX9_form 261 = .ok (.iload 6, 2) := by decide +kernel
theorem dX9_form_263 : decode cX9_form 263 = .ok (.iload 4, 2) := by decide +kernel
theorem dX9_form_265 : decode cX9_form 265 = .ok (.isub, 1) := by decide +kernel
theorem dX9_form_266 : decode cX9_form 266 = .ok (.iconst 3, 1) := by decide +kernel
theorem dX9_form_267 : decode cX9_form 267 = .ok (.if_icmp .gt 14, 3) := by decide +kernel
theorem dX9_form_270 : decode cX9_form 270 = .ok (.bipush 30, 2) := by decide +kernel
theorem dX9_form_272 : decode cX9_form 272 = .ok (.iload 6, 2) := by decide +kernel
theorem dX9_form_274 : decode cX9_form 274 = .ok (.iadd, 1) := by decide +kernel
theorem dX9_form_275 : decode cX9_form 275 = .ok (.iload 4, 2) := by decide +kernel
theorem dX9_form_277 : decode cX9_form 277 = .ok (.isub, 1) := by decide +kernel
theorem dX9_form_278 : decode cX9_form 278 = .ok (.goto 5, 3) := by decide +kernel
theorem dX9_form_281 : decode cX9_form 281 = .ok (.bipush 40, 2) := by decide +kernel
theorem dX9_form_283 : decode cX9_form 283 = .ok (.ireturn, 1) := by decide +kernel
theorem dX9_shared_0 : decode cX9_shared 0 = .ok (.iload_n 1, 1) := by decide +kernel
theorem dX9_shared_1 : decode cX9_shared 1 = .ok (.invokestatic 112, 3) := by decide +kernel
theorem dX9_shared_4 : decode cX9_shared 4 = .ok (.ifCond .eq 19, 3) := by decide +kernel
theorem dX9_shared_7 : decode cX9_shared 7 = .ok (.iload_n 2, 1) := by decide +kernel
theorem dX9_shared_8 : decode cX9_shared 8 = .ok (.iconst 0, 1) := by decide +kernel
theorem dX9_shared_9 : decode cX9_shared 9 = .ok (.aload_n 0, 1) := by decide +kernel
theorem dX9_shared_10 : decode cX9_shared 10 = .ok (.getfield 30, 3) := by decide +kernel
theorem dX9_shared_13 : decode cX9_shared 13 = .ok (.iload_n 1, 1) := by decide +kernel
theorem dX9_shared_14 : decode cX9_shared 14 = .ok (.iaload, 1) := by decide +kernel
theorem dX9_shared_15 : decode cX9_shared 15 = .ok (.iconst 1, 1) := by decide +kernel
theorem dX9_shared_16 : decode cX9_shared 16 = .ok (.isub, 1) := by decide +kernel
theorem dX9_shared_17 : decode cX9_shared 17 = .ok (.invokestatic 90, 3) := by decide +kernel
theorem dX9_shared_20 : decode cX9_shared 20 = .ok (.ifCond .ne 5, 3) := by decide +kernel
theorem dX9_shared_23 : decode cX9_shared 23 = .ok (.iconst (-1), 1) := by decide +kernel
theorem dX9_shared_24 : decode cX9_shared 24 = .ok (.ireturn, 1) := by decide +kernel
theorem dX9_shared_25 : decode cX9_shared 25 = .ok (.aload_n 0, 1) := by decide +kernel
theorem dX9_shared_26 : decode cX9_shared 26 = .ok (.getfield 57, 3) := by decide +kernel
theorem dX9_shared_29 : decode cX9_shared 29 = .ok (.iload_n 1, 1) := by decide +kernel
theorem dX9_shared_30 : decode cX9_shared 30 = .ok (.baload, 1) := by decide +kernel
theorem dX9_shared_31 : decode cX9_shared 31 = .ok (.ifCond .ne 6, 3) := by decide +kernel
theorem dX9_shared_34 : decode cX9_shared 34 = .ok (.bipush (-3), 2) := by decide +kernel
theorem dX9_shared_36 : decode cX9_shared 36 = .ok (.ireturn, 1) := by decide +kernel
theorem dX9_shared_37 : decode cX9_shared 37 = .ok (.iconst 0, 1) := by decide +kernel
theorem dX9_shared_38 : decode cX9_shared 38 = .ok (.istore_n 3, 1) := by decide +kernel
theorem dX9_shared_39 : decode cX9_shared 39 = .ok (.iconst 0, 1) := by decide +kernel
theorem dX9_shared_40 : decode cX9_shared 40 = .ok (.istore 4, 2) := by decide +kernel
theorem dX9_shared_42 : decode cX9_shared 42 = .ok (.iload 4, 2) := by decide +kernel
theorem dX9_shared_44 : decode cX9_shared 44 = .ok (.aload_n 0, 1) := by decide +kernel
theorem dX9_shared_45 : decode cX9_shared 45 = .ok (.getfield 30, 3) := by decide +kernel
theorem dX9_shared_48 : decode cX9_shared 48 = .ok (.iload_n 1, 1) := by decide +kernel
theorem dX9_shared_49 : decode cX9_shared 49 = .ok (.iaload, 1) := by decide +kernel
theorem dX9_shared_50 : decode cX9_shared 50 = .ok (.if_icmp .ge 140, 3) := by decide +kernel
theorem dX9_shared_53 : decode cX9_shared 53 = .ok (.bipush 40, 2) := by decide +kernel
theorem dX9_shared_55 : decode cX9_shared 55 = .ok (.iload_n 1, 1) := by decide +kernel
theorem dX9_shared_56 : decode cX9_shared 56 = .ok (.imul, 1) := by decide +kernel
theorem dX9_shared_57 : decode cX9_shared 57 = .ok (.iload 4, 2) := by decide +kernel
theorem dX9_shared_59 : decode cX9_shared 59 = .ok (.iadd, 1) := by decide +kernel
theorem dX9_shared_60 : decode cX9_shared 60 = .ok (.istore 5, 2) := by decide +kernel
theorem dX9_shared_62 : decode cX9_shared 62 = .ok (.aload_n 0, 1) := by decide +kernel
theorem dX9_shared_63 : decode cX9_shared 63 = .ok (.getfield 33, 3) := by decide +kernel
theorem dX9_shared_66 : decode cX9_shared 66 = .ok (.iload 5, 2) := by decide +kernel
theorem dX9_shared_68 : decode cX9_shared 68 = .ok (.iaload, 1) := by decide +kernel
theorem dX9_shared_69 : decode cX9_shared 69 = .ok (.invokestatic 189, 3) := by decide +kernel
theorem dX9_shared_72 : decode cX9_shared 72 = .ok (.ifCond .eq 28, 3) := by decide +kernel
theorem dX9_shared_75 : decode cX9_shared 75 = .ok (.iload_n 2, 1) := by decide +kernel
theorem dX9_shared_76 : decode cX9_shared 76 = .ok (.aload_n 0, 1) := by decide +kernel
theorem dX9_shared_77 : decode cX9_shared 77 = .ok (.getfield 36, 3) := by decide +kernel
theorem dX9_shared_80 : decode cX9_shared 80 = .ok (.iload 5, 2) := by decide +kernel
theorem dX9_shared_82 : decode cX9_shared 82 = .ok (.iaload, 1) := by decide +kernel
theorem dX9_shared_83 : decode cX9_shared 83 = .ok (.aload_n 0, 1) := by decide +kernel
theorem dX9_shared_84 : decode cX9_shared 84 = .ok (.getfield 39, 3) := by decide +kernel
theorem dX9_shared_87 : decode cX9_shared 87 = .ok (.iload 5, 2) := by decide +kernel
theorem dX9_shared_89 : decode cX9_shared 89 = .ok (.iaload, 1) := by decide +kernel
theorem dX9_shared_90 : decode cX9_shared 90 = .ok (.invokestatic 90, 3) := by decide +kernel
theorem dX9_shared_93 : decode cX9_shared 93 = .ok (.ifCond .eq 7, 3) := by decide +kernel
theorem dX9_shared_96 : decode cX9_shared 96 = .ok (.iconst 1, 1) := by decide +kernel
theorem dX9_shared_97 : decode cX9_shared 97 = .ok (.goto 4, 3) := by decide +kernel
theorem dX9_shared_100 : decode cX9_shared 100 = .ok (.iconst 0, 1) := by decide +kernel
theorem dX9_shared_101 : decode cX9_shared 101 = .ok (.istore 6, 2) := by decide +kernel
theorem dX9_shared_103 : decode cX9_shared 103 = .ok (.iconst 4, 1) := by decide +kernel
theorem dX9_shared_104 : decode cX9_shared 104 = .ok (.iload_n 1, 1) := by decide +kernel
theorem dX9_shared_105 : decode cX9_shared 105 = .ok (.imul, 1) := by decide +kernel
theorem dX9_shared_106 : decode cX9_shared 106 = .ok (.istore 7, 2) := by decide +kernel
theorem dX9_shared_108 : decode cX9_shared 108 = .ok (.iload 7, 2) := by decide +kernel
theorem dX9_shared_110 : decode cX9_shared 110 = .ok (.iconst 4, 1) := by decide +kernel
theorem dX9_shared_111 : decode cX9_shared 111 = .ok (.iload_n 1, 1) := by decide +kernel
theorem dX9_shared_112 : decode cX9_shared 112 = .ok (.imul, 1) := by decide +kernel
theorem dX9_shared_113 : decode cX9_shared 113 = .ok (.aload_n 0, 1) := by decide +kernel
theorem dX9_shared_114 : decode cX9_shared 114 = .ok (.getfield 42, 3) := by decide +kernel
theorem dX9_shared_117 : decode cX9_shared 117 = .ok (.iload_n 1, 1) := by decide +kernel
theorem dX9_shared_118 : decode cX9_shared 118 = .ok (.iaload, 1) := by decide +kernel
theorem dX9_shared_119 : decode cX9_shared 119 = .ok (.iadd, 1) := by decide +kernel
theorem dX9_shared_120 : decode cX9_shared 120 = .ok (.if_icmp .ge 41, 3) := by decide +kernel
theorem dX9_shared_123 : decode cX9_shared 123 = .ok (.iload 6, 2) := by decide +kernel
theorem dX9_shared_125 : decode cX9_shared 125 = .ok (.aload_n 0, 1) := by decide +kernel
theorem dX9_shared_126 : decode cX9_shared 126 = .ok (.iload 7, 2) := by decide +kernel
theorem dX9_shared_128 : decode cX9_shared 128 = .ok (.iload 4, 2) := by decide +kernel
theorem dX9_shared_130 : decode cX9_shared 130 = .ok (.invokevirtual 173, 3) := by decide +kernel
theorem dX9_shared_133 : decode cX9_shared 133 = .ok (.ifCond .eq 18, 3) := by decide +kernel
theorem dX9_shared_136 : decode cX9_shared 136 = .ok (.aload_n 0, 1) := by decide +kernel
theorem dX9_shared_137 : decode cX9_shared 137 = .ok (.getfield 51, 3) := by decide +kernel
theorem dX9_shared_140 : decode cX9_shared 140 = .ok (.iload 7, 2) := by decide +kernel
theorem dX9_shared_142 : decode cX9_shared 142 = .ok (.iaload, 1) := by decide +kernel
theorem dX9_shared_143 : decode cX9_shared 143 = .ok (.iload_n 2, 1) := by decide +kernel
theorem dX9_shared_144 : decode cX9_shared 144 = .ok (.if_icmp .ne 7, 3) := by decide +kernel
theorem dX9_shared_147 : decode cX9_shared 147 = .ok (.iconst 1, 1) := by decide +kernel
theorem dX9_shared_148 : decode cX9_shared 148 = .ok (.goto 4, 3) := by decide +kernel
theorem dX9_shared_151 : decode cX9_shared 151 = .ok (.iconst 0, 1) := by decide +kernel
theorem dX9_shared_152 : decode cX9_shared 152 = .ok (.ior, 1) := by decide +kernel
theorem dX9_shared_153 : decode cX9_shared 153 = .ok (.istore 6, 2) := by decide +kernel
theorem dX9_shared_155 : decode cX9_shared 155 = .ok (.iinc 7 1, 3) := by decide +kernel
theorem dX9_shared_158 : decode cX9_shared 158 = .ok (.goto (-50), 3) := by decide +kernel
theorem dX9_shared_161 : decode cX9_shared 161 = .ok (.iload_n 3, 1) := by decide +kernel
theorem dX9_shared_162 : decode cX9_shared 162 = .ok (.aload_n 0, 1) := by decide +kernel
theorem dX9_shared_163 : decode cX9_shared 163 = .ok (.getfield 60, 3) := by decide +kernel
theorem dX9_shared_166 : decode cX9_shared 166 = .ok (.iload 5, 2) := by decide +kernel
theorem dX9_shared_168 : decode cX9_shared 168 = .ok (.baload, 1) := by decide +kernel
theorem dX9_shared_169 : decode cX9_shared 169 = .ok (.ifCond .eq 12, 3) := by decide +kernel
theorem dX9_shared_172 : decode cX9_shared 172 = .ok (.iload 6, 2) := by decide +kernel
theorem dX9_shared_174 : decode cX9_shared 174 = .ok (.ifCond .eq 7, 3) := by decide +kernel
theorem dX9_shared_177 : decode cX9_shared 177 = .ok (.iconst 1, 1) := by decide +kernel
theorem dX9_shared_178 : decode cX9_shared 178 = .ok (.goto 4, 3) := by decide +kernel
theorem dX9_shared_181 : decode cX9_shared 181 = .ok (.iconst 0, 1) := by decide +kernel
theorem dX9_shared_182 : decode cX9_shared 182 = .ok (.iadd, 1) := by decide +kernel
theorem dX9_shared_183 : decode cX9_shared 183 = .ok (.istore_n 3, 1) := by decide +kernel
theorem dX9_shared_184 : decode cX9_shared 184 = .ok (.iinc 4 1, 3) := by decide +kernel
theorem dX9_shared_187 : decode cX9_shared 187 = .ok (.goto (-145), 3) := by decide +kernel
theorem dX9_shared_190 : decode cX9_shared 190 = .ok (.iload_n 3, 1) := by decide +kernel
theorem dX9_shared_191 : decode cX9_shared 191 = .ok (.ireturn, 1) := by decide +kernel
theorem dX9_maximum_0 : decode cX9_maximum 0 = .ok (.iload_n 1, 1) := by decide +kernel
theorem dX9_maximum_1 : decode cX9_maximum 1 = .ok (.invokestatic 112, 3) := by decide +kernel
theorem dX9_maximum_4 : decode cX9_maximum 4 = .ok (.ifCond .eq 12, 3) := by decide +kernel
theorem dX9_maximum_7 : decode cX9_maximum 7 = .ok (.iload_n 2, 1) := by decide +kernel
theorem dX9_maximum_8 : decode cX9_maximum 8 = .ok (.iconst 0, 1) := by decide +kernel
theorem dX9_maximum_9 : decode cX9_maximum 9 = .ok (.iconst 1, 1) := by decide +kernel
theorem dX9_maximum_10 : decode cX9_maximum 10 = .ok (.invokestatic 90, 3) := by decide +kernel
theorem dX9_maximum_13 : decode cX9_maximum 13 = .ok (.ifCond .ne 5, 3) := by decide +kernel
theorem dX9_maximum_16 : decode cX9_maximum 16 = .ok (.iconst (-1), 1) := by decide +kernel
theorem dX9_maximum_17 : decode cX9_maximum 17 = .ok (.ireturn, 1) := by decide +kernel
theorem dX9_maximum_18 : decode cX9_maximum 18 = .ok (.aload_n 0, 1) := by decide +kernel
theorem dX9_maximum_19 : decode cX9_maximum 19 = .ok (.getfield 57, 3) := by decide +kernel
theorem dX9_maximum_22 : decode cX9_maximum 22 = .ok (.iload_n 1, 1) := by decide +kernel
theorem dX9_maximum_23 : decode cX9_maximum 23 = .ok (.baload, 1) := by decide +kernel
theorem dX9_maximum_24 : decode cX9_maximum 24 = .ok (.ifCond .ne 6, 3) := by decide +kernel
theorem dX9_maximum_27 : decode cX9_maximum 27 = .ok (.bipush (-3), 2) := by decide +kernel
theorem dX9_maximum_29 : decode cX9_maximum 29 = .ok (.ireturn, 1) := by decide +kernel
theorem dX9_maximum_30 : decode cX9_maximum 30 = .ok (.aload_n 0, 1) := by decide +kernel
theorem dX9_maximum_31 : decode cX9_maximum 31 = .ok (.iload_n 1, 1) := by decide +kernel
theorem dX9_maximum_32 : decode cX9_maximum 32 = .ok (.putfield 129, 3) := by decide +kernel
theorem dX9_maximum_35 : decode cX9_maximum 35 = .ok (.iconst 0, 1) := by decide +kernel
theorem dX9_maximum_36 : decode cX9_maximum 36 = .ok (.istore_n 3, 1) := by decide +kernel
theorem dX9_maximum_37 : decode cX9_maximum 37 = .ok (.aload_n 0, 1) := by decide +kernel
theorem dX9_maximum_38 : decode cX9_maximum 38 = .ok (.getfield 24, 3) := by decide +kernel
theorem dX9_maximum_41 : decode cX9_maximum 41 = .ok (.iload_n 1, 1) := by decide +kernel
theorem dX9_maximum_42 : decode cX9_maximum 42 = .ok (.iaload, 1) := by decide +kernel
theorem dX9_maximum_43 : decode cX9_maximum 43 = .ok (.istore 4, 2) := by decide +kernel
theorem dX9_maximum_45 : decode cX9_maximum 45 = .ok (.iconst 0, 1) := by decide +kernel
theorem dX9_maximum_46 : decode cX9_maximum 46 = .ok (.istore 5, 2) := by decide +kernel
theorem dX9_maximum_48 : decode cX9_maximum 48 = .ok (.iload 5, 2) := by decide +kernel
theorem dX9_maximum_50 : decode cX9_maximum 50 = .ok (.aload_n 0, 1) := by decide +kernel
theorem dX9_maximum_51 : decode cX9_maximum 51 = .ok (.getfield 30, 3) := by decide +kernel
theorem dX9_maximum_54 : decode cX9_maximum 54 = .ok (.iload_n 1, 1) := by decide +kernel
theorem dX9_maximum_55 : decode cX9_maximum 55 = .ok (.iaload, 1) := by decide +kernel
theorem dX9_maximum_56 : decode cX9_maximum 56 = .ok (.if_icmp .ge 226, 3) := by decide +kernel
theorem dX9_maximum_59 : decode cX9_maximum 59 = .ok (.bipush 40, 2) := by decide +kernel
theorem dX9_maximum_61 : decode cX9_maximum 61 = .ok (.iload_n 1, 1) := by decide +kernel
theorem dX9_maximum_62 : decode cX9_maximum 62 = .ok (.imul, 1) := by decide +kernel
theorem dX9_maximum_63 : decode cX9_maximum 63 = .ok (.iload 5, 2) := by decide +kernel
theorem dX9_maximum_65 : decode cX9_maximum 65 = .ok (.iadd, 1) := by decide +kernel
theorem dX9_maximum_66 : decode cX9_maximum 66 = .ok (.istore 6, 2) := by decide +kernel
theorem dX9_maximum_68 : decode cX9_maximum 68 = .ok (.aload_n 0, 1) := by decide +kernel
theorem dX9_maximum_69 : decode cX9_maximum 69 = .ok (.getfield 60, 3) := by decide +kernel
theorem dX9_maximum_72 : decode cX9_maximum 72 = .ok (.iload 6, 2) := by decide +kernel
theorem dX9_maximum_74 : decode cX9_maximum 74 = .ok (.baload, 1) := by decide +kernel
theorem dX9_maximum_75 : decode cX9_maximum 75 = .ok (.ifCond .eq 201, 3) := by decide +kernel
theorem dX9_maximum_78 : decode cX9_maximum 78 = .ok (.aload_n 0, 1) := by decide +kernel
theorem dX9_maximum_79 : decode cX9_maximum 79 = .ok (.getfield 63, 3) := by decide +kernel
theorem dX9_maximum_82 : decode cX9_maximum 82 = .ok (.bipush 20, 2) := by decide +kernel
theorem dX9_maximum_84 : decode cX9_maximum 84 = .ok (.iload 6, 2) := by decide +kernel
theorem dX9_maximum_86 : decode cX9_maximum 86 = .ok (.imul, 1) := by decide +kernel
theorem dX9_maximum_87 : decode cX9_maximum 87 = .ok (.aload_n 0, 1) := by decide +kernel
theorem dX9_maximum_88 : decode cX9_maximum 88 = .ok (.getfield 72, 3) := by decide +kernel
theorem dX9_maximum_91 : decode cX9_maximum 91 = .ok (.iconst 0, 1) := by decide +kernel
theorem dX9_maximum_92 : decode cX9_maximum 92 = .ok (.invokestatic 162, 3) := by decide +kernel
theorem dX9_maximum_95 : decode cX9_maximum 95 = .ok (.aload_n 0, 1) := by decide +kernel
theorem dX9_maximum_96 : decode cX9_maximum 96 = .ok (.getfield 72, 3) := by decide +kernel
theorem dX9_maximum_99 : decode cX9_maximum 99 = .ok (.invokestatic 152, 3) := by decide +kernel
theorem dX9_maximum_102 : decode cX9_maximum 102 = .ok (.istore 7, 2) := by decide +kernel
theorem dX9_maximum_104 : decode cX9_maximum 104 = .ok (.aload_n 0, 1) := by decide +kernel
theorem dX9_maximum_105 : decode cX9_maximum 105 = .ok (.getfield 33, 3) := by decide +kernel
theorem dX9_maximum_108 : decode cX9_maximum 108 = .ok (.iload 6, 2) := by decide +kernel
theorem dX9_maximum_110 : decode cX9_maximum 110 = .ok (.iaload, 1) := by decide +kernel
theorem dX9_maximum_111 : decode cX9_maximum 111 = .ok (.iconst 3, 1) := by decide +kernel
theorem dX9_maximum_112 : decode cX9_maximum 112 = .ok (.if_icmp .ne 19, 3) := by decide +kernel
theorem dX9_maximum_115 : decode cX9_maximum 115 = .ok (.aload_n 0, 1) := by decide +kernel
theorem dX9_maximum_116 : decode cX9_maximum 116 = .ok (.getfield 72, 3) := by decide +kernel
theorem dX9_maximum_119 : decode cX9_maximum 119 = .ok (.aload_n 0, 1) := by decide +kernel
theorem dX9_maximum_120 : decode cX9_maximum 120 = .ok (.getfield 36, 3) := by decide +kernel
theorem dX9_maximum_123 : decode cX9_maximum 123 = .ok (.iload 6, 2) := by decide +kernel
theorem dX9_maximum_125 : decode cX9_maximum 125 = .ok (.iaload, 1) := by decide +kernel
theorem dX9_maximum_126 : decode cX9_maximum 126 = .ok (.iaload, 1) := by decide +kernel
theorem dX9_maximum_127 : decode cX9_maximum 127 = .ok (.iconst 2, 1) := by decide +kernel
theorem dX9_maximum_128 : decode cX9_maximum 128 = .ok (.if_icmp .eq 22, 3) := by decide +kernel
theorem dX9_maximum_131 : decode cX9_maximum 131 = .ok (.aload_n 0, 1) := by decide +kernel
theorem dX9_maximum_132 : decode cX9_maximum 132 = .ok (.getfield 33, 3) := by decide +kernel
theorem dX9_maximum_135 : decode cX9_maximum 135 = .ok (.iload 6, 2) := by decide +kernel
theorem dX9_maximum_137 : decode cX9_maximum 137 = .ok (.iaload, 1) := by decide +kernel
theorem dX9_maximum_138 : decode cX9_maximum 138 = .ok (.iconst 4, 1) := by decide +kernel
theorem dX9_maximum_139 : decode cX9_maximum 139 = .ok (.if_icmp .ne 15, 3) := by decide +kernel
theorem dX9_maximum_142 : decode cX9_maximum 142 = .ok (.aload_n 0, 1) := by decide +kernel
theorem dX9_maximum_143 : decode cX9_maximum 143 = .ok (.invokevirtual 118, 3) := by decide +kernel
theorem dX9_maximum_146 : decode cX9_maximum 146 = .ok (.iconst 2, 1) := by decide +kernel
theorem dX9_maximum_147 : decode cX9_maximum 147 = .ok (.if_icmp .ne 7, 3) := by decide +kernel
theorem dX9_maximum_150 : decode cX9_maximum 150 = .ok (.iconst 2, 1) := by decide +kernel
theorem dX9_maximum_151 : decode cX9_maximum 151 = .ok (.goto 4, 3) := by decide +kernel
theorem dX9_maximum_154 : decode cX9_maximum 154 = .ok (.iconst 1, 1) := by decide +kernel
theorem dX9_maximum_155 : decode cX9_maximum 155 = .ok (.istore 8, 2) := by decide +kernel
theorem dX9_maximum_157 : decode cX9_maximum 157 = .ok (.aload_n 0, 1) := by decide +kernel
theorem dX9_maximum_158 : decode cX9_maximum 158 = .ok (.getfield 33, 3) := by decide +kernel
theorem dX9_maximum_161 : decode cX9_maximum 161 = .ok (.iload 6, 2) := by decide +kernel
theorem dX9_maximum_163 : decode cX9_maximum 163 = .ok (.iaload, 1) := by decide +kernel
theorem dX9_maximum_164 : decode cX9_maximum 164 = .ok (.iconst 3, 1) := by decide +kernel
theorem dX9_maximum_165 : decode cX9_maximum 165 = .ok (.if_icmp .eq 26, 3) := by decide +kernel
theorem dX9_maximum_168 : decode cX9_maximum 168 = .ok (.aload_n 0, 1) := by decide +kernel
theorem dX9_maximum_169 : decode cX9_maximum 169 = .ok (.getfield 33, 3) := by decide +kernel
theorem dX9_maximum_172 : decode cX9_maximum 172 = .ok (.iload 6, 2) := by decide +kernel
theorem dX9_maximum_174 : decode cX9_maximum 174 = .ok (.iaload, 1) := by decide +kernel
theorem dX9_maximum_175 : decode cX9_maximum 175 = .ok (.iconst 4, 1) := by decide +kernel
theorem dX9_maximum_176 : decode cX9_maximum 176 = .ok (.if_icmp .eq 15, 3) := by decide +kernel
theorem dX9_maximum_179 : decode cX9_maximum 179 = .ok (.aload_n 0, 1) := by decide +kernel
theorem dX9_maximum_180 : decode cX9_maximum 180 = .ok (.getfield 33, 3) := by decide +kernel
theorem dX9_maximum_183 : decode cX9_maximum 183 = .ok (.iload 6, 2) := by decide +kernel
theorem dX9_maximum_185 : decode cX9_maximum 185 = .ok (.iaload, 1) := by decide +kernel
theorem dX9_maximum_186 : decode cX9_maximum 186 = .ok (.bipush 20, 2) := by decide +kernel
theorem dX9_maximum_188 : decode cX9_maximum 188 = .ok (.if_icmp .ne 7, 3) := by decide +kernel
theorem dX9_maximum_191 : decode cX9_maximum 191 = .ok (.iconst 1, 1) := by decide +kernel
theorem dX9_maximum_192 : decode cX9_maximum 192 = .ok (.goto 4, 3) := by decide +kernel
theorem dX9_maximum_195 : decode cX9_maximum 195 = .ok (.iconst 0, 1) := by decide +kernel
theorem dX9_maximum_196 : decode cX9_maximum 196 = .ok (.istore 9, 2) := by decide +kernel
theorem dX9_maximum_198 : decode cX9_maximum 198 = .ok (.iload 9, 2) := by decide +kernel
theorem dX9_maximum_200 : decode cX9_maximum 200 = .ok (.ifCond .eq 31, 3) := by decide +kernel
theorem dX9_maximum_203 : decode cX9_maximum 203 = .ok (.aload_n 0, 1) := by decide +kernel
theorem dX9_maximum_204 : decode cX9_maximum 204 = .ok (.getfield 36, 3) := by decide +kernel
theorem dX9_maximum_207 : decode cX9_maximum 207 = .ok (.iload 6, 2) := by decide +kernel
theorem dX9_maximum_209 : decode cX9_maximum 209 = .ok (.iaload, 1) := by decide +kernel
theorem dX9_maximum_210 : decode cX9_maximum 210 = .ok (.iload 8, 2) := by decide +kernel
theorem dX9_maximum_212 : decode cX9_maximum 212 = .ok (.iadd, 1) := by decide +kernel
theorem dX9_maximum_213 : decode cX9_maximum 213 = .ok (.iload 4, 2) := by decide +kernel
theorem dX9_maximum_215 : decode cX9_maximum 215 = .ok (.if_icmp .le 16, 3) := by decide +kernel
theorem dX9_maximum_218 : decode cX9_maximum 218 = .ok (.aload_n 0, 1) := by decide +kernel
theorem dX9_maximum_219 : decode cX9_maximum 219 = .ok (.getfield 36, 3) := by decide +kernel
theorem dX9_maximum_222 : decode cX9_maximum 222 = .ok (.iload 6, 2) := by decide +kernel
theorem dX9_maximum_224 : decode cX9_maximum 224 = .ok (.iaload, 1) := by decide +kernel
theorem dX9_maximum_225 : decode cX9_maximum 225 = .ok (.iload 8, 2) := by decide +kernel
theorem dX9_maximum_227 : decode cX9_maximum 227 = .ok (.iadd, 1) := by decide +kernel
theorem dX9_maximum_228 : decode cX9_maximum 228 = .ok (.goto 5, 3) := by decide +kernel
theorem dX9_maximum_231 : decode cX9_maximum 231 = .ok (.iload 4, 2) := by decide +kernel
theorem dX9_maximum_233 : decode cX9_maximum 233 = .ok (.istore 4, 2) := by decide +kernel
theorem dX9_maximum_235 : decode cX9_maximum 235 = .ok (.aload_n 0, 1) := by decide +kernel
theorem dX9_maximum_236 : decode cX9_maximum 236 = .ok (.iload 5, 2) := by decide +kernel
theorem dX9_maximum_238 : decode cX9_maximum 238 = .ok (.invokevirtual 183, 3) := by decide +kernel
theorem dX9_maximum_241 : decode cX9_maximum 241 = .ok (.aload_n 0, 1) := by decide +kernel
theorem dX9_maximum_242 : decode cX9_maximum 242 = .ok (.getfield 72, 3) := by decide +kernel
theorem dX9_maximum_245 : decode cX9_maximum 245 = .ok (.invokestatic 152, 3) := by decide +kernel
theorem dX9_maximum_248 : decode cX9_maximum 248 = .ok (.istore 10, 2) := by decide +kernel
theorem dX9_maximum_250 : decode cX9_maximum 250 = .ok (.iload 7, 2) := by decide +kernel
theorem dX9_maximum_252 : decode cX9_maximum 252 = .ok (.iload_n 3, 1) := by decide +kernel
theorem dX9_maximum_253 : decode cX9_maximum 253 = .ok (.if_icmp .le 8, 3) := by decide +kernel
theorem dX9_maximum_256 : decode cX9_maximum 256 = .ok (.iload 7, 2) := by decide +kernel
theorem dX9_maximum_258 : decode cX9_maximum 258 = .ok (.goto 4, 3) := by decide +kernel
theorem dX9_maximum_261 : decode cX9_maximum 261 = .ok (.iload_n 3, 1) := by decide +kernel
theorem dX9_maximum_262 : decode cX9_maximum 262 = .ok (.istore_n 3, 1) := by decide +kernel
theorem dX9_maximum_263 : decode cX9_maximum 263 = .ok (.iload 10, 2) := by decide +kernel
theorem dX9_maximum_265 : decode cX9_maximum 265 = .ok (.iload_n 3, 1) := by decide +kernel
theorem dX9_maximum_266 : decode cX9_maximum 266 = .ok (.if_icmp .le 8, 3) := by decide +kernel
theorem dX9_maximum_269 : decode cX9_maximum 269 = .ok (.iload 10, 2) := by decide +kernel
theorem dX9_maximum_271 : decode cX9_maximum 271 = .ok (.goto 4, 3) := by decide +kernel
theorem dX9_maximum_274 : decode cX9_maximum 274 = .ok (.iload_n 3, 1) := by decide +kernel
theorem dX9_maximum_275 : decode cX9_maximum 275 = .ok (.istore_n 3, 1) := by decide +kernel
theorem dX9_maximum_276 : decode cX9_maximum 276 = .ok (.iinc 5 1, 3) := by decide +kernel
theorem dX9_maximum_279 : decode cX9_maximum 279 = .ok (.goto (-231), 3) := by decide +kernel
theorem dX9_maximum_282 : decode cX9_maximum 282 = .ok (.iload_n 2, 1) := by decide +kernel
theorem dX9_maximum_283 : decode cX9_maximum 283 = .ok (.ifCond .ne 7, 3) := by decide +kernel
theorem dX9_maximum_286 : decode cX9_maximum 286 = .ok (.iload_n 3, 1) := by decide +kernel
theorem dX9_maximum_287 : decode cX9_maximum 287 = .ok (.goto 5, 3) := by decide +kernel
theorem dX9_maximum_290 : decode cX9_maximum 290 = .ok (.iload 4, 2) := by decide +kernel
theorem dX9_maximum_292 : decode cX9_maximum 292 = .ok (.ireturn, 1) := by decide +kernel
theorem dX9_plant_0 : decode cX9_plant 0 = .ok (.iload 4, 2) := by decide +kernel
theorem dX9_plant_2 : decode cX9_plant 2 = .ok (.ifCond .eq 35, 3) := by decide +kernel
theorem dX9_plant_5 : decode cX9_plant 5 = .ok (.iload 4, 2) := by decide +kernel
theorem dX9_plant_7 : decode cX9_plant 7 = .ok (.iconst 1, 1) := by decide +kernel
theorem dX9_plant_8 : decode cX9_plant 8 = .ok (.if_icmp .eq 29, 3) := by decide +kernel
theorem dX9_plant_11 : decode cX9_plant 11 = .ok (.iload 4, 2) := by decide +kernel
theorem dX9_plant_13 : decode cX9_plant 13 = .ok (.iconst 4, 1) := by decide +kernel
theorem dX9_plant_14 : decode cX9_plant 14 = .ok (.if_icmp .eq 23, 3) := by decide +kernel
theorem dX9_plant_17 : decode cX9_plant 17 = .ok (.iload 4, 2) := by decide +kernel
theorem dX9_plant_19 : decode cX9_plant 19 = .ok (.invokestatic 109, 3) := by decide +kernel
theorem dX9_plant_22 : decode cX9_plant 22 = .ok (.ifCond .eq 19, 3) := by decide +kernel
theorem dX9_plant_25 : decode cX9_plant 25 = .ok (.aload_n 0, 1) := by decide +kernel
theorem dX9_plant_26 : decode cX9_plant 26 = .ok (.iload 4, 2) := by decide +kernel
theorem dX9_plant_28 : decode cX9_plant 28 = .ok (.bipush 10, 2) := by decide +kernel
theorem dX9_plant_30 : decode cX9_plant 30 = .ok (.isub, 1) := by decide +kernel
theorem dX9_plant_31 : decode cX9_plant 31 = .ok (.invokevirtual 94, 3) := by decide +kernel
theorem dX9_plant_34 : decode cX9_plant 34 = .ok (.ifCond .eq 7, 3) := by decide +kernel
theorem dX9_plant_37 : decode cX9_plant 37 = .ok (.iconst 1, 1) := by decide +kernel
theorem dX9_plant_38 : decode cX9_plant 38 = .ok (.goto 4, 3) := by decide +kernel
theorem dX9_plant_41 : decode cX9_plant 41 = .ok (.iconst 0, 1) := by decide +kernel
theorem dX9_plant_42 : decode cX9_plant 42 = .ok (.istore 5, 2) := by decide +kernel
theorem dX9_plant_44 : decode cX9_plant 44 = .ok (.iload_n 1, 1) := by decide +kernel
theorem dX9_plant_45 : decode cX9_plant 45 = .ok (.invokestatic 112, 3) := by decide +kernel
theorem dX9_plant_48 : decode cX9_plant 48 = .ok (.ifCond .eq 29, 3) := by decide +kernel
theorem dX9_plant_51 : decode cX9_plant 51 = .ok (.iload_n 3, 1) := by decide +kernel
theorem dX9_plant_52 : decode cX9_plant 52 = .ok (.iconst 0, 1) := by decide +kernel
theorem dX9_plant_53 : decode cX9_plant 53 = .ok (.bipush 7, 2) := by decide +kernel
theorem dX9_plant_55 : decode cX9_plant 55 = .ok (.invokestatic 90, 3) := by decide +kernel
theorem dX9_plant_58 : decode cX9_plant 58 = .ok (.ifCond .ne 14, 3) := by decide +kernel
theorem dX9_plant_61 : decode cX9_plant 61 = .ok (.iload_n 3, 1) := by decide +kernel
theorem dX9_plant_62 : decode cX9_plant 62 = .ok (.bipush 100, 2) := by decide +kernel
theorem dX9_plant_64 : decode cX9_plant 64 = .ok (.bipush 109, 2) := by decide +kernel
theorem dX9_plant_66 : decode cX9_plant 66 = .ok (.invokestatic 90, 3) := by decide +kernel
theorem dX9_plant_69 : decode cX9_plant 69 = .ok (.ifCond .eq 8, 3) := by decide +kernel
theorem dX9_plant_72 : decode cX9_plant 72 = .ok (.iload 5, 2) := by decide +kernel
theorem dX9_plant_74 : decode cX9_plant 74 = .ok (.ifCond .ne 5, 3) := by decide +kernel
theorem dX9_plant_77 : decode cX9_plant 77 = .ok (.iconst (-1), 1) := by decide +kernel
theorem dX9_plant_78 : decode cX9_plant 78 = .ok (.ireturn, 1) := by decide +kernel
theorem dX9_plant_79 : decode cX9_plant 79 = .ok (.aload_n 0, 1) := by decide +kernel
theorem dX9_plant_80 : decode cX9_plant 80 = .ok (.getfield 57, 3) := by decide +kernel
theorem dX9_plant_83 : decode cX9_plant 83 = .ok (.iload_n 1, 1) := by decide +kernel
theorem dX9_plant_84 : decode cX9_plant 84 = .ok (.baload, 1) := by decide +kernel
theorem dX9_plant_85 : decode cX9_plant 85 = .ok (.ifCond .ne 6, 3) := by decide +kernel
theorem dX9_plant_88 : decode cX9_plant 88 = .ok (.bipush (-3), 2) := by decide +kernel
theorem dX9_plant_90 : decode cX9_plant 90 = .ok (.ireturn, 1) := by decide +kernel
theorem dX9_plant_91 : decode cX9_plant 91 = .ok (.aload_n 0, 1) := by decide +kernel
theorem dX9_plant_92 : decode cX9_plant 92 = .ok (.iload_n 1, 1) := by decide +kernel
theorem dX9_plant_93 : decode cX9_plant 93 = .ok (.iload_n 2, 1) := by decide +kernel
theorem dX9_plant_94 : decode cX9_plant 94 = .ok (.invokevirtual 216, 3) := by decide +kernel
theorem dX9_plant_97 : decode cX9_plant 97 = .ok (.istore 6, 2) := by decide +kernel
theorem dX9_plant_99 : decode cX9_plant 99 = .ok (.iload 6, 2) := by decide +kernel
theorem dX9_plant_101 : decode cX9_plant 101 = .ok (.ifCond .ge 8, 3) := by decide +kernel
theorem dX9_plant_104 : decode cX9_plant 104 = .ok (.bipush (-5), 2) := by decide +kernel
theorem dX9_plant_106 : decode cX9_plant 106 = .ok (.goto 22, 3) := by decide +kernel
theorem dX9_plant_109 : decode cX9_plant 109 = .ok (.aload_n 0, 1) := by decide +kernel
theorem dX9_plant_110 : decode cX9_plant 110 = .ok (.aload_n 0, 1) := by decide +kernel
theorem dX9_plant_111 : decode cX9_plant 111 = .ok (.getfield 69, 3) := by decide +kernel
theorem dX9_plant_114 : decode cX9_plant 114 = .ok (.bipush 20, 2) := by decide +kernel
theorem dX9_plant_116 : decode cX9_plant 116 = .ok (.bipush 40, 2) := by decide +kernel
theorem dX9_plant_118 : decode cX9_plant 118 = .ok (.iload_n 1, 1) := by decide +kernel
theorem dX9_plant_119 : decode cX9_plant 119 = .ok (.imul, 1) := by decide +kernel
theorem dX9_plant_120 : decode cX9_plant 120 = .ok (.iload 6, 2) := by decide +kernel
theorem dX9_plant_122 : decode cX9_plant 122 = .ok (.iadd, 1) := by decide +kernel
theorem dX9_plant_123 : decode cX9_plant 123 = .ok (.imul, 1) := by decide +kernel
theorem dX9_plant_124 : decode cX9_plant 124 = .ok (.iload_n 3, 1) := by decide +kernel
theorem dX9_plant_125 : decode cX9_plant 125 = .ok (.invokevirtual 212, 3) := by decide +kernel
theorem dX9_plant_128 : decode cX9_plant 128 = .ok (.istore 7, 2) := by decide +kernel
theorem dX9_plant_130 : decode cX9_plant 130 = .ok (.iload_n 3, 1) := by decide +kernel
theorem dX9_plant_131 : decode cX9_plant 131 = .ok (.bipush 8, 2) := by decide +kernel
theorem dX9_plant_133 : decode cX9_plant 133 = .ok (.if_icmp .ge 16, 3) := by decide +kernel
theorem dX9_plant_136 : decode cX9_plant 136 = .ok (.iload_n 3, 1) := by decide +kernel
theorem dX9_plant_137 : decode cX9_plant 137 = .ok (.aload_n 0, 1) := by decide +kernel
theorem dX9_plant_138 : decode cX9_plant 138 = .ok (.getfield 21, 3) := by decide +kernel
theorem dX9_plant_141 : decode cX9_plant 141 = .ok (.iload_n 1, 1) := by decide +kernel
theorem dX9_plant_142 : decode cX9_plant 142 = .ok (.iaload, 1) := by decide +kernel
theorem dX9_plant_143 : decode cX9_plant 143 = .ok (.if_icmp .lt 13, 3) := by decide +kernel
theorem dX9_plant_146 : decode cX9_plant 146 = .ok (.goto 8, 3) := by decide +kernel
theorem dX9_plant_149 : decode cX9_plant 149 = .ok (.iload 4, 2) := by decide +kernel
theorem dX9_plant_151 : decode cX9_plant 151 = .ok (.ifCond .ne 5, 3) := by decide +kernel
theorem dX9_plant_154 : decode cX9_plant 154 = .ok (.iconst (-1), 1) := by decide +kernel
theorem dX9_plant_155 : decode cX9_plant 155 = .ok (.ireturn, 1) := by decide +kernel
theorem dX9_plant_156 : decode cX9_plant 156 = .ok (.iload 7, 2) := by decide +kernel
theorem dX9_plant_158 : decode cX9_plant 158 = .ok (.ifCond .lt 15, 3) := by decide +kernel
theorem dX9_plant_161 : decode cX9_plant 161 = .ok (.iload 7, 2) := by decide +kernel
theorem dX9_plant_163 : decode cX9_plant 163 = .ok (.iconst 2, 1) := by decide +kernel
theorem dX9_plant_164 : decode cX9_plant 164 = .ok (.if_icmp .eq 9, 3) := by decide +kernel
theorem dX9_plant_167 : decode cX9_plant 167 = .ok (.iload 7, 2) := by decide +kernel
theorem dX9_plant_169 : decode cX9_plant 169 = .ok (.iconst 3, 1) := by decide +kernel
theorem dX9_plant_170 : decode cX9_plant 170 = .ok (.if_icmp .ne 5, 3) := by decide +kernel
theorem dX9_plant_173 : decode cX9_plant 173 = .ok (.iconst (-1), 1) := by decide +kernel
theorem dX9_plant_174 : decode cX9_plant 174 = .ok (.ireturn, 1) := by decide +kernel
theorem dX9_plant_175 : decode cX9_plant 175 = .ok (.aload_n 0, 1) := by decide +kernel
theorem dX9_plant_176 : decode cX9_plant 176 = .ok (.getfield 69, 3) := by decide +kernel
theorem dX9_plant_179 : decode cX9_plant 179 = .ok (.bipush 20, 2) := by decide +kernel
theorem dX9_plant_181 : decode cX9_plant 181 = .ok (.bipush 40, 2) := by decide +kernel
theorem dX9_plant_183 : decode cX9_plant 183 = .ok (.iload_n 1, 1) := by decide +kernel
theorem dX9_plant_184 : decode cX9_plant 184 = .ok (.imul, 1) := by decide +kernel
theorem dX9_plant_185 : decode cX9_plant 185 = .ok (.iload 6, 2) := by decide +kernel
theorem dX9_plant_187 : decode cX9_plant 187 = .ok (.iadd, 1) := by decide +kernel
theorem dX9_plant_188 : decode cX9_plant 188 = .ok (.imul, 1) := by decide +kernel
theorem dX9_plant_189 : decode cX9_plant 189 = .ok (.iload_n 3, 1) := by decide +kernel
theorem dX9_plant_190 : decode cX9_plant 190 = .ok (.bipush 8, 2) := by decide +kernel
theorem dX9_plant_192 : decode cX9_plant 192 = .ok (.if_icmp .ge 7, 3) := by decide +kernel
theorem dX9_plant_195 : decode cX9_plant 195 = .ok (.iload_n 3, 1) := by decide +kernel
theorem dX9_plant_196 : decode cX9_plant 196 = .ok (.goto 10, 3) := by decide +kernel
theorem dX9_plant_199 : decode cX9_plant 199 = .ok (.bipush 9, 2) := by decide +kernel
theorem dX9_plant_201 : decode cX9_plant 201 = .ok (.iload_n 3, 1) := by decide +kernel
theorem dX9_plant_202 : decode cX9_plant 202 = .ok (.iadd, 1) := by decide +kernel
theorem dX9_plant_203 : decode cX9_plant 203 = .ok (.bipush 100, 2) := by decide +kernel
theorem dX9_plant_205 : decode cX9_plant 205 = .ok (.isub, 1) := by decide +kernel
theorem dX9_plant_206 : decode cX9_plant 206 = .ok (.iadd, 1) := by decide +kernel
theorem dX9_plant_207 : decode cX9_plant 207 = .ok (.iload 4, 2) := by decide +kernel
theorem dX9_plant_209 : decode cX9_plant 209 = .ok (.iastore, 1) := by decide +kernel
theorem dX9_plant_210 : decode cX9_plant 210 = .ok (.iload 7, 2) := by decide +kernel
theorem dX9_plant_212 : decode cX9_plant 212 = .ok (.ireturn, 1) := by decide +kernel
theorem dX9_allFit_0 : decode cX9_allFit 0 = .ok (.aload_n 1, 1) := by decide +kernel
theorem dX9_allFit_1 : decode cX9_allFit 1 = .ok (.bipush 8, 2) := by decide +kernel
theorem dX9_allFit_3 : decode cX9_allFit 3 = .ok (.iaload, 1) := by decide +kernel
theorem dX9_allFit_4 : decode cX9_allFit 4 = .ok (.aload_n 0, 1) := by decide +kernel
theorem dX9_allFit_5 : decode cX9_allFit 5 = .ok (.getfield 69, 3) := by decide +kernel
theorem dX9_allFit_8 : decode cX9_allFit 8 = .ok (.bipush 20, 2) := by decide +kernel
theorem dX9_allFit_10 : decode cX9_allFit 10 = .ok (.iload_n 2, 1) := by decide +kernel
theorem dX9_allFit_11 : decode cX9_allFit 11 = .ok (.imul, 1) := by decide +kernel
theorem dX9_allFit_12 : decode cX9_allFit 12 = .ok (.bipush 8, 2) := by decide +kernel
theorem dX9_allFit_14 : decode cX9_allFit 14 = .ok (.iadd, 1) := by decide +kernel
theorem dX9_allFit_15 : decode cX9_allFit 15 = .ok (.iaload, 1) := by decide +kernel
theorem dX9_allFit_16 : decode cX9_allFit 16 = .ok (.if_icmp .ne 7, 3) := by decide +kernel
theorem dX9_allFit_19 : decode cX9_allFit 19 = .ok (.iconst 1, 1) := by decide +kernel
theorem dX9_allFit_20 : decode cX9_allFit 20 = .ok (.goto 4, 3) := by decide +kernel
theorem dX9_allFit_23 : decode cX9_allFit 23 = .ok (.iconst 0, 1) := by decide +kernel
theorem dX9_allFit_24 : decode cX9_allFit 24 = .ok (.istore_n 3, 1) := by decide +kernel
theorem dX9_allFit_25 : decode cX9_allFit 25 = .ok (.iconst 0, 1) := by decide +kernel
theorem dX9_allFit_26 : decode cX9_allFit 26 = .ok (.istore 4, 2) := by decide +kernel
theorem dX9_allFit_28 : decode cX9_allFit 28 = .ok (.iload 4, 2) := by decide +kernel
theorem dX9_allFit_30 : decode cX9_allFit 30 = .ok (.bipush 9, 2) := by decide +kernel
theorem dX9_allFit_32 : decode cX9_allFit 32 = .ok (.aload_n 1, 1) := by decide +kernel
theorem dX9_allFit_33 : decode cX9_allFit 33 = .ok (.bipush 8, 2) := by decide +kernel
theorem dX9_allFit_35 : decode cX9_allFit 35 = .ok (.iaload, 1) := by decide +kernel
theorem dX9_allFit_36 : decode cX9_allFit 36 = .ok (.iadd, 1) := by decide +kernel
theorem dX9_allFit_37 : decode cX9_allFit 37 = .ok (.if_icmp .ge 49, 3) := by decide +kernel
theorem dX9_allFit_40 : decode cX9_allFit 40 = .ok (.iload_n 3, 1) := by decide +kernel
theorem dX9_allFit_41 : decode cX9_allFit 41 = .ok (.ifCond .eq 45, 3) := by decide +kernel
theorem dX9_allFit_44 : decode cX9_allFit 44 = .ok (.iload 4, 2) := by decide +kernel
theorem dX9_allFit_46 : decode cX9_allFit 46 = .ok (.bipush 8, 2) := by decide +kernel
theorem dX9_allFit_48 : decode cX9_allFit 48 = .ok (.if_icmp .eq 26, 3) := by decide +kernel
theorem dX9_allFit_51 : decode cX9_allFit 51 = .ok (.aload_n 0, 1) := by decide +kernel
theorem dX9_allFit_52 : decode cX9_allFit 52 = .ok (.aload_n 1, 1) := by decide +kernel
theorem dX9_allFit_53 : decode cX9_allFit 53 = .ok (.iload 4, 2) := by decide +kernel
theorem dX9_allFit_55 : decode cX9_allFit 55 = .ok (.iaload, 1) := by decide +kernel
theorem dX9_allFit_56 : decode cX9_allFit 56 = .ok (.aload_n 0, 1) := by decide +kernel
theorem dX9_allFit_57 : decode cX9_allFit 57 = .ok (.getfield 69, 3) := by decide +kernel
theorem dX9_allFit_60 : decode cX9_allFit 60 = .ok (.bipush 20, 2) := by decide +kernel
theorem dX9_allFit_62 : decode cX9_allFit 62 = .ok (.iload_n 2, 1) := by decide +kernel
theorem dX9_allFit_63 : decode cX9_allFit 63 = .ok (.imul, 1) := by decide +kernel
theorem dX9_allFit_64 : decode cX9_allFit 64 = .ok (.iload 4, 2) := by decide +kernel
theorem dX9_allFit_66 : decode cX9_allFit 66 = .ok (.iadd, 1) := by decide +kernel
theorem dX9_allFit_67 : decode cX9_allFit 67 = .ok (.iaload, 1) := by decide +kernel
theorem dX9_allFit_68 : decode cX9_allFit 68 = .ok (.invokevirtual 223, 3) := by decide +kernel
theorem dX9_allFit_71 : decode cX9_allFit 71 = .ok (.ifCond .eq 7, 3) := by decide +kernel
theorem dX9_allFit_74 : decode cX9_allFit 74 = .ok (.iconst 1, 1) := by decide +kernel
theorem dX9_allFit_75 : decode cX9_allFit 75 = .ok (.goto 4, 3) := by decide +kernel
theorem dX9_allFit_78 : decode cX9_allFit 78 = .ok (.iconst 0, 1) := by decide +kernel
theorem dX9_allFit_79 : decode cX9_allFit 79 = .ok (.istore_n 3, 1) := by decide +kernel
theorem dX9_allFit_80 : decode cX9_allFit 80 = .ok (.iinc 4 1, 3) := by decide +kernel
theorem dX9_allFit_83 : decode cX9_allFit 83 = .ok (.goto (-55), 3) := by decide +kernel
theorem dX9_allFit_86 : decode cX9_allFit 86 = .ok (.iload_n 3, 1) := by decide +kernel
theorem dX9_allFit_87 : decode cX9_allFit 87 = .ok (.ireturn, 1) := by decide +kernel
theorem dX9_looks_0 : decode cX9_looks 0 = .ok (.iload_n 2, 1) := by decide +kernel
theorem dX9_looks_1 : decode cX9_looks 1 = .ok (.aload_n 0, 1) := by decide +kernel
theorem dX9_looks_2 : decode cX9_looks 2 = .ok (.getfield 30, 3) := by decide +kernel
theorem dX9_looks_5 : decode cX9_looks 5 = .ok (.aload_n 0, 1) := by decide +kernel
theorem dX9_looks_6 : decode cX9_looks 6 = .ok (.getfield 129, 3) := by decide +kernel
theorem dX9_looks_9 : decode cX9_looks 9 = .ok (.iaload, 1) := by decide +kernel
theorem dX9_looks_10 : decode cX9_looks 10 = .ok (.if_icmp .lt 11, 3) := by decide +kernel
theorem dX9_looks_13 : decode cX9_looks 13 = .ok (.aload_n 0, 1) := by decide +kernel
theorem dX9_looks_14 : decode cX9_looks 14 = .ok (.iconst 5, 1) := by decide +kernel
theorem dX9_looks_15 : decode cX9_looks 15 = .ok (.invokevirtual 122, 3) := by decide +kernel
theorem dX9_looks_18 : decode cX9_looks 18 = .ok (.goto 79, 3) := by decide +kernel
theorem dX9_looks_21 : decode cX9_looks 21 = .ok (.iload 4, 2) := by decide +kernel
theorem dX9_looks_23 : decode cX9_looks 23 = .ok (.ifCond .ne 25, 3) := by decide +kernel
theorem dX9_looks_26 : decode cX9_looks 26 = .ok (.iload_n 2, 1) := by decide +kernel
theorem dX9_looks_27 : decode cX9_looks 27 = .ok (.iload_n 3, 1) := by decide +kernel
theorem dX9_looks_28 : decode cX9_looks 28 = .ok (.if_icmp .gt 20, 3) := by decide +kernel
theorem dX9_looks_31 : decode cX9_looks 31 = .ok (.aload_n 0, 1) := by decide +kernel
theorem dX9_looks_32 : decode cX9_looks 32 = .ok (.aload_n 1, 1) := by decide +kernel
theorem dX9_looks_33 : decode cX9_looks 33 = .ok (.invokevirtual 166, 3) := by decide +kernel
theorem dX9_looks_36 : decode cX9_looks 36 = .ok (.ifCond .eq 12, 3) := by decide +kernel
theorem dX9_looks_39 : decode cX9_looks 39 = .ok (.aload_n 0, 1) := by decide +kernel
theorem dX9_looks_40 : decode cX9_looks 40 = .ok (.bipush 6, 2) := by decide +kernel
theorem dX9_looks_42 : decode cX9_looks 42 = .ok (.invokevirtual 122, 3) := by decide +kernel
theorem dX9_looks_45 : decode cX9_looks 45 = .ok (.goto 52, 3) := by decide +kernel
theorem dX9_looks_48 : decode cX9_looks 48 = .ok (.aload_n 0, 1) := by decide +kernel
theorem dX9_looks_49 : decode cX9_looks 49 = .ok (.getfield 66, 3) := by decide +kernel
theorem dX9_looks_52 : decode cX9_looks 52 = .ok (.bipush 40, 2) := by decide +kernel
theorem dX9_looks_54 : decode cX9_looks 54 = .ok (.aload_n 0, 1) := by decide +kernel
theorem dX9_looks_55 : decode cX9_looks 55 = .ok (.getfield 129, 3) := by decide +kernel
theorem dX9_looks_58 : decode cX9_looks 58 = .ok (.imul, 1) := by decide +kernel
theorem dX9_looks_59 : decode cX9_looks 59 = .ok (.iload_n 2, 1) := by decide +kernel
theorem dX9_looks_60 : decode cX9_looks 60 = .ok (.iadd, 1) := by decide +kernel
theorem dX9_looks_61 : decode cX9_looks 61 = .ok (.baload, 1) := by decide +kernel
theorem dX9_looks_62 : decode cX9_looks 62 = .ok (.ifCond .ne 12, 3) := by decide +kernel
theorem dX9_looks_65 : decode cX9_looks 65 = .ok (.aload_n 0, 1) := by decide +kernel
theorem dX9_looks_66 : decode cX9_looks 66 = .ok (.bipush 8, 2) := by decide +kernel
theorem dX9_looks_68 : decode cX9_looks 68 = .ok (.invokevirtual 122, 3) := by decide +kernel
theorem dX9_looks_71 : decode cX9_looks 71 = .ok (.goto 26, 3) := by decide +kernel
theorem dX9_looks_74 : decode cX9_looks 74 = .ok (.aload_n 0, 1) := by decide +kernel
theorem dX9_looks_75 : decode cX9_looks 75 = .ok (.aload_n 1, 1) := by decide +kernel
theorem dX9_looks_76 : decode cX9_looks 76 = .ok (.bipush 40, 2) := by decide +kernel
theorem dX9_looks_78 : decode cX9_looks 78 = .ok (.aload_n 0, 1) := by decide +kernel
theorem dX9_looks_79 : decode cX9_looks 79 = .ok (.getfield 129, 3) := by decide +kernel
theorem dX9_looks_82 : decode cX9_looks 82 = .ok (.imul, 1) := by decide +kernel
theorem dX9_looks_83 : decode cX9_looks 83 = .ok (.iload_n 2, 1) := by decide +kernel
theorem dX9_looks_84 : decode cX9_looks 84 = .ok (.iadd, 1) := by decide +kernel
theorem dX9_looks_85 : decode cX9_looks 85 = .ok (.invokevirtual 226, 3) := by decide +kernel
theorem dX9_looks_88 : decode cX9_looks 88 = .ok (.ifCond .ne 9, 3) := by decide +kernel
theorem dX9_looks_91 : decode cX9_looks 91 = .ok (.aload_n 0, 1) := by decide +kernel
theorem dX9_looks_92 : decode cX9_looks 92 = .ok (.bipush 9, 2) := by decide +kernel
theorem dX9_looks_94 : decode cX9_looks 94 = .ok (.invokevirtual 122, 3) := by decide +kernel
theorem dX9_looks_97 : decode cX9_looks 97 = .ok (.return_, 1) := by decide +kernel
theorem dX9_looksAt_0 : decode cX9_looksAt 0 = .ok (.bipush 40, 2) := by decide +kernel
theorem dX9_looksAt_2 : decode cX9_looksAt 2 = .ok (.aload_n 0, 1) := by decide +kernel
theorem dX9_looksAt_3 : decode cX9_looksAt 3 = .ok (.getfield 129, 3) := by decide +kernel
theorem dX9_looksAt_6 : decode cX9_looksAt 6 = .ok (.imul, 1) := by decide +kernel
theorem dX9_looksAt_7 : decode cX9_looksAt 7 = .ok (.iload_n 1, 1) := by decide +kernel
theorem dX9_looksAt_8 : decode cX9_looksAt 8 = .ok (.iadd, 1) := by decide +kernel
theorem dX9_looksAt_9 : decode cX9_looksAt 9 = .ok (.istore_n 3, 1) := by decide +kernel
theorem dX9_looksAt_10 : decode cX9_looksAt 10 = .ok (.aload_n 0, 1) := by decide +kernel
theorem dX9_looksAt_11 : decode cX9_looksAt 11 = .ok (.iconst 0, 1) := by decide +kernel
theorem dX9_looksAt_12 : decode cX9_looksAt 12 = .ok (.putfield 115, 3) := by decide +kernel
theorem dX9_looksAt_15 : decode cX9_looksAt 15 = .ok (.aload_n 0, 1) := by decide +kernel
theorem dX9_looksAt_16 : decode cX9_looksAt 16 = .ok (.getfield 66, 3) := by decide +kernel
theorem dX9_looksAt_19 : decode cX9_looksAt 19 = .ok (.iload_n 3, 1) := by decide +kernel
theorem dX9_looksAt_20 : decode cX9_looksAt 20 = .ok (.baload, 1) := by decide +kernel
theorem dX9_looksAt_21 : decode cX9_looksAt 21 = .ok (.ifCond .eq 44, 3) := by decide +kernel
theorem dX9_looksAt_24 : decode cX9_looksAt 24 = .ok (.iload_n 2, 1) := by decide +kernel
theorem dX9_looksAt_25 : decode cX9_looksAt 25 = .ok (.ifCond .eq 21, 3) := by decide +kernel
theorem dX9_looksAt_28 : decode cX9_looksAt 28 = .ok (.aload_n 0, 1) := by decide +kernel
theorem dX9_looksAt_29 : decode cX9_looksAt 29 = .ok (.aload_n 0, 1) := by decide +kernel
theorem dX9_looksAt_30 : decode cX9_looksAt 30 = .ok (.getfield 72, 3) := by decide +kernel
theorem dX9_looksAt_33 : decode cX9_looksAt 33 = .ok (.iload_n 3, 1) := by decide +kernel
theorem dX9_looksAt_34 : decode cX9_looksAt 34 = .ok (.invokevirtual 226, 3) := by decide +kernel
theorem dX9_looksAt_37 : decode cX9_looksAt 37 = .ok (.ifCond .ne 9, 3) := by decide +kernel
theorem dX9_looksAt_40 : decode cX9_looksAt 40 = .ok (.aload_n 0, 1) := by decide +kernel
theorem dX9_looksAt_41 : decode cX9_looksAt 41 = .ok (.bipush 9, 2) := by decide +kernel
theorem dX9_looksAt_43 : decode cX9_looksAt 43 = .ok (.invokevirtual 122, 3) := by decide +kernel
theorem dX9_looksAt_46 : decode cX9_looksAt 46 = .ok (.aload_n 0, 1) := by decide +kernel
theorem dX9_looksAt_47 : decode cX9_looksAt 47 = .ok (.getfield 69, 3) := by decide +kernel
theorem dX9_looksAt_50 : decode cX9_looksAt 50 = .ok (.bipush 20, 2) := by decide +kernel
theorem dX9_looksAt_52 : decode cX9_looksAt 52 = .ok (.iload_n 3, 1) := by decide +kernel
theorem dX9_looksAt_53 : decode cX9_looksAt 53 = .ok (.imul, 1) := by decide +kernel
theorem dX9_looksAt_54 : decode cX9_looksAt 54 = .ok (.aload_n 0, 1) := by decide +kernel
theorem dX9_looksAt_55 : decode cX9_looksAt 55 = .ok (.getfield 72, 3) := by decide +kernel
theorem dX9_looksAt_58 : decode cX9_looksAt 58 = .ok (.iconst 0, 1) := by decide +kernel
theorem dX9_looksAt_59 : decode cX9_looksAt 59 = .ok (.invokestatic 162, 3) := by decide +kernel
theorem dX9_looksAt_62 : decode cX9_looksAt 62 = .ok (.goto 13, 3) := by decide +kernel
theorem dX9_looksAt_65 : decode cX9_looksAt 65 = .ok (.iload_n 2, 1) := by decide +kernel
theorem dX9_looksAt_66 : decode cX9_looksAt 66 = .ok (.ifCond .ne 9, 3) := by decide +kernel
theorem dX9_looksAt_69 : decode cX9_looksAt 69 = .ok (.aload_n 0, 1) := by decide +kernel
theorem dX9_looksAt_70 : decode cX9_looksAt 70 = .ok (.bipush 8, 2) := by decide +kernel
theorem dX9_looksAt_72 : decode cX9_looksAt 72 = .ok (.invokevirtual 122, 3) := by decide +kernel
theorem dX9_looksAt_75 : decode cX9_looksAt 75 = .ok (.iconst 4, 1) := by decide +kernel
theorem dX9_looksAt_76 : decode cX9_looksAt 76 = .ok (.aload_n 0, 1) := by decide +kernel
theorem dX9_looksAt_77 : decode cX9_looksAt 77 = .ok (.getfield 129, 3) := by decide +kernel
theorem dX9_looksAt_80 : decode cX9_looksAt 80 = .ok (.imul, 1) := by decide +kernel
theorem dX9_looksAt_81 : decode cX9_looksAt 81 = .ok (.istore 4, 2) := by decide +kernel
theorem dX9_looksAt_83 : decode cX9_looksAt 83 = .ok (.iload 4, 2) := by decide +kernel
theorem dX9_looksAt_85 : decode cX9_looksAt 85 = .ok (.iconst 4, 1) := by decide +kernel
theorem dX9_looksAt_86 : decode cX9_looksAt 86 = .ok (.aload_n 0, 1) := by decide +kernel
theorem dX9_looksAt_87 : decode cX9_looksAt 87 = .ok (.getfield 129, 3) := by decide +kernel
theorem dX9_looksAt_90 : decode cX9_looksAt 90 = .ok (.imul, 1) := by decide +kernel
theorem dX9_looksAt_91 : decode cX9_looksAt 91 = .ok (.aload_n 0, 1) := by decide +kernel
theorem dX9_looksAt_92 : decode cX9_looksAt 92 = .ok (.getfield 42, 3) := by decide +kernel
theorem dX9_looksAt_95 : decode cX9_looksAt 95 = .ok (.aload_n 0, 1) := by decide +kernel
theorem dX9_looksAt_96 : decode cX9_looksAt 96 = .ok (.getfield 129, 3) := by decide +kernel
theorem dX9_looksAt_99 : decode cX9_looksAt 99 = .ok (.iaload, 1) := by decide +kernel
theorem dX9_looksAt_100 : decode cX9_looksAt 100 = .ok (.iadd, 1) := by decide +kernel
theorem dX9_looksAt_101 : decode cX9_looksAt 101 = .ok (.if_icmp .ge 49, 3) := by decide +kernel
theorem dX9_looksAt_104 : decode cX9_looksAt 104 = .ok (.aload_n 0, 1) := by decide +kernel
theorem dX9_looksAt_105 : decode cX9_looksAt 105 = .ok (.getfield 115, 3) := by decide +kernel
theorem dX9_looksAt_108 : decode cX9_looksAt 108 = .ok (.ifCond .ne 42, 3) := by decide +kernel
theorem dX9_looksAt_111 : decode cX9_looksAt 111 = .ok (.aload_n 0, 1) := by decide +kernel
theorem dX9_looksAt_112 : decode cX9_looksAt 112 = .ok (.iload 4, 2) := by decide +kernel
theorem dX9_looksAt_114 : decode cX9_looksAt 114 = .ok (.iload_n 1, 1) := by decide +kernel
theorem dX9_looksAt_115 : decode cX9_looksAt 115 = .ok (.invokevirtual 173, 3) := by decide +kernel
theorem dX9_looksAt_118 : decode cX9_looksAt 118 = .ok (.ifCond .eq 26, 3) := by decide +kernel
theorem dX9_looksAt_121 : decode cX9_looksAt 121 = .ok (.aload_n 0, 1) := by decide +kernel
theorem dX9_looksAt_122 : decode cX9_looksAt 122 = .ok (.iload 4, 2) := by decide +kernel
theorem dX9_looksAt_124 : decode cX9_looksAt 124 = .ok (.invokevirtual 176, 3) := by decide +kernel
theorem dX9_looksAt_127 : decode cX9_looksAt 127 = .ok (.aload_n 0, 1) := by decide +kernel
theorem dX9_looksAt_128 : decode cX9_looksAt 128 = .ok (.aload_n 0, 1) := by decide +kernel
theorem dX9_looksAt_129 : decode cX9_looksAt 129 = .ok (.getfield 75, 3) := by decide +kernel
theorem dX9_looksAt_132 : decode cX9_looksAt 132 = .ok (.aload_n 0, 1) := by decide +kernel
theorem dX9_looksAt_133 : decode cX9_looksAt 133 = .ok (.getfield 51, 3) := by decide +kernel
theorem dX9_looksAt_136 : decode cX9_looksAt 136 = .ok (.iload 4, 2) := by decide +kernel
theorem dX9_looksAt_138 : decode cX9_looksAt 138 = .ok (.iaload, 1) := by decide +kernel
theorem dX9_looksAt_139 : decode cX9_looksAt 139 = .ok (.iload_n 1, 1) := by decide +kernel
theorem dX9_looksAt_140 : decode cX9_looksAt 140 = .ok (.iconst 1, 1) := by decide +kernel
theorem dX9_looksAt_141 : decode cX9_looksAt 141 = .ok (.invokevirtual 230, 3) := by decide +kernel
theorem dX9_looksAt_144 : decode cX9_looksAt 144 = .ok (.iinc 4 1, 3) := by decide +kernel
theorem dX9_looksAt_147 : decode cX9_looksAt 147 = .ok (.goto (-64), 3) := by decide +kernel
theorem dX9_looksAt_150 : decode cX9_looksAt 150 = .ok (.aload_n 0, 1) := by decide +kernel
theorem dX9_looksAt_151 : decode cX9_looksAt 151 = .ok (.getfield 115, 3) := by decide +kernel
theorem dX9_looksAt_154 : decode cX9_looksAt 154 = .ok (.ifCond .le 4, 3) := by decide +kernel
theorem dX9_looksAt_157 : decode cX9_looksAt 157 = .ok (.return_, 1) := by decide +kernel
theorem dX9_looksAt_158 : decode cX9_looksAt 158 = .ok (.aload_n 0, 1) := by decide +kernel
theorem dX9_looksAt_159 : decode cX9_looksAt 159 = .ok (.iload_n 1, 1) := by decide +kernel
theorem dX9_looksAt_160 : decode cX9_looksAt 160 = .ok (.invokevirtual 183, 3) := by decide +kernel
theorem dX9_looksAt_163 : decode cX9_looksAt 163 = .ok (.aload_n 0, 1) := by decide +kernel
theorem dX9_looksAt_164 : decode cX9_looksAt 164 = .ok (.getfield 115, 3) := by decide +kernel
theorem dX9_looksAt_167 : decode cX9_looksAt 167 = .ok (.ifCond .ne 35, 3) := by decide +kernel
theorem dX9_looksAt_170 : decode cX9_looksAt 170 = .ok (.aload_n 0, 1) := by decide +kernel
theorem dX9_looksAt_171 : decode cX9_looksAt 171 = .ok (.getfield 33, 3) := by decide +kernel
theorem dX9_looksAt_174 : decode cX9_looksAt 174 = .ok (.iload_n 3, 1) := by decide +kernel
theorem dX9_looksAt_175 : decode cX9_looksAt 175 = .ok (.iaload, 1) := by decide +kernel
theorem dX9_looksAt_176 : decode cX9_looksAt 176 = .ok (.invokestatic 186, 3) := by decide +kernel
theorem dX9_looksAt_179 : decode cX9_looksAt 179 = .ok (.ifCond .eq 23, 3) := by decide +kernel
theorem dX9_looksAt_182 : decode cX9_looksAt 182 = .ok (.iload_n 1, 1) := by decide +kernel
theorem dX9_looksAt_183 : decode cX9_looksAt 183 = .ok (.iconst 1, 1) := by decide +kernel
theorem dX9_looksAt_184 : decode cX9_looksAt 184 = .ok (.iadd, 1) := by decide +kernel
theorem dX9_looksAt_185 : decode cX9_looksAt 185 = .ok (.aload_n 0, 1) := by decide +kernel
theorem dX9_looksAt_186 : decode cX9_looksAt 186 = .ok (.getfield 30, 3) := by decide +kernel
theorem dX9_looksAt_189 : decode cX9_looksAt 189 = .ok (.aload_n 0, 1) := by decide +kernel
theorem dX9_looksAt_190 : decode cX9_looksAt 190 = .ok (.getfield 129, 3) := by decide +kernel
theorem dX9_looksAt_193 : decode cX9_looksAt 193 = .ok (.iaload, 1) := by decide +kernel
theorem dX9_looksAt_194 : decode cX9_looksAt 194 = .ok (.if_icmp .ne 8, 3) := by decide +kernel
theorem dX9_looksAt_197 : decode cX9_looksAt 197 = .ok (.aload_n 0, 1) := by decide +kernel
theorem dX9_looksAt_198 : decode cX9_looksAt 198 = .ok (.iconst 5, 1) := by decide +kernel
theorem dX9_looksAt_199 : decode cX9_looksAt 199 = .ok (.invokevirtual 122, 3) := by decide +kernel
theorem dX9_looksAt_202 : decode cX9_looksAt 202 = .ok (.aload_n 0, 1) := by decide +kernel
theorem dX9_looksAt_203 : decode cX9_looksAt 203 = .ok (.getfield 36, 3) := by decide +kernel
theorem dX9_looksAt_206 : decode cX9_looksAt 206 = .ok (.iload_n 3, 1) := by decide +kernel
theorem dX9_looksAt_207 : decode cX9_looksAt 207 = .ok (.iaload, 1) := by decide +kernel
theorem dX9_looksAt_208 : decode cX9_looksAt 208 = .ok (.istore 4, 2) := by decide +kernel
theorem dX9_looksAt_210 : decode cX9_looksAt 210 = .ok (.aload_n 0, 1) := by decide +kernel
theorem dX9_looksAt_211 : decode cX9_looksAt 211 = .ok (.getfield 33, 3) := by decide +kernel
theorem dX9_looksAt_214 : decode cX9_looksAt 214 = .ok (.iload_n 3, 1) := by decide +kernel
theorem dX9_looksAt_215 : decode cX9_looksAt 215 = .ok (.iaload, 1) := by decide +kernel
theorem dX9_looksAt_216 : decode cX9_looksAt 216 = .ok (.invokestatic 189, 3) := by decide +kernel
theorem dX9_looksAt_219 : decode cX9_looksAt 219 = .ok (.ifCond .eq 39, 3) := by decide +kernel
theorem dX9_looksAt_222 : decode cX9_looksAt 222 = .ok (.iload 4, 2) := by decide +kernel
theorem dX9_looksAt_224 : decode cX9_looksAt 224 = .ok (.aload_n 0, 1) := by decide +kernel
theorem dX9_looksAt_225 : decode cX9_looksAt 225 = .ok (.getfield 39, 3) := by decide +kernel
theorem dX9_looksAt_228 : decode cX9_looksAt 228 = .ok (.iload_n 3, 1) := by decide +kernel
theorem dX9_looksAt_229 : decode cX9_looksAt 229 = .ok (.iaload, 1) := by decide +kernel
theorem dX9_looksAt_230 : decode cX9_looksAt 230 = .ok (.if_icmp .gt 28, 3) := by decide +kernel
theorem dX9_looksAt_233 : decode cX9_looksAt 233 = .ok (.aload_n 0, 1) := by decide +kernel
theorem dX9_looksAt_234 : decode cX9_looksAt 234 = .ok (.getfield 115, 3) := by decide +kernel
theorem dX9_looksAt_237 : decode cX9_looksAt 237 = .ok (.ifCond .ne 21, 3) := by decide +kernel
theorem dX9_looksAt_240 : decode cX9_looksAt 240 = .ok (.aload_n 0, 1) := by decide +kernel
theorem dX9_looksAt_241 : decode cX9_looksAt 241 = .ok (.aload_n 0, 1) := by decide +kernel
theorem dX9_looksAt_242 : decode cX9_looksAt 242 = .ok (.getfield 72, 3) := by decide +kernel
theorem dX9_looksAt_245 : decode cX9_looksAt 245 = .ok (.iload 4, 2) := by decide +kernel
theorem dX9_looksAt_247 : decode cX9_looksAt 247 = .ok (.iload_n 1, 1) := by decide +kernel
theorem dX9_looksAt_248 : decode cX9_looksAt 248 = .ok (.iconst 0, 1) := by decide +kernel
theorem dX9_looksAt_249 : decode cX9_looksAt 249 = .ok (.invokevirtual 230, 3) := by decide +kernel
theorem dX9_looksAt_252 : decode cX9_looksAt 252 = .ok (.iinc 4 1, 3) := by decide +kernel
theorem dX9_looksAt_255 : decode cX9_looksAt 255 = .ok (.goto (-45), 3) := by decide +kernel
theorem dX9_looksAt_258 : decode cX9_looksAt 258 = .ok (.return_, 1) := by decide +kernel
theorem dX9_verify_0 : decode cX9_verify 0 = .ok (.iload_n 1, 1) := by decide +kernel
theorem dX9_verify_1 : decode cX9_verify 1 = .ok (.invokestatic 112, 3) := by decide +kernel
theorem dX9_verify_4 : decode cX9_verify 4 = .ok (.ifCond .ne 5, 3) := by decide +kernel
theorem dX9_verify_7 : decode cX9_verify 7 = .ok (.iconst (-1), 1) := by decide +kernel
theorem dX9_verify_8 : decode cX9_verify 8 = .ok (.ireturn, 1) := by decide +kernel
theorem dX9_verify_9 : decode cX9_verify 9 = .ok (.aload_n 0, 1) := by decide +kernel
theorem dX9_verify_10 : decode cX9_verify 10 = .ok (.getfield 57, 3) := by decide +kernel
theorem dX9_verify_13 : decode cX9_verify 13 = .ok (.iload_n 1, 1) := by decide +kernel
theorem dX9_verify_14 : decode cX9_verify 14 = .ok (.baload, 1) := by decide +kernel
theorem dX9_verify_15 : decode cX9_verify 15 = .ok (.ifCond .ne 6, 3) := by decide +kernel
theorem dX9_verify_18 : decode cX9_verify 18 = .ok (.bipush (-3), 2) := by decide +kernel
theorem dX9_verify_20 : decode cX9_verify 20 = .ok (.ireturn, 1) := by decide +kernel
theorem dX9_verify_21 : decode cX9_verify 21 = .ok (.aload_n 0, 1) := by decide +kernel
theorem dX9_verify_22 : decode cX9_verify 22 = .ok (.iload_n 1, 1) := by decide +kernel
theorem dX9_verify_23 : decode cX9_verify 23 = .ok (.putfield 129, 3) := by decide +kernel
theorem dX9_verify_26 : decode cX9_verify 26 = .ok (.aload_n 0, 1) := by decide +kernel
theorem dX9_verify_27 : decode cX9_verify 27 = .ok (.aload_n 0, 1) := by decide +kernel
theorem dX9_verify_28 : decode cX9_verify 28 = .ok (.getfield 72, 3) := by decide +kernel
theorem dX9_verify_31 : decode cX9_verify 31 = .ok (.invokevirtual 192, 3) := by decide +kernel
theorem dX9_verify_34 : decode cX9_verify 34 = .ok (.iconst 1, 1) := by decide +kernel
theorem dX9_verify_35 : decode cX9_verify 35 = .ok (.istore_n 2, 1) := by decide +kernel
theorem dX9_verify_36 : decode cX9_verify 36 = .ok (.iconst 0, 1) := by decide +kernel
theorem dX9_verify_37 : decode cX9_verify 37 = .ok (.istore_n 3, 1) := by decide +kernel
theorem dX9_verify_38 : decode cX9_verify 38 = .ok (.iload_n 3, 1) := by decide +kernel
theorem dX9_verify_39 : decode cX9_verify 39 = .ok (.aload_n 0, 1) := by decide +kernel
theorem dX9_verify_40 : decode cX9_verify 40 = .ok (.getfield 30, 3) := by decide +kernel
theorem dX9_verify_43 : decode cX9_verify 43 = .ok (.iload_n 1, 1) := by decide +kernel
theorem dX9_verify_44 : decode cX9_verify 44 = .ok (.iaload, 1) := by decide +kernel
theorem dX9_verify_45 : decode cX9_verify 45 = .ok (.if_icmp .ge 50, 3) := by decide +kernel
theorem dX9_verify_48 : decode cX9_verify 48 = .ok (.aload_n 0, 1) := by decide +kernel
theorem dX9_verify_49 : decode cX9_verify 49 = .ok (.iload_n 3, 1) := by decide +kernel
theorem dX9_verify_50 : decode cX9_verify 50 = .ok (.iload_n 2, 1) := by decide +kernel
theorem dX9_verify_51 : decode cX9_verify 51 = .ok (.invokevirtual 234, 3) := by decide +kernel
theorem dX9_verify_54 : decode cX9_verify 54 = .ok (.aload_n 0, 1) := by decide +kernel
theorem dX9_verify_55 : decode cX9_verify 55 = .ok (.getfield 115, 3) := by decide +kernel
theorem dX9_verify_58 : decode cX9_verify 58 = .ok (.ifCond .le 16, 3) := by decide +kernel
theorem dX9_verify_61 : decode cX9_verify 61 = .ok (.aload_n 0, 1) := by decide +kernel
theorem dX9_verify_62 : decode cX9_verify 62 = .ok (.aload_n 0, 1) := by decide +kernel
theorem dX9_verify_63 : decode cX9_verify 63 = .ok (.getfield 115, 3) := by decide +kernel
theorem dX9_verify_66 : decode cX9_verify 66 = .ok (.putfield 199, 3) := by decide +kernel
theorem dX9_verify_69 : decode cX9_verify 69 = .ok (.bipush (-10), 2) := by decide +kernel
theorem dX9_verify_71 : decode cX9_verify 71 = .ok (.iload_n 3, 1) := by decide +kernel
theorem dX9_verify_72 : decode cX9_verify 72 = .ok (.isub, 1) := by decide +kernel
theorem dX9_verify_73 : decode cX9_verify 73 = .ok (.ireturn, 1) := by decide +kernel
theorem dX9_verify_74 : decode cX9_verify 74 = .ok (.aload_n 0, 1) := by decide +kernel
theorem dX9_verify_75 : decode cX9_verify 75 = .ok (.getfield 33, 3) := by decide +kernel
theorem dX9_verify_78 : decode cX9_verify 78 = .ok (.bipush 40, 2) := by decide +kernel
theorem dX9_verify_80 : decode cX9_verify 80 = .ok (.iload_n 1, 1) := by decide +kernel
theorem dX9_verify_81 : decode cX9_verify 81 = .ok (.imul, 1) := by decide +kernel
theorem dX9_verify_82 : decode cX9_verify 82 = .ok (.iload_n 3, 1) := by decide +kernel
theorem dX9_verify_83 : decode cX9_verify 83 = .ok (.iadd, 1) := by decide +kernel
theorem dX9_verify_84 : decode cX9_verify 84 = .ok (.iaload, 1) := by decide +kernel
theorem dX9_verify_85 : decode cX9_verify 85 = .ok (.invokestatic 186, 3) := by decide +kernel
theorem dX9_verify_88 : decode cX9_verify 88 = .ok (.istore_n 2, 1) := by decide +kernel
theorem dX9_verify_89 : decode cX9_verify 89 = .ok (.iinc 3 1, 3) := by decide +kernel
theorem dX9_verify_92 : decode cX9_verify 92 = .ok (.goto (-54), 3) := by decide +kernel
theorem dX9_verify_95 : decode cX9_verify 95 = .ok (.aload_n 0, 1) := by decide +kernel
theorem dX9_verify_96 : decode cX9_verify 96 = .ok (.iconst 0, 1) := by decide +kernel
theorem dX9_verify_97 : decode cX9_verify 97 = .ok (.putfield 199, 3) := by decide +kernel
theorem dX9_verify_100 : decode cX9_verify 100 = .ok (.iconst 0, 1) := by decide +kernel
theorem dX9_verify_101 : decode cX9_verify 101 = .ok (.ireturn, 1) := by decide +kernel
theorem dX9_told_0 : decode cX9_told 0 = .ok (.iload_n 1, 1) := by decide +kernel
theorem dX9_told_1 : decode cX9_told 1 = .ok (.ifCond .ne 8, 3) := by decide +kernel
theorem dX9_told_4 : decode cX9_told 4 = .ok (.aload_n 0, 1) := by decide +kernel
theorem dX9_told_5 : decode cX9_told 5 = .ok (.getfield 7, 3) := by decide +kernel
theorem dX9_told_8 : decode cX9_told 8 = .ok (.ireturn, 1) := by decide +kernel
theorem dX9_told_9 : decode cX9_told 9 = .ok (.iload_n 1, 1) := by decide +kernel
theorem dX9_told_10 : decode cX9_told 10 = .ok (.iconst 1, 1) := by decide +kernel
theorem dX9_told_11 : decode cX9_told 11 = .ok (.isub, 1) := by decide +kernel
theorem dX9_told_12 : decode cX9_told 12 = .ok (.bipush 10, 2) := by decide +kernel
theorem dX9_told_14 : decode cX9_told 14 = .ok (.irem, 1) := by decide +kernel
theorem dX9_told_15 : decode cX9_told 15 = .ok (.istore_n 2, 1) := by decide +kernel
theorem dX9_told_16 : decode cX9_told 16 = .ok (.iload_n 1, 1) := by decide +kernel
theorem dX9_told_17 : decode cX9_told 17 = .ok (.ifCond .lt 15, 3) := by decide +kernel
theorem dX9_told_20 : decode cX9_told 20 = .ok (.iload_n 2, 1) := by decide +kernel
theorem dX9_told_21 : decode cX9_told 21 = .ok (.bipush 7, 2) := by decide +kernel
theorem dX9_told_23 : decode cX9_told 23 = .ok (.if_icmp .gt 9, 3) := by decide +kernel
theorem dX9_told_26 : decode cX9_told 26 = .ok (.iload_n 1, 1) := by decide +kernel
theorem dX9_told_27 : decode cX9_told 27 = .ok (.bipush 38, 2) := by decide +kernel
theorem dX9_told_29 : decode cX9_told 29 = .ok (.if_icmp .le 5, 3) := by decide +kernel
theorem dX9_told_32 : decode cX9_told 32 = .ok (.iconst (-1), 1) := by decide +kernel
theorem dX9_told_33 : decode cX9_told 33 = .ok (.ireturn, 1) := by decide +kernel
theorem dX9_told_34 : decode cX9_told 34 = .ok (.iload_n 1, 1) := by decide +kernel
theorem dX9_told_35 : decode cX9_told 35 = .ok (.bipush 10, 2) := by decide +kernel
theorem dX9_told_37 : decode cX9_told 37 = .ok (.if_icmp .ge 12, 3) := by decide +kernel
theorem dX9_told_40 : decode cX9_told 40 = .ok (.aload_n 0, 1) := by decide +kernel
theorem dX9_told_41 : decode cX9_told 41 = .ok (.getfield 30, 3) := by decide +kernel
theorem dX9_told_44 : decode cX9_told 44 = .ok (.iload_n 2, 1) := by decide +kernel
theorem dX9_told_45 : decode cX9_told 45 = .ok (.iaload, 1) := by decide +kernel
theorem dX9_told_46 : decode cX9_told 46 = .ok (.goto 52, 3) := by decide +kernel
theorem dX9_told_49 : decode cX9_told 49 = .ok (.iload_n 1, 1) := by decide +kernel
theorem dX9_told_50 : decode cX9_told 50 = .ok (.bipush 20, 2) := by decide +kernel
theorem dX9_told_52 : decode cX9_told 52 = .ok (.if_icmp .ge 12, 3) := by decide +kernel
theorem dX9_told_55 : decode cX9_told 55 = .ok (.aload_n 0, 1) := by decide +kernel
theorem dX9_told_56 : decode cX9_told 56 = .ok (.getfield 42, 3) := by decide +kernel
theorem dX9_told_59 : decode cX9_told 59 = .ok (.iload_n 2, 1) := by decide +kernel
theorem dX9_told_60 : decode cX9_told 60 = .ok (.iaload, 1) := by decide +kernel
theorem dX9_told_61 : decode cX9_told 61 = .ok (.goto 37, 3) := by decide +kernel
theorem dX9_told_64 : decode cX9_told 64 = .ok (.iload_n 1, 1) := by decide +kernel
theorem dX9_told_65 : decode cX9_told 65 = .ok (.bipush 30, 2) := by decide +kernel
theorem dX9_told_67 : decode cX9_told 67 = .ok (.if_icmp .ge 12, 3) := by decide +kernel
theorem dX9_told_70 : decode cX9_told 70 = .ok (.aload_n 0, 1) := by decide +kernel
theorem dX9_told_71 : decode cX9_told 71 = .ok (.getfield 21, 3) := by decide +kernel
theorem dX9_told_74 : decode cX9_told 74 = .ok (.iload_n 2, 1) := by decide +kernel
theorem dX9_told_75 : decode cX9_told 75 = .ok (.iaload, 1) := by decide +kernel
theorem dX9_told_76 : decode cX9_told 76 = .ok (.goto 22, 3) := by decide +kernel
theorem dX9_told_79 : decode cX9_told 79 = .ok (.aload_n 0, 1) := by decide +kernel
theorem dX9_told_80 : decode cX9_told 80 = .ok (.getfield 57, 3) := by decide +kernel
theorem dX9_told_83 : decode cX9_told 83 = .ok (.iload_n 2, 1) := by decide +kernel
theorem dX9_told_84 : decode cX9_told 84 = .ok (.baload, 1) := by decide +kernel
theorem dX9_told_85 : decode cX9_told 85 = .ok (.ifCond .eq 11, 3) := by decide +kernel
theorem dX9_told_88 : decode cX9_told 88 = .ok (.aload_n 0, 1) := by decide +kernel
theorem dX9_told_89 : decode cX9_told 89 = .ok (.iload_n 2, 1) := by decide +kernel
theorem dX9_told_90 : decode cX9_told 90 = .ok (.invokevirtual 238, 3) := by decide +kernel
theorem dX9_told_93 : decode cX9_told 93 = .ok (.goto 5, 3) := by decide +kernel
theorem dX9_told_96 : decode cX9_told 96 = .ok (.bipush (-4), 2) := by decide +kernel
theorem dX9_told_98 : decode cX9_told 98 = .ok (.ireturn, 1) := by decide +kernel
