theorem dX9_init_0 : decode cX9_init 0 = .ok (.aload_n 0, 1) := by decide +kernel
theorem dX9_init_1 : decode cX9_init 1 = .ok (.invokespecial 1, 3) := by decide +kernel
theorem dX9_init_4 : decode cX9_init 4 = .ok (.aload_n 0, 1) := by decide +kernel
theorem dX9_init_5 : decode cX9_init 5 = .ok (.iconst 1, 1) := by decide +kernel
theorem dX9_init_6 : decode cX9_init 6 = .ok (.putfield 7, 3) := by decide +kernel
theorem dX9_init_9 : decode cX9_init 9 = .ok (.aload_n 0, 1) := by decide +kernel
theorem dX9_init_10 : decode cX9_init 10 = .ok (.bipush 16, 2) := by decide +kernel
theorem dX9_init_12 : decode cX9_init 12 = .ok (.newarray .int, 2) := by decide +kernel
theorem dX9_init_14 : decode cX9_init 14 = .ok (.putfield 13, 3) := by decide +kernel
theorem dX9_init_17 : decode cX9_init 17 = .ok (.aload_n 0, 1) := by decide +kernel
theorem dX9_init_18 : decode cX9_init 18 = .ok (.bipush 16, 2) := by decide +kernel
theorem dX9_init_20 : decode cX9_init 20 = .ok (.newarray .boolean, 2) := by decide +kernel
theorem dX9_init_22 : decode cX9_init 22 = .ok (.putfield 17, 3) := by decide +kernel
theorem dX9_init_25 : decode cX9_init 25 = .ok (.aload_n 0, 1) := by decide +kernel
theorem dX9_init_26 : decode cX9_init 26 = .ok (.bipush 8, 2) := by decide +kernel
theorem dX9_init_28 : decode cX9_init 28 = .ok (.newarray .int, 2) := by decide +kernel
theorem dX9_init_30 : decode cX9_init 30 = .ok (.dup, 1) := by decide +kernel
theorem dX9_init_31 : decode cX9_init 31 = .ok (.iconst 0, 1) := by decide +kernel
theorem dX9_init_32 : decode cX9_init 32 = .ok (.iconst 4, 1) := by decide +kernel
theorem dX9_init_33 : decode cX9_init 33 = .ok (.iastore, 1) := by decide +kernel
theorem dX9_init_34 : decode cX9_init 34 = .ok (.dup, 1) := by decide +kernel
theorem dX9_init_35 : decode cX9_init 35 = .ok (.iconst 1, 1) := by decide +kernel
theorem dX9_init_36 : decode cX9_init 36 = .ok (.iconst 4, 1) := by decide +kernel
theorem dX9_init_37 : decode cX9_init 37 = .ok (.iastore, 1) := by decide +kernel
theorem dX9_init_38 : decode cX9_init 38 = .ok (.dup, 1) := by decide +kernel
theorem dX9_init_39 : decode cX9_init 39 = .ok (.iconst 2, 1) := by decide +kernel
theorem dX9_init_40 : decode cX9_init 40 = .ok (.iconst 4, 1) := by decide +kernel
theorem dX9_init_41 : decode cX9_init 41 = .ok (.iastore, 1) := by decide +kernel
theorem dX9_init_42 : decode cX9_init 42 = .ok (.dup, 1) := by decide +kernel
theorem dX9_init_43 : decode cX9_init 43 = .ok (.iconst 3, 1) := by decide +kernel
theorem dX9_init_44 : decode cX9_init 44 = .ok (.iconst 4, 1) := by decide +kernel
theorem dX9_init_45 : decode cX9_init 45 = .ok (.iastore, 1) := by decide +kernel
theorem dX9_init_46 : decode cX9_init 46 = .ok (.dup, 1) := by decide +kernel
theorem dX9_init_47 : decode cX9_init 47 = .ok (.iconst 4, 1) := by decide +kernel
theorem dX9_init_48 : decode cX9_init 48 = .ok (.iconst 4, 1) := by decide +kernel
theorem dX9_init_49 : decode cX9_init 49 = .ok (.iastore, 1) := by decide +kernel
theorem dX9_init_50 : decode cX9_init 50 = .ok (.dup, 1) := by decide +kernel
theorem dX9_init_51 : decode cX9_init 51 = .ok (.iconst 5, 1) := by decide +kernel
theorem dX9_init_52 : decode cX9_init 52 = .ok (.iconst 4, 1) := by decide +kernel
theorem dX9_init_53 : decode cX9_init 53 = .ok (.iastore, 1) := by decide +kernel
theorem dX9_init_54 : decode cX9_init 54 = .ok (.dup, 1) := by decide +kernel
theorem dX9_init_55 : decode cX9_init 55 = .ok (.bipush 6, 2) := by decide +kernel
theorem dX9_init_57 : decode cX9_init 57 = .ok (.iconst 4, 1) := by decide +kernel
theorem dX9_init_58 : decode cX9_init 58 = .ok (.iastore, 1) := by decide +kernel
theorem dX9_init_59 : decode cX9_init 59 = .ok (.dup, 1) := by decide +kernel
theorem dX9_init_60 : decode cX9_init 60 = .ok (.bipush 7, 2) := by decide +kernel
theorem dX9_init_62 : decode cX9_init 62 = .ok (.iconst 4, 1) := by decide +kernel
theorem dX9_init_63 : decode cX9_init 63 = .ok (.iastore, 1) := by decide +kernel
theorem dX9_init_64 : decode cX9_init 64 = .ok (.putfield 21, 3) := by decide +kernel
theorem dX9_init_67 : decode cX9_init 67 = .ok (.aload_n 0, 1) := by decide +kernel
theorem dX9_init_68 : decode cX9_init 68 = .ok (.bipush 8, 2) := by decide +kernel
theorem dX9_init_70 : decode cX9_init 70 = .ok (.newarray .int, 2) := by decide +kernel
theorem dX9_init_72 : decode cX9_init 72 = .ok (.putfield 24, 3) := by decide +kernel
theorem dX9_init_75 : decode cX9_init 75 = .ok (.aload_n 0, 1) := by decide +kernel
theorem dX9_init_76 : decode cX9_init 76 = .ok (.bipush 64, 2) := by decide +kernel
theorem dX9_init_78 : decode cX9_init 78 = .ok (.newarray .int, 2) := by decide +kernel
theorem dX9_init_80 : decode cX9_init 80 = .ok (.putfield 27, 3) := by decide +kernel
theorem dX9_init_83 : decode cX9_init 83 = .ok (.aload_n 0, 1) := by decide +kernel
theorem dX9_init_84 : decode cX9_init 84 = .ok (.bipush 8, 2) := by decide +kernel
theorem dX9_init_86 : decode cX9_init 86 = .ok (.newarray .int, 2) := by decide +kernel
theorem dX9_init_88 : decode cX9_init 88 = .ok (.putfield 30, 3) := by decide +kernel
theorem dX9_init_91 : decode cX9_init 91 = .ok (.aload_n 0, 1) := by decide +kernel
theorem dX9_init_92 : decode cX9_init 92 = .ok (.sipush 320, 3) := by decide +kernel
theorem dX9_init_95 : decode cX9_init 95 = .ok (.newarray .int, 2) := by decide +kernel
theorem dX9_init_97 : decode cX9_init 97 = .ok (.putfield 33, 3) := by decide +kernel
theorem dX9_init_100 : decode cX9_init 100 = .ok (.aload_n 0, 1) := by decide +kernel
theorem dX9_init_101 : decode cX9_init 101 = .ok (.sipush 320, 3) := by decide +kernel
theorem dX9_init_104 : decode cX9_init 104 = .ok (.newarray .int, 2) := by decide +kernel
theorem dX9_init_106 : decode cX9_init 106 = .ok (.putfield 36, 3) := by decide +kernel
theorem dX9_init_109 : decode cX9_init 109 = .ok (.aload_n 0, 1) := by decide +kernel
theorem dX9_init_110 : decode cX9_init 110 = .ok (.sipush 320, 3) := by decide +kernel
theorem dX9_init_113 : decode cX9_init 113 = .ok (.newarray .int, 2) := by decide +kernel
theorem dX9_init_115 : decode cX9_init 115 = .ok (.putfield 39, 3) := by decide +kernel
theorem dX9_init_118 : decode cX9_init 118 = .ok (.aload_n 0, 1) := by decide +kernel
theorem dX9_init_119 : decode cX9_init 119 = .ok (.bipush 8, 2) := by decide +kernel
theorem dX9_init_121 : decode cX9_init 121 = .ok (.newarray .int, 2) := by decide +kernel
theorem dX9_init_123 : decode cX9_init 123 = .ok (.putfield 42, 3) := by decide +kernel
theorem dX9_init_126 : decode cX9_init 126 = .ok (.aload_n 0, 1) := by decide +kernel
theorem dX9_init_127 : decode cX9_init 127 = .ok (.bipush 32, 2) := by decide +kernel
theorem dX9_init_129 : decode cX9_init 129 = .ok (.newarray .int, 2) := by decide +kernel
theorem dX9_init_131 : decode cX9_init 131 = .ok (.putfield 45, 3) := by decide +kernel
theorem dX9_init_134 : decode cX9_init 134 = .ok (.aload_n 0, 1) := by decide +kernel
theorem dX9_init_135 : decode cX9_init 135 = .ok (.bipush 32, 2) := by decide +kernel
theorem dX9_init_137 : decode cX9_init 137 = .ok (.newarray .int, 2) := by decide +kernel
theorem dX9_init_139 : decode cX9_init 139 = .ok (.putfield 48, 3) := by decide +kernel
theorem dX9_init_142 : decode cX9_init 142 = .ok (.aload_n 0, 1) := by decide +kernel
theorem dX9_init_143 : decode cX9_init 143 = .ok (.bipush 32, 2) := by decide +kernel
theorem dX9_init_145 : decode cX9_init 145 = .ok (.newarray .int, 2) := by decide +kernel
theorem dX9_init_147 : decode cX9_init 147 = .ok (.putfield 51, 3) := by decide +kernel
theorem dX9_init_150 : decode cX9_init 150 = .ok (.aload_n 0, 1) := by decide +kernel
theorem dX9_init_151 : decode cX9_init 151 = .ok (.bipush 32, 2) := by decide +kernel
theorem dX9_init_153 : decode cX9_init 153 = .ok (.newarray .int, 2) := by decide +kernel
theorem dX9_init_155 : decode cX9_init 155 = .ok (.putfield 54, 3) := by decide +kernel
theorem dX9_init_158 : decode cX9_init 158 = .ok (.aload_n 0, 1) := by decide +kernel
theorem dX9_init_159 : decode cX9_init 159 = .ok (.bipush 8, 2) := by decide +kernel
theorem dX9_init_161 : decode cX9_init 161 = .ok (.newarray .boolean, 2) := by decide +kernel
theorem dX9_init_163 : decode cX9_init 163 = .ok (.putfield 57, 3) := by decide +kernel
theorem dX9_init_166 : decode cX9_init 166 = .ok (.aload_n 0, 1) := by decide +kernel
theorem dX9_init_167 : decode cX9_init 167 = .ok (.sipush 320, 3) := by decide +kernel
theorem dX9_init_170 : decode cX9_init 170 = .ok (.newarray .boolean, 2) := by decide +kernel
theorem dX9_init_172 : decode cX9_init 172 = .ok (.putfield 60, 3) := by decide +kernel
theorem dX9_init_175 : decode cX9_init 175 = .ok (.aload_n 0, 1) := by decide +kernel
theorem dX9_init_176 : decode cX9_init 176 = .ok (.sipush 6400, 3) := by decide +kernel
theorem dX9_init_179 : decode cX9_init 179 = .ok (.newarray .int, 2) := by decide +kernel
theorem dX9_init_181 : decode cX9_init 181 = .ok (.putfield 63, 3) := by decide +kernel
theorem dX9_init_184 : decode cX9_init 184 = .ok (.aload_n 0, 1) := by decide +kernel
theorem dX9_init_185 : decode cX9_init 185 = .ok (.sipush 320, 3) := by decide +kernel
theorem dX9_init_188 : decode cX9_init 188 = .ok (.newarray .boolean, 2) := by decide +kernel
theorem dX9_init_190 : decode cX9_init 190 = .ok (.putfield 66, 3) := by decide +kernel
theorem dX9_init_193 : decode cX9_init 193 = .ok (.aload_n 0, 1) := by decide +kernel
theorem dX9_init_194 : decode cX9_init 194 = .ok (.sipush 6400, 3) := by decide +kernel
theorem dX9_init_197 : decode cX9_init 197 = .ok (.newarray .int, 2) := by decide +kernel
theorem dX9_init_199 : decode cX9_init 199 = .ok (.putfield 69, 3) := by decide +kernel
theorem dX9_init_202 : decode cX9_init 202 = .ok (.aload_n 0, 1) := by decide +kernel
theorem dX9_init_203 : decode cX9_init 203 = .ok (.bipush 20, 2) := by decide +kernel
theorem dX9_init_205 : decode cX9_init 205 = .ok (.newarray .int, 2) := by decide +kernel
theorem dX9_init_207 : decode cX9_init 207 = .ok (.putfield 72, 3) := by decide +kernel
theorem dX9_init_210 : decode cX9_init 210 = .ok (.aload_n 0, 1) := by decide +kernel
theorem dX9_init_211 : decode cX9_init 211 = .ok (.bipush 20, 2) := by decide +kernel
theorem dX9_init_213 : decode cX9_init 213 = .ok (.newarray .int, 2) := by decide +kernel
theorem dX9_init_215 : decode cX9_init 215 = .ok (.putfield 75, 3) := by decide +kernel
theorem dX9_init_218 : decode cX9_init 218 = .ok (.aload_n 0, 1) := by decide +kernel
theorem dX9_init_219 : decode cX9_init 219 = .ok (.bipush 40, 2) := by decide +kernel
theorem dX9_init_221 : decode cX9_init 221 = .ok (.newarray .boolean, 2) := by decide +kernel
theorem dX9_init_223 : decode cX9_init 223 = .ok (.putfield 78, 3) := by decide +kernel
theorem dX9_init_226 : decode cX9_init 226 = .ok (.aload_n 0, 1) := by decide +kernel
theorem dX9_init_227 : decode cX9_init 227 = .ok (.bipush 20, 2) := by decide +kernel
theorem dX9_init_229 : decode cX9_init 229 = .ok (.newarray .int, 2) := by decide +kernel
theorem dX9_init_231 : decode cX9_init 231 = .ok (.putfield 81, 3) := by decide +kernel
theorem dX9_init_234 : decode cX9_init 234 = .ok (.aload_n 0, 1) := by decide +kernel
theorem dX9_init_235 : decode cX9_init 235 = .ok (.bipush 8, 2) := by decide +kernel
theorem dX9_init_237 : decode cX9_init 237 = .ok (.newarray .int, 2) := by decide +kernel
theorem dX9_init_239 : decode cX9_init 239 = .ok (.putfield 84, 3) := by decide +kernel
theorem dX9_init_242 : decode cX9_init 242 = .ok (.aload_n 0, 1) := by decide +kernel
theorem dX9_init_243 : decode cX9_init 243 = .ok (.bipush 8, 2) := by decide +kernel
theorem dX9_init_245 : decode cX9_init 245 = .ok (.newarray .int, 2) := by decide +kernel
theorem dX9_init_247 : decode cX9_init 247 = .ok (.putfield 87, 3) := by decide +kernel
theorem dX9_init_250 : decode cX9_init 250 = .ok (.return_, 1) := by decide +kernel
theorem dX9_in_0 : decode cX9_in 0 = .ok (.iload_n 0, 1) := by decide +kernel
theorem dX9_in_1 : decode cX9_in 1 = .ok (.iload_n 1, 1) := by decide +kernel
theorem dX9_in_2 : decode cX9_in 2 = .ok (.if_icmp .lt 12, 3) := by decide +kernel
theorem dX9_in_5 : decode cX9_in 5 = .ok (.iload_n 0, 1) := by decide +kernel
theorem dX9_in_6 : decode cX9_in 6 = .ok (.iload_n 2, 1) := by decide +kernel
theorem dX9_in_7 : decode cX9_in 7 = .ok (.if_icmp .gt 7, 3) := by decide +kernel
theorem dX9_in_10 : decode cX9_in 10 = .ok (.iconst 1, 1) := by decide +kernel
theorem dX9_in_11 : decode cX9_in 11 = .ok (.goto 4, 3) := by decide +kernel
theorem dX9_in_14 : decode cX9_in 14 = .ok (.iconst 0, 1) := by decide +kernel
theorem dX9_in_15 : decode cX9_in 15 = .ok (.ireturn, 1) := by decide +kernel
theorem dX9_isClass_0 : decode cX9_isClass 0 = .ok (.iload_n 1, 1) := by decide +kernel
theorem dX9_isClass_1 : decode cX9_isClass 1 = .ok (.iconst 0, 1) := by decide +kernel
theorem dX9_isClass_2 : decode cX9_isClass 2 = .ok (.aload_n 0, 1) := by decide +kernel
theorem dX9_isClass_3 : decode cX9_isClass 3 = .ok (.getfield 7, 3) := by decide +kernel
theorem dX9_isClass_6 : decode cX9_isClass 6 = .ok (.iconst 1, 1) := by decide +kernel
theorem dX9_isClass_7 : decode cX9_isClass 7 = .ok (.isub, 1) := by decide +kernel
theorem dX9_isClass_8 : decode cX9_isClass 8 = .ok (.invokestatic 90, 3) := by decide +kernel
theorem dX9_isClass_11 : decode cX9_isClass 11 = .ok (.ireturn, 1) := by decide +kernel
theorem dX9_isMethod_0 : decode cX9_isMethod 0 = .ok (.iload_n 0, 1) := by decide +kernel
theorem dX9_isMethod_1 : decode cX9_isMethod 1 = .ok (.iconst 0, 1) := by decide +kernel
theorem dX9_isMethod_2 : decode cX9_isMethod 2 = .ok (.bipush 7, 2) := by decide +kernel
theorem dX9_isMethod_4 : decode cX9_isMethod 4 = .ok (.invokestatic 90, 3) := by decide +kernel
theorem dX9_isMethod_7 : decode cX9_isMethod 7 = .ok (.ireturn, 1) := by decide +kernel
theorem dX9_cls_0 : decode cX9_cls 0 = .ok (.aload_n 0, 1) := by decide +kernel
theorem dX9_cls_1 : decode cX9_cls 1 = .ok (.iload_n 1, 1) := by decide +kernel
theorem dX9_cls_2 : decode cX9_cls 2 = .ok (.invokevirtual 94, 3) := by decide +kernel
theorem dX9_cls_5 : decode cX9_cls 5 = .ok (.ifCond .eq 20, 3) := by decide +kernel
theorem dX9_cls_8 : decode cX9_cls 8 = .ok (.aload_n 0, 1) := by decide +kernel
theorem dX9_cls_9 : decode cX9_cls 9 = .ok (.getfield 17, 3) := by decide +kernel
theorem dX9_cls_12 : decode cX9_cls 12 = .ok (.iload_n 1, 1) := by decide +kernel
theorem dX9_cls_13 : decode cX9_cls 13 = .ok (.baload, 1) := by decide +kernel
theorem dX9_cls_14 : decode cX9_cls 14 = .ok (.ifCond .ne 11, 3) := by decide +kernel
theorem dX9_cls_17 : decode cX9_cls 17 = .ok (.iload_n 2, 1) := by decide +kernel
theorem dX9_cls_18 : decode cX9_cls 18 = .ok (.ifCond .eq 9, 3) := by decide +kernel
theorem dX9_cls_21 : decode cX9_cls 21 = .ok (.iload_n 1, 1) := by decide +kernel
theorem dX9_cls_22 : decode cX9_cls 22 = .ok (.ifCond .eq 5, 3) := by decide +kernel
theorem dX9_cls_25 : decode cX9_cls 25 = .ok (.iconst (-1), 1) := by decide +kernel
theorem dX9_cls_26 : decode cX9_cls 26 = .ok (.ireturn, 1) := by decide +kernel
theorem dX9_cls_27 : decode cX9_cls 27 = .ok (.aload_n 0, 1) := by decide +kernel
theorem dX9_cls_28 : decode cX9_cls 28 = .ok (.getfield 7, 3) := by decide +kernel
theorem dX9_cls_31 : decode cX9_cls 31 = .ok (.bipush 16, 2) := by decide +kernel
theorem dX9_cls_33 : decode cX9_cls 33 = .ok (.if_icmp .ne 6, 3) := by decide +kernel
theorem dX9_cls_36 : decode cX9_cls 36 = .ok (.bipush (-2), 2) := by decide +kernel
theorem dX9_cls_38 : decode cX9_cls 38 = .ok (.ireturn, 1) := by decide +kernel
theorem dX9_cls_39 : decode cX9_cls 39 = .ok (.aload_n 0, 1) := by decide +kernel
theorem dX9_cls_40 : decode cX9_cls 40 = .ok (.getfield 13, 3) := by decide +kernel
theorem dX9_cls_43 : decode cX9_cls 43 = .ok (.aload_n 0, 1) := by decide +kernel
theorem dX9_cls_44 : decode cX9_cls 44 = .ok (.getfield 7, 3) := by decide +kernel
theorem dX9_cls_47 : decode cX9_cls 47 = .ok (.iload_n 1, 1) := by decide +kernel
theorem dX9_cls_48 : decode cX9_cls 48 = .ok (.iastore, 1) := by decide +kernel
theorem dX9_cls_49 : decode cX9_cls 49 = .ok (.aload_n 0, 1) := by decide +kernel
theorem dX9_cls_50 : decode cX9_cls 50 = .ok (.getfield 17, 3) := by decide +kernel
theorem dX9_cls_53 : decode cX9_cls 53 = .ok (.aload_n 0, 1) := by decide +kernel
theorem dX9_cls_54 : decode cX9_cls 54 = .ok (.getfield 7, 3) := by decide +kernel
theorem dX9_cls_57 : decode cX9_cls 57 = .ok (.iload_n 2, 1) := by decide +kernel
theorem dX9_cls_58 : decode cX9_cls 58 = .ok (.bastore, 1) := by decide +kernel
theorem dX9_cls_59 : decode cX9_cls 59 = .ok (.aload_n 0, 1) := by decide +kernel
theorem dX9_cls_60 : decode cX9_cls 60 = .ok (.dup, 1) := by decide +kernel
theorem dX9_cls_61 : decode cX9_cls 61 = .ok (.getfield 7, 3) := by decide +kernel
theorem dX9_cls_64 : decode cX9_cls 64 = .ok (.iconst 1, 1) := by decide +kernel
theorem dX9_cls_65 : decode cX9_cls 65 = .ok (.iadd, 1) := by decide +kernel
theorem dX9_cls_66 : decode cX9_cls 66 = .ok (.putfield 7, 3) := by decide +kernel
theorem dX9_cls_69 : decode cX9_cls 69 = .ok (.aload_n 0, 1) := by decide +kernel
theorem dX9_cls_70 : decode cX9_cls 70 = .ok (.getfield 7, 3) := by decide +kernel
theorem dX9_cls_73 : decode cX9_cls 73 = .ok (.iconst 1, 1) := by decide +kernel
theorem dX9_cls_74 : decode cX9_cls 74 = .ok (.isub, 1) := by decide +kernel
theorem dX9_cls_75 : decode cX9_cls 75 = .ok (.ireturn, 1) := by decide +kernel
theorem dX9_isBelow_0 : decode cX9_isBelow 0 = .ok (.iload_n 1, 1) := by decide +kernel
theorem dX9_isBelow_1 : decode cX9_isBelow 1 = .ok (.istore_n 3, 1) := by decide +kernel
theorem dX9_isBelow_2 : decode cX9_isBelow 2 = .ok (.iload_n 3, 1) := by decide +kernel
theorem dX9_isBelow_3 : decode cX9_isBelow 3 = .ok (.iload_n 2, 1) := by decide +kernel
theorem dX9_isBelow_4 : decode cX9_isBelow 4 = .ok (.if_icmp .eq 17, 3) := by decide +kernel
theorem dX9_isBelow_7 : decode cX9_isBelow 7 = .ok (.iload_n 3, 1) := by decide +kernel
theorem dX9_isBelow_8 : decode cX9_isBelow 8 = .ok (.ifCond .eq 13, 3) := by decide +kernel
theorem dX9_isBelow_11 : decode cX9_isBelow 11 = .ok (.aload_n 0, 1) := by decide +kernel
theorem dX9_isBelow_12 : decode cX9_isBelow 12 = .ok (.getfield 13, 3) := by decide +kernel
theorem dX9_isBelow_15 : decode cX9_isBelow 15 = .ok (.iload_n 3, 1) := by decide +kernel
theorem dX9_isBelow_16 : decode cX9_isBelow 16 = .ok (.iaload, 1) := by decide +kernel
theorem dX9_isBelow_17 : decode cX9_isBelow 17 = .ok (.istore_n 3, 1) := by decide +kernel
theorem dX9_isBelow_18 : decode cX9_isBelow 18 = .ok (.goto (-16), 3) := by decide +kernel
theorem dX9_isBelow_21 : decode cX9_isBelow 21 = .ok (.iload_n 3, 1) := by decide +kernel
theorem dX9_isBelow_22 : decode cX9_isBelow 22 = .ok (.iload_n 2, 1) := by decide +kernel
theorem dX9_isBelow_23 : decode cX9_isBelow 23 = .ok (.if_icmp .ne 7, 3) := by decide +kernel
theorem dX9_isBelow_26 : decode cX9_isBelow 26 = .ok (.iconst 1, 1) := by decide +kernel
theorem dX9_isBelow_27 : decode cX9_isBelow 27 = .ok (.goto 4, 3) := by decide +kernel
theorem dX9_isBelow_30 : decode cX9_isBelow 30 = .ok (.iconst 0, 1) := by decide +kernel
theorem dX9_isBelow_31 : decode cX9_isBelow 31 = .ok (.ireturn, 1) := by decide +kernel
theorem dX9_joinOf_0 : decode cX9_joinOf 0 = .ok (.iload_n 1, 1) := by decide +kernel
theorem dX9_joinOf_1 : decode cX9_joinOf 1 = .ok (.iload_n 2, 1) := by decide +kernel
theorem dX9_joinOf_2 : decode cX9_joinOf 2 = .ok (.if_icmp .ne 5, 3) := by decide +kernel
theorem dX9_joinOf_5 : decode cX9_joinOf 5 = .ok (.iload_n 1, 1) := by decide +kernel
theorem dX9_joinOf_6 : decode cX9_joinOf 6 = .ok (.ireturn, 1) := by decide +kernel
theorem dX9_joinOf_7 : decode cX9_joinOf 7 = .ok (.aload_n 0, 1) := by decide +kernel
theorem dX9_joinOf_8 : decode cX9_joinOf 8 = .ok (.getfield 17, 3) := by decide +kernel
theorem dX9_joinOf_11 : decode cX9_joinOf 11 = .ok (.iload_n 1, 1) := by decide +kernel
theorem dX9_joinOf_12 : decode cX9_joinOf 12 = .ok (.baload, 1) := by decide +kernel
theorem dX9_joinOf_13 : decode cX9_joinOf 13 = .ok (.ifCond .ne 12, 3) := by decide +kernel
theorem dX9_joinOf_16 : decode cX9_joinOf 16 = .ok (.aload_n 0, 1) := by decide +kernel
theorem dX9_joinOf_17 : decode cX9_joinOf 17 = .ok (.getfield 17, 3) := by decide +kernel
theorem dX9_joinOf_20 : decode cX9_joinOf 20 = .ok (.iload_n 2, 1) := by decide +kernel
theorem dX9_joinOf_21 : decode cX9_joinOf 21 = .ok (.baload, 1) := by decide +kernel
theorem dX9_joinOf_22 : decode cX9_joinOf 22 = .ok (.ifCond .eq 5, 3) := by decide +kernel
theorem dX9_joinOf_25 : decode cX9_joinOf 25 = .ok (.iconst 0, 1) := by decide +kernel
theorem dX9_joinOf_26 : decode cX9_joinOf 26 = .ok (.ireturn, 1) := by decide +kernel
theorem dX9_joinOf_27 : decode cX9_joinOf 27 = .ok (.iload_n 1, 1) := by decide +kernel
theorem dX9_joinOf_28 : decode cX9_joinOf 28 = .ok (.istore_n 3, 1) := by decide +kernel
theorem dX9_joinOf_29 : decode cX9_joinOf 29 = .ok (.aload_n 0, 1) := by decide +kernel
theorem dX9_joinOf_30 : decode cX9_joinOf 30 = .ok (.iload_n 2, 1) := by decide +kernel
theorem dX9_joinOf_31 : decode cX9_joinOf 31 = .ok (.iload_n 3, 1) := by decide +kernel
theorem dX9_joinOf_32 : decode cX9_joinOf 32 = .ok (.invokevirtual 98, 3) := by decide +kernel
theorem dX9_joinOf_35 : decode cX9_joinOf 35 = .ok (.ifCond .ne 13, 3) := by decide +kernel
theorem dX9_joinOf_38 : decode cX9_joinOf 38 = .ok (.aload_n 0, 1) := by decide +kernel
theorem dX9_joinOf_39 : decode cX9_joinOf 39 = .ok (.getfield 13, 3) := by decide +kernel
theorem dX9_joinOf_42 : decode cX9_joinOf 42 = .ok (.iload_n 3, 1) := by decide +kernel
theorem dX9_joinOf_43 : decode cX9_joinOf 43 = .ok (.iaload, 1) := by decide +kernel
theorem dX9_joinOf_44 : decode cX9_joinOf 44 = .ok (.istore_n 3, 1) := by decide +kernel
theorem dX9_joinOf_45 : decode cX9_joinOf 45 = .ok (.goto (-16), 3) := by decide +kernel
theorem dX9_joinOf_48 : decode cX9_joinOf 48 = .ok (.iload_n 3, 1) := by decide +kernel
theorem dX9_joinOf_49 : decode cX9_joinOf 49 = .ok (.ireturn, 1) := by decide +kernel
theorem dX9_isOne_0 : decode cX9_isOne 0 = .ok (.aload_n 0, 1) := by decide +kernel
theorem dX9_isOne_1 : decode cX9_isOne 1 = .ok (.getfield 17, 3) := by decide +kernel
theorem dX9_isOne_4 : decode cX9_isOne 4 = .ok (.iload_n 2, 1) := by decide +kernel
theorem dX9_isOne_5 : decode cX9_isOne 5 = .ok (.baload, 1) := by decide +kernel
theorem dX9_isOne_6 : decode cX9_isOne 6 = .ok (.ifCond .ne 12, 3) := by decide +kernel
theorem dX9_isOne_9 : decode cX9_isOne 9 = .ok (.aload_n 0, 1) := by decide +kernel
theorem dX9_isOne_10 : decode cX9_isOne 10 = .ok (.iload_n 1, 1) := by decide +kernel
theorem dX9_isOne_11 : decode cX9_isOne 11 = .ok (.iload_n 2, 1) := by decide +kernel
theorem dX9_isOne_12 : decode cX9_isOne 12 = .ok (.invokevirtual 98, 3) := by decide +kernel
theorem dX9_isOne_15 : decode cX9_isOne 15 = .ok (.ifCond .eq 7, 3) := by decide +kernel
theorem dX9_isOne_18 : decode cX9_isOne 18 = .ok (.iconst 1, 1) := by decide +kernel
theorem dX9_isOne_19 : decode cX9_isOne 19 = .ok (.goto 4, 3) := by decide +kernel
theorem dX9_isOne_22 : decode cX9_isOne 22 = .ok (.iconst 0, 1) := by decide +kernel
theorem dX9_isOne_23 : decode cX9_isOne 23 = .ok (.ireturn, 1) := by decide +kernel
theorem dX9_joined_0 : decode cX9_joined 0 = .ok (.aload_n 0, 1) := by decide +kernel
theorem dX9_joined_1 : decode cX9_joined 1 = .ok (.iload_n 1, 1) := by decide +kernel
theorem dX9_joined_2 : decode cX9_joined 2 = .ok (.invokevirtual 94, 3) := by decide +kernel
theorem dX9_joined_5 : decode cX9_joined 5 = .ok (.ifCond .eq 20, 3) := by decide +kernel
theorem dX9_joined_8 : decode cX9_joined 8 = .ok (.aload_n 0, 1) := by decide +kernel
theorem dX9_joined_9 : decode cX9_joined 9 = .ok (.iload_n 2, 1) := by decide +kernel
theorem dX9_joined_10 : decode cX9_joined 10 = .ok (.invokevirtual 94, 3) := by decide +kernel
theorem dX9_joined_13 : decode cX9_joined 13 = .ok (.ifCond .eq 12, 3) := by decide +kernel
theorem dX9_joined_16 : decode cX9_joined 16 = .ok (.aload_n 0, 1) := by decide +kernel
theorem dX9_joined_17 : decode cX9_joined 17 = .ok (.iload_n 1, 1) := by decide +kernel
theorem dX9_joined_18 : decode cX9_joined 18 = .ok (.iload_n 2, 1) := by decide +kernel
theorem dX9_joined_19 : decode cX9_joined 19 = .ok (.invokevirtual 102, 3) := by decide +kernel
theorem dX9_joined_22 : decode cX9_joined 22 = .ok (.goto 4, 3) := by decide +kernel
theorem dX9_joined_25 : decode cX9_joined 25 = .ok (.iconst (-1), 1) := by decide +kernel
theorem dX9_joined_26 : decode cX9_joined 26 = .ok (.ireturn, 1) := by decide +kernel
theorem dX9_is_0 : decode cX9_is 0 = .ok (.aload_n 0, 1) := by decide +kernel
theorem dX9_is_1 : decode cX9_is 1 = .ok (.iload_n 1, 1) := by decide +kernel
theorem dX9_is_2 : decode cX9_is 2 = .ok (.invokevirtual 94, 3) := by decide +kernel
theorem dX9_is_5 : decode cX9_is 5 = .ok (.ifCond .eq 11, 3) := by decide +kernel
theorem dX9_is_8 : decode cX9_is 8 = .ok (.aload_n 0, 1) := by decide +kernel
theorem dX9_is_9 : decode cX9_is 9 = .ok (.iload_n 2, 1) := by decide +kernel
theorem dX9_is_10 : decode cX9_is 10 = .ok (.invokevirtual 94, 3) := by decide +kernel
theorem dX9_is_13 : decode cX9_is 13 = .ok (.ifCond .ne 7, 3) := by decide +kernel
theorem dX9_is_16 : decode cX9_is 16 = .ok (.iconst (-1), 1) := by decide +kernel
theorem dX9_is_17 : decode cX9_is 17 = .ok (.goto 17, 3) := by decide +kernel
theorem dX9_is_20 : decode cX9_is 20 = .ok (.aload_n 0, 1) := by decide +kernel
theorem dX9_is_21 : decode cX9_is 21 = .ok (.iload_n 1, 1) := by decide +kernel
theorem dX9_is_22 : decode cX9_is 22 = .ok (.iload_n 2, 1) := by decide +kernel
theorem dX9_is_23 : decode cX9_is 23 = .ok (.invokevirtual 106, 3) := by decide +kernel
theorem dX9_is_26 : decode cX9_is 26 = .ok (.ifCond .eq 7, 3) := by decide +kernel
theorem dX9_is_29 : decode cX9_is 29 = .ok (.iconst 1, 1) := by decide +kernel
theorem dX9_is_30 : decode cX9_is 30 = .ok (.goto 4, 3) := by decide +kernel
theorem dX9_is_33 : decode cX9_is 33 = .ok (.iconst 0, 1) := by decide +kernel
theorem dX9_is_34 : decode cX9_is 34 = .ok (.ireturn, 1) := by decide +kernel
theorem dX9_isObject_0 : decode cX9_isObject 0 = .ok (.iload_n 0, 1) := by decide +kernel
theorem dX9_isObject_1 : decode cX9_isObject 1 = .ok (.bipush 10, 2) := by decide +kernel
theorem dX9_isObject_3 : decode cX9_isObject 3 = .ok (.if_icmp .lt 13, 3) := by decide +kernel
theorem dX9_isObject_6 : decode cX9_isObject 6 = .ok (.iload_n 0, 1) := by decide +kernel
theorem dX9_isObject_7 : decode cX9_isObject 7 = .ok (.bipush 100, 2) := by decide +kernel
theorem dX9_isObject_9 : decode cX9_isObject 9 = .ok (.if_icmp .ge 7, 3) := by decide +kernel
theorem dX9_isObject_12 : decode cX9_isObject 12 = .ok (.iconst 1, 1) := by decide +kernel
theorem dX9_isObject_13 : decode cX9_isObject 13 = .ok (.goto 4, 3) := by decide +kernel
theorem dX9_isObject_16 : decode cX9_isObject 16 = .ok (.iconst 0, 1) := by decide +kernel
theorem dX9_isObject_17 : decode cX9_isObject 17 = .ok (.ireturn, 1) := by decide +kernel
theorem dX9_isUnmade_0 : decode cX9_isUnmade 0 = .ok (.iload_n 0, 1) := by decide +kernel
theorem dX9_isUnmade_1 : decode cX9_isUnmade 1 = .ok (.bipush 100, 2) := by decide +kernel
theorem dX9_isUnmade_3 : decode cX9_isUnmade 3 = .ok (.if_icmp .lt 7, 3) := by decide +kernel
theorem dX9_isUnmade_6 : decode cX9_isUnmade 6 = .ok (.iconst 1, 1) := by decide +kernel
theorem dX9_isUnmade_7 : decode cX9_isUnmade 7 = .ok (.goto 4, 3) := by decide +kernel
theorem dX9_isUnmade_10 : decode cX9_isUnmade 10 = .ok (.iconst 0, 1) := by decide +kernel
theorem dX9_isUnmade_11 : decode cX9_isUnmade 11 = .ok (.ireturn, 1) := by decide +kernel
theorem dX9_joinTypes_0 : decode cX9_joinTypes 0 = .ok (.iload_n 1, 1) := by decide +kernel
theorem dX9_joinTypes_1 : decode cX9_joinTypes 1 = .ok (.iload_n 2, 1) := by decide +kernel
theorem dX9_joinTypes_2 : decode cX9_joinTypes 2 = .ok (.if_icmp .ne 5, 3) := by decide +kernel
theorem dX9_joinTypes_5 : decode cX9_joinTypes 5 = .ok (.iload_n 1, 1) := by decide +kernel
theorem dX9_joinTypes_6 : decode cX9_joinTypes 6 = .ok (.ireturn, 1) := by decide +kernel
theorem dX9_joinTypes_7 : decode cX9_joinTypes 7 = .ok (.iload_n 1, 1) := by decide +kernel
theorem dX9_joinTypes_8 : decode cX9_joinTypes 8 = .ok (.invokestatic 109, 3) := by decide +kernel
theorem dX9_joinTypes_11 : decode cX9_joinTypes 11 = .ok (.ifCond .eq 26, 3) := by decide +kernel
theorem dX9_joinTypes_14 : decode cX9_joinTypes 14 = .ok (.iload_n 2, 1) := by decide +kernel
theorem dX9_joinTypes_15 : decode cX9_joinTypes 15 = .ok (.invokestatic 109, 3) := by decide +kernel
theorem dX9_joinTypes_18 : decode cX9_joinTypes 18 = .ok (.ifCond .eq 19, 3) := by decide +kernel
theorem dX9_joinTypes_21 : decode cX9_joinTypes 21 = .ok (.bipush 10, 2) := by decide +kernel
theorem dX9_joinTypes_23 : decode cX9_joinTypes 23 = .ok (.aload_n 0, 1) := by decide +kernel
theorem dX9_joinTypes_24 : decode cX9_joinTypes 24 = .ok (.iload_n 1, 1) := by decide +kernel
theorem dX9_joinTypes_25 : decode cX9_joinTypes 25 = .ok (.bipush 10, 2) := by decide +kernel
theorem dX9_joinTypes_27 : decode cX9_joinTypes 27 = .ok (.isub, 1) := by decide +kernel
theorem dX9_joinTypes_28 : decode cX9_joinTypes 28 = .ok (.iload_n 2, 1) := by decide +kernel
theorem dX9_joinTypes_29 : decode cX9_joinTypes 29 = .ok (.bipush 10, 2) := by decide +kernel
theorem dX9_joinTypes_31 : decode cX9_joinTypes 31 = .ok (.isub, 1) := by decide +kernel
theorem dX9_joinTypes_32 : decode cX9_joinTypes 32 = .ok (.invokevirtual 102, 3) := by decide +kernel
theorem dX9_joinTypes_35 : decode cX9_joinTypes 35 = .ok (.iadd, 1) := by decide +kernel
theorem dX9_joinTypes_36 : decode cX9_joinTypes 36 = .ok (.ireturn, 1) := by decide +kernel
theorem dX9_joinTypes_37 : decode cX9_joinTypes 37 = .ok (.iload_n 1, 1) := by decide +kernel
theorem dX9_joinTypes_38 : decode cX9_joinTypes 38 = .ok (.iconst 4, 1) := by decide +kernel
theorem dX9_joinTypes_39 : decode cX9_joinTypes 39 = .ok (.if_icmp .ne 14, 3) := by decide +kernel
theorem dX9_joinTypes_42 : decode cX9_joinTypes 42 = .ok (.iload_n 2, 1) := by decide +kernel
theorem dX9_joinTypes_43 : decode cX9_joinTypes 43 = .ok (.invokestatic 109, 3) := by decide +kernel
theorem dX9_joinTypes_46 : decode cX9_joinTypes 46 = .ok (.ifCond .eq 7, 3) := by decide +kernel
theorem dX9_joinTypes_49 : decode cX9_joinTypes 49 = .ok (.iload_n 2, 1) := by decide +kernel
theorem dX9_joinTypes_50 : decode cX9_joinTypes 50 = .ok (.goto 20, 3) := by decide +kernel
theorem dX9_joinTypes_53 : decode cX9_joinTypes 53 = .ok (.iload_n 2, 1) := by decide +kernel
theorem dX9_joinTypes_54 : decode cX9_joinTypes 54 = .ok (.iconst 4, 1) := by decide +kernel
theorem dX9_joinTypes_55 : decode cX9_joinTypes 55 = .ok (.if_icmp .ne 14, 3) := by decide +kernel
theorem dX9_joinTypes_58 : decode cX9_joinTypes 58 = .ok (.iload_n 1, 1) := by decide +kernel
theorem dX9_joinTypes_59 : decode cX9_joinTypes 59 = .ok (.invokestatic 109, 3) := by decide +kernel
theorem dX9_joinTypes_62 : decode cX9_joinTypes 62 = .ok (.ifCond .eq 7, 3) := by decide +kernel
theorem dX9_joinTypes_65 : decode cX9_joinTypes 65 = .ok (.iload_n 1, 1) := by decide +kernel
theorem dX9_joinTypes_66 : decode cX9_joinTypes 66 = .ok (.goto 4, 3) := by decide +kernel
theorem dX9_joinTypes_69 : decode cX9_joinTypes 69 = .ok (.iconst 0, 1) := by decide +kernel
theorem dX9_joinTypes_70 : decode cX9_joinTypes 70 = .ok (.ireturn, 1) := by decide +kernel
theorem dX9_fits_0 : decode cX9_fits 0 = .ok (.iload_n 1, 1) := by decide +kernel
theorem dX9_fits_1 : decode cX9_fits 1 = .ok (.iload_n 2, 1) := by decide +kernel
theorem dX9_fits_2 : decode cX9_fits 2 = .ok (.if_icmp .eq 41, 3) := by decide +kernel
theorem dX9_fits_5 : decode cX9_fits 5 = .ok (.iload_n 2, 1) := by decide +kernel
theorem dX9_fits_6 : decode cX9_fits 6 = .ok (.ifCond .eq 37, 3) := by decide +kernel
theorem dX9_fits_9 : decode cX9_fits 9 = .ok (.iload_n 2, 1) := by decide +kernel
theorem dX9_fits_10 : decode cX9_fits 10 = .ok (.invokestatic 109, 3) := by decide +kernel
theorem dX9_fits_13 : decode cX9_fits 13 = .ok (.ifCond .eq 34, 3) := by decide +kernel
theorem dX9_fits_16 : decode cX9_fits 16 = .ok (.iload_n 1, 1) := by decide +kernel
theorem dX9_fits_17 : decode cX9_fits 17 = .ok (.iconst 4, 1) := by decide +kernel
theorem dX9_fits_18 : decode cX9_fits 18 = .ok (.if_icmp .eq 25, 3) := by decide +kernel
theorem dX9_fits_21 : decode cX9_fits 21 = .ok (.iload_n 1, 1) := by decide +kernel
theorem dX9_fits_22 : decode cX9_fits 22 = .ok (.invokestatic 109, 3) := by decide +kernel
theorem dX9_fits_25 : decode cX9_fits 25 = .ok (.ifCond .eq 22, 3) := by decide +kernel
theorem dX9_fits_28 : decode cX9_fits 28 = .ok (.aload_n 0, 1) := by decide +kernel
theorem dX9_fits_29 : decode cX9_fits 29 = .ok (.iload_n 1, 1) := by decide +kernel
theorem dX9_fits_30 : decode cX9_fits 30 = .ok (.bipush 10, 2) := by decide +kernel
theorem dX9_fits_32 : decode cX9_fits 32 = .ok (.isub, 1) := by decide +kernel
theorem dX9_fits_33 : decode cX9_fits 33 = .ok (.iload_n 2, 1) := by decide +kernel
theorem dX9_fits_34 : decode cX9_fits 34 = .ok (.bipush 10, 2) := by decide +kernel
theorem dX9_fits_36 : decode cX9_fits 36 = .ok (.isub, 1) := by decide +kernel
theorem dX9_fits_37 : decode cX9_fits 37 = .ok (.invokevirtual 106, 3) := by decide +kernel
theorem dX9_fits_40 : decode cX9_fits 40 = .ok (.ifCond .eq 7, 3) := by decide +kernel
theorem dX9_fits_43 : decode cX9_fits 43 = .ok (.iconst 1, 1) := by decide +kernel
theorem dX9_fits_44 : decode cX9_fits 44 = .ok (.goto 4, 3) := by decide +kernel
theorem dX9_fits_47 : decode cX9_fits 47 = .ok (.iconst 0, 1) := by decide +kernel
theorem dX9_fits_48 : decode cX9_fits 48 = .ok (.ireturn, 1) := by decide +kernel
theorem dX9_clear_0 : decode cX9_clear 0 = .ok (.iload_n 1, 1) := by decide +kernel
theorem dX9_clear_1 : decode cX9_clear 1 = .ok (.invokestatic 112, 3) := by decide +kernel
theorem dX9_clear_4 : decode cX9_clear 4 = .ok (.ifCond .eq 13, 3) := by decide +kernel
theorem dX9_clear_7 : decode cX9_clear 7 = .ok (.iload_n 2, 1) := by decide +kernel
theorem dX9_clear_8 : decode cX9_clear 8 = .ok (.iconst 1, 1) := by decide +kernel
theorem dX9_clear_9 : decode cX9_clear 9 = .ok (.bipush 8, 2) := by decide +kernel
theorem dX9_clear_11 : decode cX9_clear 11 = .ok (.invokestatic 90, 3) := by decide +kernel
theorem dX9_clear_14 : decode cX9_clear 14 = .ok (.ifCond .ne 5, 3) := by decide +kernel
theorem dX9_clear_17 : decode cX9_clear 17 = .ok (.iconst (-1), 1) := by decide +kernel
theorem dX9_clear_18 : decode cX9_clear 18 = .ok (.ireturn, 1) := by decide +kernel
theorem dX9_clear_19 : decode cX9_clear 19 = .ok (.aload_n 0, 1) := by decide +kernel
theorem dX9_clear_20 : decode cX9_clear 20 = .ok (.getfield 30, 3) := by decide +kernel
theorem dX9_clear_23 : decode cX9_clear 23 = .ok (.iload_n 1, 1) := by decide +kernel
theorem dX9_clear_24 : decode cX9_clear 24 = .ok (.iaload, 1) := by decide +kernel
theorem dX9_clear_25 : decode cX9_clear 25 = .ok (.istore_n 3, 1) := by decide +kernel
theorem dX9_clear_26 : decode cX9_clear 26 = .ok (.aload_n 0, 1) := by decide +kernel
theorem dX9_clear_27 : decode cX9_clear 27 = .ok (.getfield 21, 3) := by decide +kernel
theorem dX9_clear_30 : decode cX9_clear 30 = .ok (.iload_n 1, 1) := by decide +kernel
theorem dX9_clear_31 : decode cX9_clear 31 = .ok (.iload_n 2, 1) := by decide +kernel
theorem dX9_clear_32 : decode cX9_clear 32 = .ok (.iastore, 1) := by decide +kernel
theorem dX9_clear_33 : decode cX9_clear 33 = .ok (.aload_n 0, 1) := by decide +kernel
theorem dX9_clear_34 : decode cX9_clear 34 = .ok (.getfield 24, 3) := by decide +kernel
theorem dX9_clear_37 : decode cX9_clear 37 = .ok (.iload_n 1, 1) := by decide +kernel
theorem dX9_clear_38 : decode cX9_clear 38 = .ok (.iconst 0, 1) := by decide +kernel
theorem dX9_clear_39 : decode cX9_clear 39 = .ok (.iastore, 1) := by decide +kernel
theorem dX9_clear_40 : decode cX9_clear 40 = .ok (.aload_n 0, 1) := by decide +kernel
theorem dX9_clear_41 : decode cX9_clear 41 = .ok (.getfield 30, 3) := by decide +kernel
theorem dX9_clear_44 : decode cX9_clear 44 = .ok (.iload_n 1, 1) := by decide +kernel
theorem dX9_clear_45 : decode cX9_clear 45 = .ok (.iconst 0, 1) := by decide +kernel
theorem dX9_clear_46 : decode cX9_clear 46 = .ok (.iastore, 1) := by decide +kernel
theorem dX9_clear_47 : decode cX9_clear 47 = .ok (.aload_n 0, 1) := by decide +kernel
theorem dX9_clear_48 : decode cX9_clear 48 = .ok (.getfield 42, 3) := by decide +kernel
theorem dX9_clear_51 : decode cX9_clear 51 = .ok (.iload_n 1, 1) := by decide +kernel
theorem dX9_clear_52 : decode cX9_clear 52 = .ok (.iconst 0, 1) := by decide +kernel
theorem dX9_clear_53 : decode cX9_clear 53 = .ok (.iastore, 1) := by decide +kernel
theorem dX9_clear_54 : decode cX9_clear 54 = .ok (.aload_n 0, 1) := by decide +kernel
theorem dX9_clear_55 : decode cX9_clear 55 = .ok (.getfield 57, 3) := by decide +kernel
theorem dX9_clear_58 : decode cX9_clear 58 = .ok (.iload_n 1, 1) := by decide +kernel
theorem dX9_clear_59 : decode cX9_clear 59 = .ok (.iconst 0, 1) := by decide +kernel
theorem dX9_clear_60 : decode cX9_clear 60 = .ok (.bastore, 1) := by decide +kernel
theorem dX9_clear_61 : decode cX9_clear 61 = .ok (.iload_n 3, 1) := by decide +kernel
theorem dX9_clear_62 : decode cX9_clear 62 = .ok (.ireturn, 1) := by decide +kernel
theorem dX9_argument_0 : decode cX9_argument 0 = .ok (.iload_n 2, 1) := by decide +kernel
theorem dX9_argument_1 : decode cX9_argument 1 = .ok (.iconst 1, 1) := by decide +kernel
theorem dX9_argument_2 : decode cX9_argument 2 = .ok (.if_icmp .eq 26, 3) := by decide +kernel
theorem dX9_argument_5 : decode cX9_argument 5 = .ok (.iload_n 2, 1) := by decide +kernel
theorem dX9_argument_6 : decode cX9_argument 6 = .ok (.iconst 2, 1) := by decide +kernel
theorem dX9_argument_7 : decode cX9_argument 7 = .ok (.if_icmp .eq 21, 3) := by decide +kernel
theorem dX9_argument_10 : decode cX9_argument 10 = .ok (.iload_n 2, 1) := by decide +kernel
theorem dX9_argument_11 : decode cX9_argument 11 = .ok (.invokestatic 109, 3) := by decide +kernel
theorem dX9_argument_14 : decode cX9_argument 14 = .ok (.ifCond .eq 18, 3) := by decide +kernel
theorem dX9_argument_17 : decode cX9_argument 17 = .ok (.aload_n 0, 1) := by decide +kernel
theorem dX9_argument_18 : decode cX9_argument 18 = .ok (.iload_n 2, 1) := by decide +kernel
theorem dX9_argument_19 : decode cX9_argument 19 = .ok (.bipush 10, 2) := by decide +kernel
theorem dX9_argument_21 : decode cX9_argument 21 = .ok (.isub, 1) := by decide +kernel
theorem dX9_argument_22 : decode cX9_argument 22 = .ok (.invokevirtual 94, 3) := by decide +kernel
theorem dX9_argument_25 : decode cX9_argument 25 = .ok (.ifCond .eq 7, 3) := by decide +kernel
theorem dX9_argument_28 : decode cX9_argument 28 = .ok (.iconst 1, 1) := by decide +kernel
theorem dX9_argument_29 : decode cX9_argument 29 = .ok (.goto 4, 3) := by decide +kernel
theorem dX9_argument_32 : decode cX9_argument 32 = .ok (.iconst 0, 1) := by decide +kernel
theorem dX9_argument_33 : decode cX9_argument 33 = .ok (.istore_n 3, 1) := by decide +kernel
theorem dX9_argument_34 : decode cX9_argument 34 = .ok (.iload_n 1, 1) := by decide +kernel
theorem dX9_argument_35 : decode cX9_argument 35 = .ok (.invokestatic 112, 3) := by decide +kernel
theorem dX9_argument_38 : decode cX9_argument 38 = .ok (.ifCond .eq 7, 3) := by decide +kernel
theorem dX9_argument_41 : decode cX9_argument 41 = .ok (.iload_n 3, 1) := by decide +kernel
theorem dX9_argument_42 : decode cX9_argument 42 = .ok (.ifCond .ne 5, 3) := by decide +kernel
theorem dX9_argument_45 : decode cX9_argument 45 = .ok (.iconst (-1), 1) := by decide +kernel
theorem dX9_argument_46 : decode cX9_argument 46 = .ok (.ireturn, 1) := by decide +kernel
theorem dX9_argument_47 : decode cX9_argument 47 = .ok (.iload_n 2, 1) := by decide +kernel
theorem dX9_argument_48 : decode cX9_argument 48 = .ok (.iconst 2, 1) := by decide +kernel
theorem dX9_argument_49 : decode cX9_argument 49 = .ok (.if_icmp .ne 7, 3) := by decide +kernel
theorem dX9_argument_52 : decode cX9_argument 52 = .ok (.iconst 2, 1) := by decide +kernel
theorem dX9_argument_53 : decode cX9_argument 53 = .ok (.goto 4, 3) := by decide +kernel
theorem dX9_argument_56 : decode cX9_argument 56 = .ok (.iconst 1, 1) := by decide +kernel
theorem dX9_argument_57 : decode cX9_argument 57 = .ok (.istore 4, 2) := by decide +kernel
theorem dX9_argument_59 : decode cX9_argument 59 = .ok (.aload_n 0, 1) := by decide +kernel
theorem dX9_argument_60 : decode cX9_argument 60 = .ok (.getfield 24, 3) := by decide +kernel
theorem dX9_argument_63 : decode cX9_argument 63 = .ok (.iload_n 1, 1) := by decide +kernel
theorem dX9_argument_64 : decode cX9_argument 64 = .ok (.iaload, 1) := by decide +kernel
theorem dX9_argument_65 : decode cX9_argument 65 = .ok (.iload 4, 2) := by decide +kernel
theorem dX9_argument_67 : decode cX9_argument 67 = .ok (.iadd, 1) := by decide +kernel
theorem dX9_argument_68 : decode cX9_argument 68 = .ok (.aload_n 0, 1) := by decide +kernel
theorem dX9_argument_69 : decode cX9_argument 69 = .ok (.getfield 21, 3) := by decide +kernel
theorem dX9_argument_72 : decode cX9_argument 72 = .ok (.iload_n 1, 1) := by decide +kernel
theorem dX9_argument_73 : decode cX9_argument 73 = .ok (.iaload, 1) := by decide +kernel
theorem dX9_argument_74 : decode cX9_argument 74 = .ok (.if_icmp .le 6, 3) := by decide +kernel
theorem dX9_argument_77 : decode cX9_argument 77 = .ok (.bipush (-2), 2) := by decide +kernel
theorem dX9_argument_79 : decode cX9_argument 79 = .ok (.ireturn, 1) := by decide +kernel
theorem dX9_argument_80 : decode cX9_argument 80 = .ok (.aload_n 0, 1) := by decide +kernel
theorem dX9_argument_81 : decode cX9_argument 81 = .ok (.getfield 24, 3) := by decide +kernel
theorem dX9_argument_84 : decode cX9_argument 84 = .ok (.iload_n 1, 1) := by decide +kernel
theorem dX9_argument_85 : decode cX9_argument 85 = .ok (.iaload, 1) := by decide +kernel
theorem dX9_argument_86 : decode cX9_argument 86 = .ok (.istore 5, 2) := by decide +kernel
theorem dX9_argument_88 : decode cX9_argument 88 = .ok (.aload_n 0, 1) := by decide +kernel
theorem dX9_argument_89 : decode cX9_argument 89 = .ok (.getfield 27, 3) := by decide +kernel
theorem dX9_argument_92 : decode cX9_argument 92 = .ok (.bipush 8, 2) := by decide +kernel
theorem dX9_argument_94 : decode cX9_argument 94 = .ok (.iload_n 1, 1) := by decide +kernel
theorem dX9_argument_95 : decode cX9_argument 95 = .ok (.imul, 1) := by decide +kernel
theorem dX9_argument_96 : decode cX9_argument 96 = .ok (.iload 5, 2) := by decide +kernel
theorem dX9_argument_98 : decode cX9_argument 98 = .ok (.iadd, 1) := by decide +kernel
theorem dX9_argument_99 : decode cX9_argument 99 = .ok (.iload_n 2, 1) := by decide +kernel
theorem dX9_argument_100 : decode cX9_argument 100 = .ok (.iastore, 1) := by decide +kernel
theorem dX9_argument_101 : decode cX9_argument 101 = .ok (.iload 4, 2) := by decide +kernel
theorem dX9_argument_103 : decode cX9_argument 103 = .ok (.iconst 2, 1) := by decide +kernel
theorem dX9_argument_104 : decode cX9_argument 104 = .ok (.if_icmp .ne 18, 3) := by decide +kernel
theorem dX9_argument_107 : decode cX9_argument 107 = .ok (.aload_n 0, 1) := by decide +kernel
theorem dX9_argument_108 : decode cX9_argument 108 = .ok (.getfield 27, 3) := by decide +kernel
theorem dX9_argument_111 : decode cX9_argument 111 = .ok (.bipush 8, 2) := by decide +kernel
theorem dX9_argument_113 : decode cX9_argument 113 = .ok (.iload_n 1, 1) := by decide +kernel
theorem dX9_argument_114 : decode cX9_argument 114 = .ok (.imul, 1) := by decide +kernel
theorem dX9_argument_115 : decode cX9_argument 115 = .ok (.iload 5, 2) := by decide +kernel
theorem dX9_argument_117 : decode cX9_argument 117 = .ok (.iadd, 1) := by decide +kernel
theorem dX9_argument_118 : decode cX9_argument 118 = .ok (.iconst 1, 1) := by decide +kernel
theorem dX9_argument_119 : decode cX9_argument 119 = .ok (.iadd, 1) := by decide +kernel
theorem dX9_argument_120 : decode cX9_argument 120 = .ok (.iconst 3, 1) := by decide +kernel
theorem dX9_argument_121 : decode cX9_argument 121 = .ok (.iastore, 1) := by decide +kernel
theorem dX9_argument_122 : decode cX9_argument 122 = .ok (.aload_n 0, 1) := by decide +kernel
theorem dX9_argument_123 : decode cX9_argument 123 = .ok (.getfield 24, 3) := by decide +kernel
theorem dX9_argument_126 : decode cX9_argument 126 = .ok (.iload_n 1, 1) := by decide +kernel
theorem dX9_argument_127 : decode cX9_argument 127 = .ok (.dup2, 1) := by decide +kernel
theorem dX9_argument_128 : decode cX9_argument 128 = .ok (.iaload, 1) := by decide +kernel
theorem dX9_argument_129 : decode cX9_argument 129 = .ok (.iload 4, 2) := by decide +kernel
theorem dX9_argument_131 : decode cX9_argument 131 = .ok (.iadd, 1) := by decide +kernel
theorem dX9_argument_132 : decode cX9_argument 132 = .ok (.iastore, 1) := by decide +kernel
theorem dX9_argument_133 : decode cX9_argument 133 = .ok (.aload_n 0, 1) := by decide +kernel
theorem dX9_argument_134 : decode cX9_argument 134 = .ok (.getfield 57, 3) := by decide +kernel
theorem dX9_argument_137 : decode cX9_argument 137 = .ok (.iload_n 1, 1) := by decide +kernel
theorem dX9_argument_138 : decode cX9_argument 138 = .ok (.iconst 0, 1) := by decide +kernel
theorem dX9_argument_139 : decode cX9_argument 139 = .ok (.bastore, 1) := by decide +kernel
theorem dX9_argument_140 : decode cX9_argument 140 = .ok (.iload 5, 2) := by decide +kernel
theorem dX9_argument_142 : decode cX9_argument 142 = .ok (.ireturn, 1) := by decide +kernel
theorem dX9_act_0 : decode cX9_act 0 = .ok (.iload_n 1, 1) := by decide +kernel
theorem dX9_act_1 : decode cX9_act 1 = .ok (.invokestatic 112, 3) := by decide +kernel
theorem dX9_act_4 : decode cX9_act 4 = .ok (.ifCond .eq 13, 3) := by decide +kernel
theorem dX9_act_7 : decode cX9_act 7 = .ok (.iload_n 2, 1) := by decide +kernel
theorem dX9_act_8 : decode cX9_act 8 = .ok (.iconst 0, 1) := by decide +kernel
theorem dX9_act_9 : decode cX9_act 9 = .ok (.bipush 20, 2) := by decide +kernel
theorem dX9_act_11 : decode cX9_act 11 = .ok (.invokestatic 90, 3) := by decide +kernel
theorem dX9_act_14 : decode cX9_act 14 = .ok (.ifCond .ne 5, 3) := by decide +kernel
theorem dX9_act_17 : decode cX9_act 17 = .ok (.iconst (-1), 1) := by decide +kernel
theorem dX9_act_18 : decode cX9_act 18 = .ok (.ireturn, 1) := by decide +kernel
theorem dX9_act_19 : decode cX9_act 19 = .ok (.iload_n 2, 1) := by decide +kernel
theorem dX9_act_20 : decode cX9_act 20 = .ok (.iconst 3, 1) := by decide +kernel
theorem dX9_act_21 : decode cX9_act 21 = .ok (.if_icmp .eq 14, 3) := by decide +kernel
theorem dX9_act_24 : decode cX9_act 24 = .ok (.iload_n 2, 1) := by decide +kernel
theorem dX9_act_25 : decode cX9_act 25 = .ok (.iconst 4, 1) := by decide +kernel
theorem dX9_act_26 : decode cX9_act 26 = .ok (.if_icmp .eq 9, 3) := by decide +kernel
theorem dX9_act_29 : decode cX9_act 29 = .ok (.iload_n 2, 1) := by decide +kernel
theorem dX9_act_30 : decode cX9_act 30 = .ok (.bipush 20, 2) := by decide +kernel
theorem dX9_act_32 : decode cX9_act 32 = .ok (.if_icmp .ne 7, 3) := by decide +kernel
theorem dX9_act_35 : decode cX9_act 35 = .ok (.iconst 1, 1) := by decide +kernel
theorem dX9_act_36 : decode cX9_act 36 = .ok (.goto 4, 3) := by decide +kernel
theorem dX9_act_39 : decode cX9_act 39 = .ok (.iconst 0, 1) := by decide +kernel
theorem dX9_act_40 : decode cX9_act 40 = .ok (.istore 5, 2) := by decide +kernel
theorem dX9_act_42 : decode cX9_act 42 = .ok (.iload_n 2, 1) := by decide +kernel
theorem dX9_act_43 : decode cX9_act 43 = .ok (.bipush 9, 2) := by decide +kernel
theorem dX9_act_45 : decode cX9_act 45 = .ok (.bipush 13, 2) := by decide +kernel
theorem dX9_act_47 : decode cX9_act 47 = .ok (.invokestatic 90, 3) := by decide +kernel
theorem dX9_act_50 : decode cX9_act 50 = .ok (.ifCond .ne 15, 3) := by decide +kernel
theorem dX9_act_53 : decode cX9_act 53 = .ok (.iload_n 2, 1) := by decide +kernel
theorem dX9_act_54 : decode cX9_act 54 = .ok (.bipush 18, 2) := by decide +kernel
theorem dX9_act_56 : decode cX9_act 56 = .ok (.if_icmp .eq 9, 3) := by decide +kernel
theorem dX9_act_59 : decode cX9_act 59 = .ok (.iload_n 2, 1) := by decide +kernel
theorem dX9_act_60 : decode cX9_act 60 = .ok (.bipush 19, 2) := by decide +kernel
theorem dX9_act_62 : decode cX9_act 62 = .ok (.if_icmp .ne 7, 3) := by decide +kernel
theorem dX9_act_65 : decode cX9_act 65 = .ok (.iconst 1, 1) := by decide +kernel
theorem dX9_act_66 : decode cX9_act 66 = .ok (.goto 4, 3) := by decide +kernel
theorem dX9_act_69 : decode cX9_act 69 = .ok (.iconst 0, 1) := by decide +kernel
theorem dX9_act_70 : decode cX9_act 70 = .ok (.istore 6, 2) := by decide +kernel
theorem dX9_act_72 : decode cX9_act 72 = .ok (.iload_n 2, 1) := by decide +kernel
theorem dX9_act_73 : decode cX9_act 73 = .ok (.bipush 14, 2) := by decide +kernel
theorem dX9_act_75 : decode cX9_act 75 = .ok (.bipush 16, 2) := by decide +kernel
theorem dX9_act_77 : decode cX9_act 77 = .ok (.invokestatic 90, 3) := by decide +kernel
theorem dX9_act_80 : decode cX9_act 80 = .ok (.istore 7, 2) := by decide +kernel
theorem dX9_act_82 : decode cX9_act 82 = .ok (.iload 5, 2) := by decide +kernel
theorem dX9_act_84 : decode cX9_act 84 = .ok (.ifCond .eq 13, 3) := by decide +kernel
theorem dX9_act_87 : decode cX9_act 87 = .ok (.iload_n 3, 1) := by decide +kernel
theorem dX9_act_88 : decode cX9_act 88 = .ok (.iconst 0, 1) := by decide +kernel
theorem dX9_act_89 : decode cX9_act 89 = .ok (.bipush 7, 2) := by decide +kernel
theorem dX9_act_91 : decode cX9_act 91 = .ok (.invokestatic 90, 3) := by decide +kernel
theorem dX9_act_94 : decode cX9_act 94 = .ok (.ifCond .eq 48, 3) := by decide +kernel
theorem dX9_act_97 : decode cX9_act 97 = .ok (.iload 6, 2) := by decide +kernel
theorem dX9_act_99 : decode cX9_act 99 = .ok (.ifCond .eq 11, 3) := by decide +kernel
theorem dX9_act_102 : decode cX9_act 102 = .ok (.aload_n 0, 1) := by decide +kernel
theorem dX9_act_103 : decode cX9_act 103 = .ok (.iload_n 3, 1) := by decide +kernel
theorem dX9_act_104 : decode cX9_act 104 = .ok (.invokevirtual 94, 3) := by decide +kernel
theorem dX9_act_107 : decode cX9_act 107 = .ok (.ifCond .eq 35, 3) := by decide +kernel
theorem dX9_act_110 : decode cX9_act 110 = .ok (.iload 7, 2) := by decide +kernel
theorem dX9_act_112 : decode cX9_act 112 = .ok (.ifCond .eq 13, 3) := by decide +kernel
theorem dX9_act_115 : decode cX9_act 115 = .ok (.iload_n 3, 1) := by decide +kernel
theorem dX9_act_116 : decode cX9_act 116 = .ok (.iconst 0, 1) := by decide +kernel
theorem dX9_act_117 : decode cX9_act 117 = .ok (.bipush 39, 2) := by decide +kernel
theorem dX9_act_119 : decode cX9_act 119 = .ok (.invokestatic 90, 3) := by decide +kernel
theorem dX9_act_122 : decode cX9_act 122 = .ok (.ifCond .eq 20, 3) := by decide +kernel
theorem dX9_act_125 : decode cX9_act 125 = .ok (.iload_n 2, 1) := by decide +kernel
theorem dX9_act_126 : decode cX9_act 126 = .ok (.bipush 16, 2) := by decide +kernel
theorem dX9_act_128 : decode cX9_act 128 = .ok (.if_icmp .ne 16, 3) := by decide +kernel
theorem dX9_act_131 : decode cX9_act 131 = .ok (.iload 4, 2) := by decide +kernel
theorem dX9_act_133 : decode cX9_act 133 = .ok (.iload_n 3, 1) := by decide +kernel
theorem dX9_act_134 : decode cX9_act 134 = .ok (.bipush 39, 2) := by decide +kernel
theorem dX9_act_136 : decode cX9_act 136 = .ok (.invokestatic 90, 3) := by decide +kernel
theorem dX9_act_139 : decode cX9_act 139 = .ok (.ifCond .ne 5, 3) := by decide +kernel
theorem dX9_act_142 : decode cX9_act 142 = .ok (.iconst (-1), 1) := by decide +kernel
theorem dX9_act_143 : decode cX9_act 143 = .ok (.ireturn, 1) := by decide +kernel
theorem dX9_act_144 : decode cX9_act 144 = .ok (.aload_n 0, 1) := by decide +kernel
theorem dX9_act_145 : decode cX9_act 145 = .ok (.getfield 30, 3) := by decide +kernel
theorem dX9_act_148 : decode cX9_act 148 = .ok (.iload_n 1, 1) := by decide +kernel
theorem dX9_act_149 : decode cX9_act 149 = .ok (.iaload, 1) := by decide +kernel
theorem dX9_act_150 : decode cX9_act 150 = .ok (.bipush 40, 2) := by decide +kernel
theorem dX9_act_152 : decode cX9_act 152 = .ok (.if_icmp .ne 6, 3) := by decide +kernel
theorem dX9_act_155 : decode cX9_act 155 = .ok (.bipush (-2), 2) := by decide +kernel
theorem dX9_act_157 : decode cX9_act 157 = .ok (.ireturn, 1) := by decide +kernel
theorem dX9_act_158 : decode cX9_act 158 = .ok (.bipush 40, 2) := by decide +kernel
theorem dX9_act_160 : decode cX9_act 160 = .ok (.iload_n 1, 1) := by decide +kernel
theorem dX9_act_161 : decode cX9_act 161 = .ok (.imul, 1) := by decide +kernel
theorem dX9_act_162 : decode cX9_act 162 = .ok (.aload_n 0, 1) := by decide +kernel
theorem dX9_act_163 : decode cX9_act 163 = .ok (.getfield 30, 3) := by decide +kernel
theorem dX9_act_166 : decode cX9_act 166 = .ok (.iload_n 1, 1) := by decide +kernel
theorem dX9_act_167 : decode cX9_act 167 = .ok (.iaload, 1) := by decide +kernel
theorem dX9_act_168 : decode cX9_act 168 = .ok (.iadd, 1) := by decide +kernel
theorem dX9_act_169 : decode cX9_act 169 = .ok (.istore 8, 2) := by decide +kernel
theorem dX9_act_171 : decode cX9_act 171 = .ok (.aload_n 0, 1) := by decide +kernel
theorem dX9_act_172 : decode cX9_act 172 = .ok (.getfield 33, 3) := by decide +kernel
theorem dX9_act_175 : decode cX9_act 175 = .ok (.iload 8, 2) := by decide +kernel
theorem dX9_act_177 : decode cX9_act 177 = .ok (.iload_n 2, 1) := by decide +kernel
theorem dX9_act_178 : decode cX9_act 178 = .ok (.iastore, 1) := by decide +kernel
theorem dX9_act_179 : decode cX9_act 179 = .ok (.aload_n 0, 1) := by decide +kernel
theorem dX9_act_180 : decode cX9_act 180 = .ok (.getfield 36, 3) := by decide +kernel
theorem dX9_act_183 : decode cX9_act 183 = .ok (.iload 8, 2) := by decide +kernel
theorem dX9_act_185 : decode cX9_act 185 = .ok (.iload_n 3, 1) := by decide +kernel
theorem dX9_act_186 : decode cX9_act 186 = .ok (.iastore, 1) := by decide +kernel
theorem dX9_act_187 : decode cX9_act 187 = .ok (.aload_n 0, 1) := by decide +kernel
theorem dX9_act_188 : decode cX9_act 188 = .ok (.getfield 39, 3) := by decide +kernel
theorem dX9_act_191 : decode cX9_act 191 = .ok (.iload 8, 2) := by decide +kernel
theorem dX9_act_193 : decode cX9_act 193 = .ok (.iload_n 2, 1) := by decide +kernel
theorem dX9_act_194 : decode cX9_act 194 = .ok (.bipush 16, 2) := by decide +kernel
theorem dX9_act_196 : decode cX9_act 196 = .ok (.if_icmp .ne 8, 3) := by decide +kernel
theorem dX9_act_199 : decode cX9_act 199 = .ok (.iload 4, 2) := by decide +kernel
theorem dX9_act_201 : decode cX9_act 201 = .ok (.goto 4, 3) := by decide +kernel
theorem dX9_act_204 : decode cX9_act 204 = .ok (.iload_n 3, 1) := by decide +kernel
theorem dX9_act_205 : decode cX9_act 205 = .ok (.iastore, 1) := by decide +kernel
theorem dX9_act_206 : decode cX9_act 206 = .ok (.aload_n 0, 1) := by decide +kernel
theorem dX9_act_207 : decode cX9_act 207 = .ok (.getfield 30, 3) := by decide +kernel
theorem dX9_act_210 : decode cX9_act 210 = .ok (.iload_n 1, 1) := by decide +kernel
theorem dX9_act_211 : decode cX9_act 211 = .ok (.dup2, 1) := by decide +kernel
theorem dX9_act_212 : decode cX9_act 212 = .ok (.iaload, 1) := by decide +kernel
theorem dX9_act_213 : decode cX9_act 213 = .ok (.iconst 1, 1) := by decide +kernel
theorem dX9_act_214 : decode cX9_act 214 = .ok (.iadd, 1) := by decide +kernel
theorem dX9_act_215 : decode cX9_act 215 = .ok (.iastore, 1) := by decide +kernel
theorem dX9_act_216 : decode cX9_act 216 = .ok (.aload_n 0, 1) := by decide +kernel
theorem dX9_act_217 : decode cX9_act 217 = .ok (.getfield 57, 3) := by decide +kernel
theorem dX9_act_220 : decode cX9_act 220 = .ok (.iload_n 1, 1) := by decide +kernel
theorem dX9_act_221 : decode cX9_act 221 = .ok (.iconst 0, 1) := by decide +kernel
theorem dX9_act_222 : decode cX9_act 222 = .ok (.bastore, 1) := by decide +kernel
theorem dX9_act_223 : decode cX9_act 223 = .ok (.aload_n 0, 1) := by decide +kernel
theorem dX9_act_224 : decode cX9_act 224 = .ok (.getfield 30, 3) := by decide +kernel
theorem dX9_act_227 : decode cX9_act 227 = .ok (.iload_n 1, 1) := by decide +kernel
theorem dX9_act_228 : decode cX9_act 228 = .ok (.iaload, 1) := by decide +kernel
theorem dX9_act_229 : decode cX9_act 229 = .ok (.iconst 1, 1) := by decide +kernel
theorem dX9_act_230 : decode cX9_act 230 = .ok (.isub, 1) := by decide +kernel
theorem dX9_act_231 : decode cX9_act 231 = .ok (.ireturn, 1) := by decide +kernel
theorem dX9_guard_0 : decode cX9_guard 0 = .ok (.iload_n 1, 1) := by decide +kernel
theorem dX9_guard_1 : decode cX9_guard 1 = .ok (.invokestatic 112, 3) := by decide +kernel
theorem dX9_guard_4 : decode cX9_guard 4 = .ok (.ifCond .eq 48, 3) := by decide +kernel
theorem dX9_guard_7 : decode cX9_guard 7 = .ok (.iload_n 2, 1) := by decide +kernel
theorem dX9_guard_8 : decode cX9_guard 8 = .ok (.iconst 0, 1) := by decide +kernel
theorem dX9_guard_9 : decode cX9_guard 9 = .ok (.bipush 40, 2) := by decide +kernel
theorem dX9_guard_11 : decode cX9_guard 11 = .ok (.invokestatic 90, 3) := by decide +kernel
theorem dX9_guard_14 : decode cX9_guard 14 = .ok (.ifCond .eq 38, 3) := by decide +kernel
theorem dX9_guard_17 : decode cX9_guard 17 = .ok (.iload_n 3, 1) := by decide +kernel
theorem dX9_guard_18 : decode cX9_guard 18 = .ok (.iconst 0, 1) := by decide +kernel
theorem dX9_guard_19 : decode cX9_guard 19 = .ok (.bipush 40, 2) := by decide +kernel
theorem dX9_guard_21 : decode cX9_guard 21 = .ok (.invokestatic 90, 3) := by decide +kernel
theorem dX9_guard_24 : decode cX9_guard 24 = .ok (.ifCond .eq 28, 3) := by decide +kernel
theorem dX9_guard_27 : decode cX9_guard 27 = .ok (.iload_n 2, 1) := by decide +kernel
theorem dX9_guard_28 : decode cX9_guard 28 = .ok (.iload_n 3, 1) := by decide +kernel
theorem dX9_guard_29 : decode cX9_guard 29 = .ok (.if_icmp .ge 23, 3) := by decide +kernel
theorem dX9_guard_32 : decode cX9_guard 32 = .ok (.iload 4, 2) := by decide +kernel
theorem dX9_guard_34 : decode cX9_guard 34 = .ok (.iconst 0, 1) := by decide +kernel
theorem dX9_guard_35 : decode cX9_guard 35 = .ok (.bipush 39, 2) := by decide +kernel
theorem dX9_guard_37 : decode cX9_guard 37 = .ok (.invokestatic 90, 3) := by decide +kernel
theorem dX9_guard_40 : decode cX9_guard 40 = .ok (.ifCond .eq 12, 3) := by decide +kernel
theorem dX9_guard_43 : decode cX9_guard 43 = .ok (.aload_n 0, 1) := by decide +kernel
theorem dX9_guard_44 : decode cX9_guard 44 = .ok (.iload 5, 2) := by decide +kernel
theorem dX9_guard_46 : decode cX9_guard 46 = .ok (.invokevirtual 94, 3) := by decide +kernel
theorem dX9_guard_49 : decode cX9_guard 49 = .ok (.ifCond .ne 5, 3) := by decide +kernel
theorem dX9_guard_52 : decode cX9_guard 52 = .ok (.iconst (-1), 1) := by decide +kernel
theorem dX9_guard_53 : decode cX9_guard 53 = .ok (.ireturn, 1) := by decide +kernel
theorem dX9_guard_54 : decode cX9_guard 54 = .ok (.aload_n 0, 1) := by decide +kernel
theorem dX9_guard_55 : decode cX9_guard 55 = .ok (.getfield 42, 3) := by decide +kernel
theorem dX9_guard_58 : decode cX9_guard 58 = .ok (.iload_n 1, 1) := by decide +kernel
theorem dX9_guard_59 : decode cX9_guard 59 = .ok (.iaload, 1) := by decide +kernel
theorem dX9_guard_60 : decode cX9_guard 60 = .ok (.iconst 4, 1) := by decide +kernel
theorem dX9_guard_61 : decode cX9_guard 61 = .ok (.if_icmp .ne 6, 3) := by decide +kernel
theorem dX9_guard_64 : decode cX9_guard 64 = .ok (.bipush (-2), 2) := by decide +kernel
theorem dX9_guard_66 : decode cX9_guard 66 = .ok (.ireturn, 1) := by decide +kernel
theorem dX9_guard_67 : decode cX9_guard 67 = .ok (.iconst 4, 1) := by decide +kernel
theorem dX9_guard_68 : decode cX9_guard 68 = .ok (.iload_n 1, 1) := by decide +kernel
theorem dX9_guard_69 : decode cX9_guard 69 = .ok (.imul, 1) := by decide +kernel
theorem dX9_guard_70 : decode cX9_guard 70 = .ok (.aload_n 0, 1) := by decide +kernel
theorem dX9_guard_71 : decode cX9_guard 71 = .ok (.getfield 42, 3) := by decide +kernel
theorem dX9_guard_74 : decode cX9_guard 74 = .ok (.iload_n 1, 1) := by decide +kernel
theorem dX9_guard_75 : decode cX9_guard 75 = .ok (.iaload, 1) := by decide +kernel
theorem dX9_guard_76 : decode cX9_guard 76 = .ok (.iadd, 1) := by decide +kernel
theorem dX9_guard_77 : decode cX9_guard 77 = .ok (.istore 6, 2) := by decide +kernel
theorem dX9_guard_79 : decode cX9_guard 79 = .ok (.aload_n 0, 1) := by decide +kernel
theorem dX9_guard_80 : decode cX9_guard 80 = .ok (.getfield 45, 3) := by decide +kernel
theorem dX9_guard_83 : decode cX9_guard 83 = .ok (.iload 6, 2) := by decide +kernel
theorem dX9_guard_85 : decode cX9_guard 85 = .ok (.iload_n 2, 1) := by decide +kernel
theorem dX9_guard_86 : decode cX9_guard 86 = .ok (.iastore, 1) := by decide +kernel
theorem dX9_guard_87 : decode cX9_guard 87 = .ok (.aload_n 0, 1) := by decide +kernel
theorem dX9_guard_88 : decode cX9_guard 88 = .ok (.getfield 48, 3) := by decide +kernel
theorem dX9_guard_91 : decode cX9_guard 91 = .ok (.iload 6, 2) := by decide +kernel
theorem dX9_guard_93 : decode cX9_guard 93 = .ok (.iload_n 3, 1) := by decide +kernel
theorem dX9_guard_94 : decode cX9_guard 94 = .ok (.iastore, 1) := by decide +kernel
theorem dX9_guard_95 : decode cX9_guard 95 = .ok (.aload_n 0, 1) := by decide +kernel
theorem dX9_guard_96 : decode cX9_guard 96 = .ok (.getfield 51, 3) := by decide +kernel
theorem dX9_guard_99 : decode cX9_guard 99 = .ok (.iload 6, 2) := by decide +kernel
theorem dX9_guard_101 : decode cX9_guard 101 = .ok (.iload 4, 2) := by decide +kernel
theorem dX9_guard_103 : decode cX9_guard 103 = .ok (.iastore, 1) := by decide +kernel
theorem dX9_guard_104 : decode cX9_guard 104 = .ok (.aload_n 0, 1) := by decide +kernel
theorem dX9_guard_105 : decode cX9_guard 105 = .ok (.getfield 54, 3) := by decide +kernel
theorem dX9_guard_108 : decode cX9_guard 108 = .ok (.iload 6, 2) := by decide +kernel
theorem dX9_guard_110 : decode cX9_guard 110 = .ok (.iload 5, 2) := by decide +kernel
theorem dX9_guard_112 : decode cX9_guard 112 = .ok (.iastore, 1) := by decide +kernel
theorem dX9_guard_113 : decode cX9_guard 113 = .ok (.aload_n 0, 1) := by decide +kernel
theorem dX9_guard_114 : decode cX9_guard 114 = .ok (.getfield 42, 3) := by decide +kernel
theorem dX9_guard_117 : decode cX9_guard 117 = .ok (.iload_n 1, 1) := by decide +kernel
theorem dX9_guard_118 : decode cX9_guard 118 = .ok (.dup2, 1) := by decide +kernel
theorem dX9_guard_119 : decode cX9_guard 119 = .ok (.iaload, 1) := by decide +kernel
theorem dX9_guard_120 : decode cX9_guard 120 = .ok (.iconst 1, 1) := by decide +kernel
theorem dX9_guard_121 : decode cX9_guard 121 = .ok (.iadd, 1) := by decide +kernel
theorem dX9_guard_122 : decode cX9_guard 122 = .ok (.iastore, 1) := by decide +kernel
theorem dX9_guard_123 : decode cX9_guard 123 = .ok (.aload_n 0, 1) := by decide +kernel
theorem dX9_guard_124 : decode cX9_guard 124 = .ok (.getfield 57, 3) := by decide +kernel
theorem dX9_guard_127 : decode cX9_guard 127 = .ok (.iload_n 1, 1) := by decide +kernel
theorem dX9_guard_128 : decode cX9_guard 128 = .ok (.iconst 0, 1) := by decide +kernel
theorem dX9_guard_129 : decode cX9_guard 129 = .ok (.bastore, 1) := by decide +kernel
theorem dX9_guard_130 : decode cX9_guard 130 = .ok (.aload_n 0, 1) := by decide +kernel
theorem dX9_guard_131 : decode cX9_guard 131 = .ok (.getfield 42, 3) := by decide +kernel
theorem dX9_guard_134 : decode cX9_guard 134 = .ok (.iload_n 1, 1) := by decide +kernel
theorem dX9_guard_135 : decode cX9_guard 135 = .ok (.iaload, 1) := by decide +kernel
theorem dX9_guard_136 : decode cX9_guard 136 = .ok (.iconst 1, 1) := by decide +kernel
theorem dX9_guard_137 : decode cX9_guard 137 = .ok (.isub, 1) := by decide +kernel
theorem dX9_guard_138 : decode cX9_guard 138 = .ok (.ireturn, 1) := by decide +kernel
theorem dX9_fails_0 : decode cX9_fails 0 = .ok (.aload_n 0, 1) := by decide +kernel
theorem dX9_fails_1 : decode cX9_fails 1 = .ok (.aload_n 0, 1) := by decide +kernel
theorem dX9_fails_2 : decode cX9_fails 2 = .ok (.getfield 115, 3) := by decide +kernel
theorem dX9_fails_5 : decode cX9_fails 5 = .ok (.ifCond .ne 7, 3) := by decide +kernel
theorem dX9_fails_8 : decode cX9_fails 8 = .ok (.iload_n 1, 1) := by decide +kernel
theorem dX9_fails_9 : decode cX9_fails 9 = .ok (.goto 7, 3) := by decide +kernel
theorem dX9_fails_12 : decode cX9_fails 12 = .ok (.aload_n 0, 1) := by decide +kernel
theorem dX9_fails_13 : decode cX9_fails 13 = .ok (.getfield 115, 3) := by decide +kernel
theorem dX9_fails_16 : decode cX9_fails 16 = .ok (.putfield 115, 3) := by decide +kernel
theorem dX9_fails_19 : decode cX9_fails 19 = .ok (.return_, 1) := by decide +kernel
theorem dX9_top_0 : decode cX9_top 0 = .ok (.aload_n 0, 1) := by decide +kernel
theorem dX9_top_1 : decode cX9_top 1 = .ok (.getfield 72, 3) := by decide +kernel
theorem dX9_top_4 : decode cX9_top 4 = .ok (.bipush 8, 2) := by decide +kernel
theorem dX9_top_6 : decode cX9_top 6 = .ok (.iaload, 1) := by decide +kernel
theorem dX9_top_7 : decode cX9_top 7 = .ok (.ifCond .ne 7, 3) := by decide +kernel
theorem dX9_top_10 : decode cX9_top 10 = .ok (.iconst (-1), 1) := by decide +kernel
theorem dX9_top_11 : decode cX9_top 11 = .ok (.goto 20, 3) := by decide +kernel
theorem dX9_top_14 : decode cX9_top 14 = .ok (.aload_n 0, 1) := by decide +kernel
theorem dX9_top_15 : decode cX9_top 15 = .ok (.getfield 72, 3) := by decide +kernel
theorem dX9_top_18 : decode cX9_top 18 = .ok (.bipush 9, 2) := by decide +kernel
theorem dX9_top_20 : decode cX9_top 20 = .ok (.aload_n 0, 1) := by decide +kernel
theorem dX9_top_21 : decode cX9_top 21 = .ok (.getfield 72, 3) := by decide +kernel
theorem dX9_top_24 : decode cX9_top 24 = .ok (.bipush 8, 2) := by decide +kernel
theorem dX9_top_26 : decode cX9_top 26 = .ok (.iaload, 1) := by decide +kernel
theorem dX9_top_27 : decode cX9_top 27 = .ok (.iadd, 1) := by decide +kernel
theorem dX9_top_28 : decode cX9_top 28 = .ok (.iconst 1, 1) := by decide +kernel
theorem dX9_top_29 : decode cX9_top 29 = .ok (.isub, 1) := by decide +kernel
theorem dX9_top_30 : decode cX9_top 30 = .ok (.iaload, 1) := by decide +kernel
theorem dX9_top_31 : decode cX9_top 31 = .ok (.ireturn, 1) := by decide +kernel
theorem dX9_pop_0 : decode cX9_pop 0 = .ok (.aload_n 0, 1) := by decide +kernel
theorem dX9_pop_1 : decode cX9_pop 1 = .ok (.invokevirtual 118, 3) := by decide +kernel
theorem dX9_pop_4 : decode cX9_pop 4 = .ok (.istore_n 1, 1) := by decide +kernel
theorem dX9_pop_5 : decode cX9_pop 5 = .ok (.iload_n 1, 1) := by decide +kernel
theorem dX9_pop_6 : decode cX9_pop 6 = .ok (.ifCond .ge 10, 3) := by decide +kernel
theorem dX9_pop_9 : decode cX9_pop 9 = .ok (.aload_n 0, 1) := by decide +kernel
theorem dX9_pop_10 : decode cX9_pop 10 = .ok (.iconst 1, 1) := by decide +kernel
theorem dX9_pop_11 : decode cX9_pop 11 = .ok (.invokevirtual 122, 3) := by decide +kernel
theorem dX9_pop_14 : decode cX9_pop 14 = .ok (.iconst 0, 1) := by decide +kernel
theorem dX9_pop_15 : decode cX9_pop 15 = .ok (.ireturn, 1) := by decide +kernel
theorem dX9_pop_16 : decode cX9_pop 16 = .ok (.aload_n 0, 1) := by decide +kernel
theorem dX9_pop_17 : decode cX9_pop 17 = .ok (.getfield 72, 3) := by decide +kernel
theorem dX9_pop_20 : decode cX9_pop 20 = .ok (.bipush 8, 2) := by decide +kernel
theorem dX9_pop_22 : decode cX9_pop 22 = .ok (.dup2, 1) := by decide +kernel
theorem dX9_pop_23 : decode cX9_pop 23 = .ok (.iaload, 1) := by decide +kernel
theorem dX9_pop_24 : decode cX9_pop 24 = .ok (.iconst 1, 1) := by decide +kernel
theorem dX9_pop_25 : decode cX9_pop 25 = .ok (.isub, 1) := by decide +kernel
theorem dX9_pop_26 : decode cX9_pop 26 = .ok (.iastore, 1) := by decide +kernel
theorem dX9_pop_27 : decode cX9_pop 27 = .ok (.iload_n 1, 1) := by decide +kernel
theorem dX9_pop_28 : decode cX9_pop 28 = .ok (.ireturn, 1) := by decide +kernel
theorem dX9_push_0 : decode cX9_push 0 = .ok (.aload_n 0, 1) := by decide +kernel
theorem dX9_push_1 : decode cX9_push 1 = .ok (.getfield 115, 3) := by decide +kernel
theorem dX9_push_4 : decode cX9_push 4 = .ok (.ifCond .ne 30, 3) := by decide +kernel
theorem dX9_push_7 : decode cX9_push 7 = .ok (.aload_n 0, 1) := by decide +kernel
theorem dX9_push_8 : decode cX9_push 8 = .ok (.getfield 72, 3) := by decide +kernel
theorem dX9_push_11 : decode cX9_push 11 = .ok (.bipush 9, 2) := by decide +kernel
theorem dX9_push_13 : decode cX9_push 13 = .ok (.aload_n 0, 1) := by decide +kernel
theorem dX9_push_14 : decode cX9_push 14 = .ok (.getfield 72, 3) := by decide +kernel
theorem dX9_push_17 : decode cX9_push 17 = .ok (.bipush 8, 2) := by decide +kernel
theorem dX9_push_19 : decode cX9_push 19 = .ok (.iaload, 1) := by decide +kernel
theorem dX9_push_20 : decode cX9_push 20 = .ok (.iadd, 1) := by decide +kernel
theorem dX9_push_21 : decode cX9_push 21 = .ok (.iload_n 1, 1) := by decide +kernel
theorem dX9_push_22 : decode cX9_push 22 = .ok (.iastore, 1) := by decide +kernel
theorem dX9_push_23 : decode cX9_push 23 = .ok (.aload_n 0, 1) := by decide +kernel
theorem dX9_push_24 : decode cX9_push 24 = .ok (.getfield 72, 3) := by decide +kernel
theorem dX9_push_27 : decode cX9_push 27 = .ok (.bipush 8, 2) := by decide +kernel
theorem dX9_push_29 : decode cX9_push 29 = .ok (.dup2, 1) := by decide +kernel
theorem dX9_push_30 : decode cX9_push 30 = .ok (.iaload, 1) := by decide +kernel
theorem dX9_push_31 : decode cX9_push 31 = .ok (.iconst 1, 1) := by decide +kernel
theorem dX9_push_32 : decode cX9_push 32 = .ok (.iadd, 1) := by decide +kernel
theorem dX9_push_33 : decode cX9_push 33 = .ok (.iastore, 1) := by decide +kernel
theorem dX9_push_34 : decode cX9_push 34 = .ok (.return_, 1) := by decide +kernel
theorem dX9_wants_0 : decode cX9_wants 0 = .ok (.aload_n 0, 1) := by decide +kernel
theorem dX9_wants_1 : decode cX9_wants 1 = .ok (.getfield 115, 3) := by decide +kernel
theorem dX9_wants_4 : decode cX9_wants 4 = .ok (.ifCond .ne 16, 3) := by decide +kernel
theorem dX9_wants_7 : decode cX9_wants 7 = .ok (.aload_n 0, 1) := by decide +kernel
theorem dX9_wants_8 : decode cX9_wants 8 = .ok (.invokevirtual 126, 3) := by decide +kernel
theorem dX9_wants_11 : decode cX9_wants 11 = .ok (.iload_n 1, 1) := by decide +kernel
theorem dX9_wants_12 : decode cX9_wants 12 = .ok (.if_icmp .eq 8, 3) := by decide +kernel
theorem dX9_wants_15 : decode cX9_wants 15 = .ok (.aload_n 0, 1) := by decide +kernel
theorem dX9_wants_16 : decode cX9_wants 16 = .ok (.iconst 2, 1) := by decide +kernel
theorem dX9_wants_17 : decode cX9_wants 17 = .ok (.invokevirtual 122, 3) := by decide +kernel
theorem dX9_wants_20 : decode cX9_wants 20 = .ok (.return_, 1) := by decide +kernel
theorem dX9_wantsObject_0 : decode cX9_wantsObject 0 = .ok (.aload_n 0, 1) := by decide +kernel
theorem dX9_wantsObject_1 : decode cX9_wantsObject 1 = .ok (.getfield 115, 3) := by decide +kernel
theorem dX9_wantsObject_4 : decode cX9_wantsObject 4 = .ok (.ifCond .ne 10, 3) := by decide +kernel
theorem dX9_wantsObject_7 : decode cX9_wantsObject 7 = .ok (.aload_n 0, 1) := by decide +kernel
theorem dX9_wantsObject_8 : decode cX9_wantsObject 8 = .ok (.invokevirtual 126, 3) := by decide +kernel
theorem dX9_wantsObject_11 : decode cX9_wantsObject 11 = .ok (.goto 4, 3) := by decide +kernel
theorem dX9_wantsObject_14 : decode cX9_wantsObject 14 = .ok (.iconst 4, 1) := by decide +kernel
theorem dX9_wantsObject_15 : decode cX9_wantsObject 15 = .ok (.istore_n 2, 1) := by decide +kernel
theorem dX9_wantsObject_16 : decode cX9_wantsObject 16 = .ok (.iload_n 2, 1) := by decide +kernel
theorem dX9_wantsObject_17 : decode cX9_wantsObject 17 = .ok (.iconst 4, 1) := by decide +kernel
theorem dX9_wantsObject_18 : decode cX9_wantsObject 18 = .ok (.if_icmp .eq 31, 3) := by decide +kernel
theorem dX9_wantsObject_21 : decode cX9_wantsObject 21 = .ok (.iload_n 2, 1) := by decide +kernel
theorem dX9_wantsObject_22 : decode cX9_wantsObject 22 = .ok (.invokestatic 109, 3) := by decide +kernel
theorem dX9_wantsObject_25 : decode cX9_wantsObject 25 = .ok (.ifCond .eq 19, 3) := by decide +kernel
theorem dX9_wantsObject_28 : decode cX9_wantsObject 28 = .ok (.iload_n 1, 1) := by decide +kernel
theorem dX9_wantsObject_29 : decode cX9_wantsObject 29 = .ok (.ifCond .lt 20, 3) := by decide +kernel
theorem dX9_wantsObject_32 : decode cX9_wantsObject 32 = .ok (.aload_n 0, 1) := by decide +kernel
theorem dX9_wantsObject_33 : decode cX9_wantsObject 33 = .ok (.iload_n 2, 1) := by decide +kernel
theorem dX9_wantsObject_34 : decode cX9_wantsObject 34 = .ok (.bipush 10, 2) := by decide +kernel
theorem dX9_wantsObject_36 : decode cX9_wantsObject 36 = .ok (.isub, 1) := by decide +kernel
theorem dX9_wantsObject_37 : decode cX9_wantsObject 37 = .ok (.iload_n 1, 1) := by decide +kernel
theorem dX9_wantsObject_38 : decode cX9_wantsObject 38 = .ok (.invokevirtual 106, 3) := by decide +kernel
theorem dX9_wantsObject_41 : decode cX9_wantsObject 41 = .ok (.ifCond .ne 8, 3) := by decide +kernel
theorem dX9_wantsObject_44 : decode cX9_wantsObject 44 = .ok (.aload_n 0, 1) := by decide +kernel
theorem dX9_wantsObject_45 : decode cX9_wantsObject 45 = .ok (.iconst 2, 1) := by decide +kernel
theorem dX9_wantsObject_46 : decode cX9_wantsObject 46 = .ok (.invokevirtual 122, 3) := by decide +kernel
theorem dX9_wantsObject_49 : decode cX9_wantsObject 49 = .ok (.return_, 1) := by decide +kernel
theorem dX9_counted_0 : decode cX9_counted 0 = .ok (.iconst 0, 1) := by decide +kernel
theorem dX9_counted_1 : decode cX9_counted 1 = .ok (.istore_n 1, 1) := by decide +kernel
theorem dX9_counted_2 : decode cX9_counted 2 = .ok (.iconst 0, 1) := by decide +kernel
theorem dX9_counted_3 : decode cX9_counted 3 = .ok (.istore_n 2, 1) := by decide +kernel
theorem dX9_counted_4 : decode cX9_counted 4 = .ok (.iload_n 2, 1) := by decide +kernel
theorem dX9_counted_5 : decode cX9_counted 5 = .ok (.aload_n 0, 1) := by decide +kernel
theorem dX9_counted_6 : decode cX9_counted 6 = .ok (.bipush 8, 2) := by decide +kernel
theorem dX9_counted_8 : decode cX9_counted 8 = .ok (.iaload, 1) := by decide +kernel
theorem dX9_counted_9 : decode cX9_counted 9 = .ok (.if_icmp .ge 27, 3) := by decide +kernel
theorem dX9_counted_12 : decode cX9_counted 12 = .ok (.iload_n 1, 1) := by decide +kernel
theorem dX9_counted_13 : decode cX9_counted 13 = .ok (.aload_n 0, 1) := by decide +kernel
theorem dX9_counted_14 : decode cX9_counted 14 = .ok (.bipush 9, 2) := by decide +kernel
theorem dX9_counted_16 : decode cX9_counted 16 = .ok (.iload_n 2, 1) := by decide +kernel
theorem dX9_counted_17 : decode cX9_counted 17 = .ok (.iadd, 1) := by decide +kernel
theorem dX9_counted_18 : decode cX9_counted 18 = .ok (.iaload, 1) := by decide +kernel
theorem dX9_counted_19 : decode cX9_counted 19 = .ok (.iconst 2, 1) := by decide +kernel
theorem dX9_counted_20 : decode cX9_counted 20 = .ok (.if_icmp .ne 7, 3) := by decide +kernel
theorem dX9_counted_23 : decode cX9_counted 23 = .ok (.iconst 2, 1) := by decide +kernel
theorem dX9_counted_24 : decode cX9_counted 24 = .ok (.goto 4, 3) := by decide +kernel
theorem dX9_counted_27 : decode cX9_counted 27 = .ok (.iconst 1, 1) := by decide +kernel
theorem dX9_counted_28 : decode cX9_counted 28 = .ok (.iadd, 1) := by decide +kernel
theorem dX9_counted_29 : decode cX9_counted 29 = .ok (.istore_n 1, 1) := by decide +kernel
theorem dX9_counted_30 : decode cX9_counted 30 = .ok (.iinc 2 1, 3) := by decide +kernel
theorem dX9_counted_33 : decode cX9_counted 33 = .ok (.goto (-29), 3) := by decide +kernel
theorem dX9_counted_36 : decode cX9_counted 36 = .ok (.iload_n 1, 1) := by decide +kernel
theorem dX9_counted_37 : decode cX9_counted 37 = .ok (.ireturn, 1) := by decide +kernel
theorem dX9_put_0 : decode cX9_put 0 = .ok (.aload_n 0, 1) := by decide +kernel
theorem dX9_put_1 : decode cX9_put 1 = .ok (.getfield 72, 3) := by decide +kernel
theorem dX9_put_4 : decode cX9_put 4 = .ok (.iload_n 1, 1) := by decide +kernel
theorem dX9_put_5 : decode cX9_put 5 = .ok (.iaload, 1) := by decide +kernel
theorem dX9_put_6 : decode cX9_put 6 = .ok (.iconst 3, 1) := by decide +kernel
theorem dX9_put_7 : decode cX9_put 7 = .ok (.if_icmp .ne 12, 3) := by decide +kernel
theorem dX9_put_10 : decode cX9_put 10 = .ok (.aload_n 0, 1) := by decide +kernel
theorem dX9_put_11 : decode cX9_put 11 = .ok (.getfield 72, 3) := by decide +kernel
theorem dX9_put_14 : decode cX9_put 14 = .ok (.iload_n 1, 1) := by decide +kernel
theorem dX9_put_15 : decode cX9_put 15 = .ok (.iconst 1, 1) := by decide +kernel
theorem dX9_put_16 : decode cX9_put 16 = .ok (.isub, 1) := by decide +kernel
theorem dX9_put_17 : decode cX9_put 17 = .ok (.iconst 0, 1) := by decide +kernel
theorem dX9_put_18 : decode cX9_put 18 = .ok (.iastore, 1) := by decide +kernel
theorem dX9_put_19 : decode cX9_put 19 = .ok (.aload_n 0, 1) := by decide +kernel
theorem dX9_put_20 : decode cX9_put 20 = .ok (.getfield 72, 3) := by decide +kernel
theorem dX9_put_23 : decode cX9_put 23 = .ok (.iload_n 1, 1) := by decide +kernel
theorem dX9_put_24 : decode cX9_put 24 = .ok (.iaload, 1) := by decide +kernel
theorem dX9_put_25 : decode cX9_put 25 = .ok (.iconst 2, 1) := by decide +kernel
theorem dX9_put_26 : decode cX9_put 26 = .ok (.if_icmp .ne 12, 3) := by decide +kernel
theorem dX9_put_29 : decode cX9_put 29 = .ok (.aload_n 0, 1) := by decide +kernel
theorem dX9_put_30 : decode cX9_put 30 = .ok (.getfield 72, 3) := by decide +kernel
theorem dX9_put_33 : decode cX9_put 33 = .ok (.iload_n 1, 1) := by decide +kernel
theorem dX9_put_34 : decode cX9_put 34 = .ok (.iconst 1, 1) := by decide +kernel
theorem dX9_put_35 : decode cX9_put 35 = .ok (.iadd, 1) := by decide +kernel
theorem dX9_put_36 : decode cX9_put 36 = .ok (.iconst 0, 1) := by decide +kernel
theorem dX9_put_37 : decode cX9_put 37 = .ok (.iastore, 1) := by decide +kernel
theorem dX9_put_38 : decode cX9_put 38 = .ok (.aload_n 0, 1) := by decide +kernel
theorem dX9_put_39 : decode cX9_put 39 = .ok (.getfield 72, 3) := by decide +kernel
theorem dX9_put_42 : decode cX9_put 42 = .ok (.iload_n 1, 1) := by decide +kernel
theorem dX9_put_43 : decode cX9_put 43 = .ok (.iload_n 2, 1) := by decide +kernel
theorem dX9_put_44 : decode cX9_put 44 = .ok (.iastore, 1) := by decide +kernel
theorem dX9_put_45 : decode cX9_put 45 = .ok (.return_, 1) := by decide +kernel
theorem dX9_placeActs_0 : decode cX9_placeActs 0 = .ok (.iload_n 2, 1) := by decide +kernel
theorem dX9_placeActs_1 : decode cX9_placeActs 1 = .ok (.aload_n 0, 1) := by decide +kernel
theorem dX9_placeActs_2 : decode cX9_placeActs 2 = .ok (.getfield 21, 3) := by decide +kernel
theorem dX9_placeActs_5 : decode cX9_placeActs 5 = .ok (.aload_n 0, 1) := by decide +kernel
theorem dX9_placeActs_6 : decode cX9_placeActs 6 = .ok (.getfield 129, 3) := by decide +kernel
theorem dX9_placeActs_9 : decode cX9_placeActs 9 = .ok (.iaload, 1) := by decide +kernel
theorem dX9_placeActs_10 : decode cX9_placeActs 10 = .ok (.if_icmp .lt 12, 3) := by decide +kernel
theorem dX9_placeActs_13 : decode cX9_placeActs 13 = .ok (.aload_n 0, 1) := by decide +kernel
theorem dX9_placeActs_14 : decode cX9_placeActs 14 = .ok (.bipush 7, 2) := by decide +kernel
theorem dX9_placeActs_16 : decode cX9_placeActs 16 = .ok (.invokevirtual 122, 3) := by decide +kernel
theorem dX9_placeActs_19 : decode cX9_placeActs 19 = .ok (.goto 142, 3) := by decide +kernel
theorem dX9_placeActs_22 : decode cX9_placeActs 22 = .ok (.iload_n 1, 1) := by decide +kernel
theorem dX9_placeActs_23 : decode cX9_placeActs 23 = .ok (.iconst 3, 1) := by decide +kernel
theorem dX9_placeActs_24 : decode cX9_placeActs 24 = .ok (.if_icmp .ne 41, 3) := by decide +kernel
theorem dX9_placeActs_27 : decode cX9_placeActs 27 = .ok (.aload_n 0, 1) := by decide +kernel
theorem dX9_placeActs_28 : decode cX9_placeActs 28 = .ok (.getfield 72, 3) := by decide +kernel
theorem dX9_placeActs_31 : decode cX9_placeActs 31 = .ok (.iload_n 2, 1) := by decide +kernel
theorem dX9_placeActs_32 : decode cX9_placeActs 32 = .ok (.iaload, 1) := by decide +kernel
theorem dX9_placeActs_33 : decode cX9_placeActs 33 = .ok (.ifCond .eq 13, 3) := by decide +kernel
theorem dX9_placeActs_36 : decode cX9_placeActs 36 = .ok (.aload_n 0, 1) := by decide +kernel
theorem dX9_placeActs_37 : decode cX9_placeActs 37 = .ok (.getfield 72, 3) := by decide +kernel
theorem dX9_placeActs_40 : decode cX9_placeActs 40 = .ok (.iload_n 2, 1) := by decide +kernel
theorem dX9_placeActs_41 : decode cX9_placeActs 41 = .ok (.iaload, 1) := by decide +kernel
theorem dX9_placeActs_42 : decode cX9_placeActs 42 = .ok (.iconst 3, 1) := by decide +kernel
theorem dX9_placeActs_43 : decode cX9_placeActs 43 = .ok (.if_icmp .ne 9, 3) := by decide +kernel
theorem dX9_placeActs_46 : decode cX9_placeActs 46 = .ok (.aload_n 0, 1) := by decide +kernel
theorem dX9_placeActs_47 : decode cX9_placeActs 47 = .ok (.bipush 7, 2) := by decide +kernel
theorem dX9_placeActs_49 : decode cX9_placeActs 49 = .ok (.invokevirtual 122, 3) := by decide +kernel
theorem dX9_placeActs_52 : decode cX9_placeActs 52 = .ok (.aload_n 0, 1) := by decide +kernel
theorem dX9_placeActs_53 : decode cX9_placeActs 53 = .ok (.aload_n 0, 1) := by decide +kernel
theorem dX9_placeActs_54 : decode cX9_placeActs 54 = .ok (.getfield 72, 3) := by decide +kernel
theorem dX9_placeActs_57 : decode cX9_placeActs 57 = .ok (.iload_n 2, 1) := by decide +kernel
theorem dX9_placeActs_58 : decode cX9_placeActs 58 = .ok (.iaload, 1) := by decide +kernel
theorem dX9_placeActs_59 : decode cX9_placeActs 59 = .ok (.invokevirtual 132, 3) := by decide +kernel
theorem dX9_placeActs_62 : decode cX9_placeActs 62 = .ok (.goto 99, 3) := by decide +kernel
theorem dX9_placeActs_65 : decode cX9_placeActs 65 = .ok (.iload_n 1, 1) := by decide +kernel
theorem dX9_placeActs_66 : decode cX9_placeActs 66 = .ok (.bipush 20, 2) := by decide +kernel
theorem dX9_placeActs_68 : decode cX9_placeActs 68 = .ok (.if_icmp .ne 22, 3) := by decide +kernel
theorem dX9_placeActs_71 : decode cX9_placeActs 71 = .ok (.aload_n 0, 1) := by decide +kernel
theorem dX9_placeActs_72 : decode cX9_placeActs 72 = .ok (.getfield 72, 3) := by decide +kernel
theorem dX9_placeActs_75 : decode cX9_placeActs 75 = .ok (.iload_n 2, 1) := by decide +kernel
theorem dX9_placeActs_76 : decode cX9_placeActs 76 = .ok (.iaload, 1) := by decide +kernel
theorem dX9_placeActs_77 : decode cX9_placeActs 77 = .ok (.iconst 1, 1) := by decide +kernel
theorem dX9_placeActs_78 : decode cX9_placeActs 78 = .ok (.if_icmp .eq 83, 3) := by decide +kernel
theorem dX9_placeActs_81 : decode cX9_placeActs 81 = .ok (.aload_n 0, 1) := by decide +kernel
theorem dX9_placeActs_82 : decode cX9_placeActs 82 = .ok (.bipush 7, 2) := by decide +kernel
theorem dX9_placeActs_84 : decode cX9_placeActs 84 = .ok (.invokevirtual 122, 3) := by decide +kernel
theorem dX9_placeActs_87 : decode cX9_placeActs 87 = .ok (.goto 74, 3) := by decide +kernel
theorem dX9_placeActs_90 : decode cX9_placeActs 90 = .ok (.aload_n 0, 1) := by decide +kernel
theorem dX9_placeActs_91 : decode cX9_placeActs 91 = .ok (.invokevirtual 126, 3) := by decide +kernel
theorem dX9_placeActs_94 : decode cX9_placeActs 94 = .ok (.istore_n 3, 1) := by decide +kernel
theorem dX9_placeActs_95 : decode cX9_placeActs 95 = .ok (.aload_n 0, 1) := by decide +kernel
theorem dX9_placeActs_96 : decode cX9_placeActs 96 = .ok (.getfield 115, 3) := by decide +kernel
theorem dX9_placeActs_99 : decode cX9_placeActs 99 = .ok (.ifCond .ne 29, 3) := by decide +kernel
theorem dX9_placeActs_102 : decode cX9_placeActs 102 = .ok (.iload_n 3, 1) := by decide +kernel
theorem dX9_placeActs_103 : decode cX9_placeActs 103 = .ok (.iconst 2, 1) := by decide +kernel
theorem dX9_placeActs_104 : decode cX9_placeActs 104 = .ok (.if_icmp .ne 24, 3) := by decide +kernel
theorem dX9_placeActs_107 : decode cX9_placeActs 107 = .ok (.iload_n 2, 1) := by decide +kernel
theorem dX9_placeActs_108 : decode cX9_placeActs 108 = .ok (.iconst 1, 1) := by decide +kernel
theorem dX9_placeActs_109 : decode cX9_placeActs 109 = .ok (.iadd, 1) := by decide +kernel
theorem dX9_placeActs_110 : decode cX9_placeActs 110 = .ok (.aload_n 0, 1) := by decide +kernel
theorem dX9_placeActs_111 : decode cX9_placeActs 111 = .ok (.getfield 21, 3) := by decide +kernel
theorem dX9_placeActs_114 : decode cX9_placeActs 114 = .ok (.aload_n 0, 1) := by decide +kernel
theorem dX9_placeActs_115 : decode cX9_placeActs 115 = .ok (.getfield 129, 3) := by decide +kernel
theorem dX9_placeActs_118 : decode cX9_placeActs 118 = .ok (.iaload, 1) := by decide +kernel
theorem dX9_placeActs_119 : decode cX9_placeActs 119 = .ok (.if_icmp .lt 9, 3) := by decide +kernel
theorem dX9_placeActs_122 : decode cX9_placeActs 122 = .ok (.aload_n 0, 1) := by decide +kernel
theorem dX9_placeActs_123 : decode cX9_placeActs 123 = .ok (.bipush 7, 2) := by decide +kernel
theorem dX9_placeActs_125 : decode cX9_placeActs 125 = .ok (.invokevirtual 122, 3) := by decide +kernel
theorem dX9_placeActs_128 : decode cX9_placeActs 128 = .ok (.aload_n 0, 1) := by decide +kernel
theorem dX9_placeActs_129 : decode cX9_placeActs 129 = .ok (.getfield 115, 3) := by decide +kernel
theorem dX9_placeActs_132 : decode cX9_placeActs 132 = .ok (.ifCond .ne 29, 3) := by decide +kernel
theorem dX9_placeActs_135 : decode cX9_placeActs 135 = .ok (.aload_n 0, 1) := by decide +kernel
theorem dX9_placeActs_136 : decode cX9_placeActs 136 = .ok (.iload_n 2, 1) := by decide +kernel
theorem dX9_placeActs_137 : decode cX9_placeActs 137 = .ok (.iload_n 3, 1) := by decide +kernel
theorem dX9_placeActs_138 : decode cX9_placeActs 138 = .ok (.invokevirtual 135, 3) := by decide +kernel
theorem dX9_placeActs_141 : decode cX9_placeActs 141 = .ok (.iload_n 3, 1) := by decide +kernel
theorem dX9_placeActs_142 : decode cX9_placeActs 142 = .ok (.iconst 2, 1) := by decide +kernel
theorem dX9_placeActs_143 : decode cX9_placeActs 143 = .ok (.if_icmp .ne 18, 3) := by decide +kernel
theorem dX9_placeActs_146 : decode cX9_placeActs 146 = .ok (.aload_n 0, 1) := by decide +kernel
theorem dX9_placeActs_147 : decode cX9_placeActs 147 = .ok (.iload_n 2, 1) := by decide +kernel
theorem dX9_placeActs_148 : decode cX9_placeActs 148 = .ok (.iconst 1, 1) := by decide +kernel
theorem dX9_placeActs_149 : decode cX9_placeActs 149 = .ok (.iadd, 1) := by decide +kernel
theorem dX9_placeActs_150 : decode cX9_placeActs 150 = .ok (.iconst 3, 1) := by decide +kernel
theorem dX9_placeActs_151 : decode cX9_placeActs 151 = .ok (.invokevirtual 135, 3) := by decide +kernel
theorem dX9_placeActs_154 : decode cX9_placeActs 154 = .ok (.aload_n 0, 1) := by decide +kernel
theorem dX9_placeActs_155 : decode cX9_placeActs 155 = .ok (.getfield 72, 3) := by decide +kernel
theorem dX9_placeActs_158 : decode cX9_placeActs 158 = .ok (.iload_n 2, 1) := by decide +kernel
theorem dX9_placeActs_159 : decode cX9_placeActs 159 = .ok (.iconst 2, 1) := by decide +kernel
theorem dX9_placeActs_160 : decode cX9_placeActs 160 = .ok (.iastore, 1) := by decide +kernel
theorem dX9_placeActs_161 : decode cX9_placeActs 161 = .ok (.return_, 1) := by decide +kernel
theorem dX9_make_0 : decode cX9_make 0 = .ok (.aload_n 0, 1) := by decide +kernel
theorem dX9_make_1 : decode cX9_make 1 = .ok (.invokevirtual 126, 3) := by decide +kernel
theorem dX9_make_4 : decode cX9_make 4 = .ok (.istore_n 2, 1) := by decide +kernel
theorem dX9_make_5 : decode cX9_make 5 = .ok (.aload_n 0, 1) := by decide +kernel
theorem dX9_make_6 : decode cX9_make 6 = .ok (.getfield 115, 3) := by decide +kernel
theorem dX9_make_9 : decode cX9_make 9 = .ok (.ifCond .ne 36, 3) := by decide +kernel
theorem dX9_make_12 : decode cX9_make 12 = .ok (.iload_n 2, 1) := by decide +kernel
theorem dX9_make_13 : decode cX9_make 13 = .ok (.invokestatic 139, 3) := by decide +kernel
theorem dX9_make_16 : decode cX9_make 16 = .ok (.ifCond .eq 24, 3) := by decide +kernel
theorem dX9_make_19 : decode cX9_make 19 = .ok (.aload_n 0, 1) := by decide +kernel
theorem dX9_make_20 : decode cX9_make 20 = .ok (.getfield 36, 3) := by decide +kernel
theorem dX9_make_23 : decode cX9_make 23 = .ok (.bipush 40, 2) := by decide +kernel
theorem dX9_make_25 : decode cX9_make 25 = .ok (.aload_n 0, 1) := by decide +kernel
theorem dX9_make_26 : decode cX9_make 26 = .ok (.getfield 129, 3) := by decide +kernel
theorem dX9_make_29 : decode cX9_make 29 = .ok (.imul, 1) := by decide +kernel
theorem dX9_make_30 : decode cX9_make 30 = .ok (.iload_n 2, 1) := by decide +kernel
theorem dX9_make_31 : decode cX9_make 31 = .ok (.iadd, 1) := by decide +kernel
theorem dX9_make_32 : decode cX9_make 32 = .ok (.bipush 100, 2) := by decide +kernel
theorem dX9_make_34 : decode cX9_make 34 = .ok (.isub, 1) := by decide +kernel
theorem dX9_make_35 : decode cX9_make 35 = .ok (.iaload, 1) := by decide +kernel
theorem dX9_make_36 : decode cX9_make 36 = .ok (.iload_n 1, 1) := by decide +kernel
theorem dX9_make_37 : decode cX9_make 37 = .ok (.if_icmp .eq 8, 3) := by decide +kernel
theorem dX9_make_40 : decode cX9_make 40 = .ok (.aload_n 0, 1) := by decide +kernel
theorem dX9_make_41 : decode cX9_make 41 = .ok (.iconst 2, 1) := by decide +kernel
theorem dX9_make_42 : decode cX9_make 42 = .ok (.invokevirtual 122, 3) := by decide +kernel
theorem dX9_make_45 : decode cX9_make 45 = .ok (.iconst 0, 1) := by decide +kernel
theorem dX9_make_46 : decode cX9_make 46 = .ok (.istore_n 3, 1) := by decide +kernel
theorem dX9_make_47 : decode cX9_make 47 = .ok (.iload_n 3, 1) := by decide +kernel
theorem dX9_make_48 : decode cX9_make 48 = .ok (.bipush 9, 2) := by decide +kernel
theorem dX9_make_50 : decode cX9_make 50 = .ok (.aload_n 0, 1) := by decide +kernel
theorem dX9_make_51 : decode cX9_make 51 = .ok (.getfield 72, 3) := by decide +kernel
theorem dX9_make_54 : decode cX9_make 54 = .ok (.bipush 8, 2) := by decide +kernel
theorem dX9_make_56 : decode cX9_make 56 = .ok (.iaload, 1) := by decide +kernel
theorem dX9_make_57 : decode cX9_make 57 = .ok (.iadd, 1) := by decide +kernel
theorem dX9_make_58 : decode cX9_make 58 = .ok (.if_icmp .ge 42, 3) := by decide +kernel
theorem dX9_make_61 : decode cX9_make 61 = .ok (.aload_n 0, 1) := by decide +kernel
theorem dX9_make_62 : decode cX9_make 62 = .ok (.getfield 115, 3) := by decide +kernel
theorem dX9_make_65 : decode cX9_make 65 = .ok (.ifCond .ne 35, 3) := by decide +kernel
theorem dX9_make_68 : decode cX9_make 68 = .ok (.iload_n 3, 1) := by decide +kernel
theorem dX9_make_69 : decode cX9_make 69 = .ok (.bipush 8, 2) := by decide +kernel
theorem dX9_make_71 : decode cX9_make 71 = .ok (.if_icmp .eq 23, 3) := by decide +kernel
theorem dX9_make_74 : decode cX9_make 74 = .ok (.aload_n 0, 1) := by decide +kernel
theorem dX9_make_75 : decode cX9_make 75 = .ok (.getfield 72, 3) := by decide +kernel
theorem dX9_make_78 : decode cX9_make 78 = .ok (.iload_n 3, 1) := by decide +kernel
theorem dX9_make_79 : decode cX9_make 79 = .ok (.iaload, 1) := by decide +kernel
theorem dX9_make_80 : decode cX9_make 80 = .ok (.iload_n 2, 1) := by decide +kernel
theorem dX9_make_81 : decode cX9_make 81 = .ok (.if_icmp .ne 13, 3) := by decide +kernel
theorem dX9_make_84 : decode cX9_make 84 = .ok (.aload_n 0, 1) := by decide +kernel
theorem dX9_make_85 : decode cX9_make 85 = .ok (.getfield 72, 3) := by decide +kernel
theorem dX9_make_88 : decode cX9_make 88 = .ok (.iload_n 3, 1) := by decide +kernel
theorem dX9_make_89 : decode cX9_make 89 = .ok (.bipush 10, 2) := by decide +kernel
theorem dX9_make_91 : decode cX9_make 91 = .ok (.iload_n 1, 1) := by decide +kernel
theorem dX9_make_92 : decode cX9_make 92 = .ok (.iadd, 1) := by decide +kernel
theorem dX9_make_93 : decode cX9_make 93 = .ok (.iastore, 1) := by decide +kernel
theorem dX9_make_94 : decode cX9_make 94 = .ok (.iinc 3 1, 3) := by decide +kernel
theorem dX9_make_97 : decode cX9_make 97 = .ok (.goto (-50), 3) := by decide +kernel
theorem dX9_make_100 : decode cX9_make 100 = .ok (.return_, 1) := by decide +kernel
theorem dX9_does_0 : decode cX9_does 0 = .ok (.bipush 40, 2) := by decide +kernel
theorem dX9_does_2 : decode cX9_does 2 = .ok (.aload_n 0, 1) := by decide +kernel
theorem dX9_does_3 : decode cX9_does 3 = .ok (.getfield 129, 3) := by decide +kernel
theorem dX9_does_6 : decode cX9_does 6 = .ok (.imul, 1) := by decide +kernel
theorem dX9_does_7 : decode cX9_does 7 = .ok (.iload_n 1, 1) := by decide +kernel
theorem dX9_does_8 : decode cX9_does 8 = .ok (.iadd, 1) := by decide +kernel
theorem dX9_does_9 : decode cX9_does 9 = .ok (.istore_n 2, 1) := by decide +kernel
theorem dX9_does_10 : decode cX9_does 10 = .ok (.aload_n 0, 1) := by decide +kernel
theorem dX9_does_11 : decode cX9_does 11 = .ok (.getfield 36, 3) := by decide +kernel
theorem dX9_does_14 : decode cX9_does 14 = .ok (.iload_n 2, 1) := by decide +kernel
theorem dX9_does_15 : decode cX9_does 15 = .ok (.iaload, 1) := by decide +kernel
theorem dX9_does_16 : decode cX9_does 16 = .ok (.istore_n 3, 1) := by decide +kernel
theorem dX9_does_17 : decode cX9_does 17 = .ok (.aload_n 0, 1) := by decide +kernel
theorem dX9_does_18 : decode cX9_does 18 = .ok (.iconst 0, 1) := by decide +kernel
theorem dX9_does_19 : decode cX9_does 19 = .ok (.putfield 115, 3) := by decide +kernel
theorem dX9_does_22 : decode cX9_does 22 = .ok (.aload_n 0, 1) := by decide +kernel
theorem dX9_does_23 : decode cX9_does 23 = .ok (.getfield 33, 3) := by decide +kernel
theorem dX9_does_26 : decode cX9_does 26 = .ok (.iload_n 2, 1) := by decide +kernel
theorem dX9_does_27 : decode cX9_does 27 = .ok (.iaload, 1) := by decide +kernel
theorem dX9_does_28 : decode cX9_does 28 = .ok (.tableswitch 204 0 20 #[100, 108, 116, 124, 124, 138, 147, 168, 186, 204, 204, 204, 204, 204, 204, 204, 204, 204, 204, 204, 124], 100) := by decide +kernel
theorem dX9_does_128 : decode cX9_does 128 = .ok (.aload_n 0, 1) := by decide +kernel
theorem dX9_does_129 : decode cX9_does 129 = .ok (.iconst 1, 1) := by decide +kernel
theorem dX9_does_130 : decode cX9_does 130 = .ok (.invokevirtual 132, 3) := by decide +kernel
theorem dX9_does_133 : decode cX9_does 133 = .ok (.goto 111, 3) := by decide +kernel
theorem dX9_does_136 : decode cX9_does 136 = .ok (.aload_n 0, 1) := by decide +kernel
theorem dX9_does_137 : decode cX9_does 137 = .ok (.iconst 2, 1) := by decide +kernel
theorem dX9_does_138 : decode cX9_does 138 = .ok (.invokevirtual 132, 3) := by decide +kernel
theorem dX9_does_141 : decode cX9_does 141 = .ok (.goto 103, 3) := by decide +kernel
theorem dX9_does_144 : decode cX9_does 144 = .ok (.aload_n 0, 1) := by decide +kernel
theorem dX9_does_145 : decode cX9_does 145 = .ok (.iconst 4, 1) := by decide +kernel
theorem dX9_does_146 : decode cX9_does 146 = .ok (.invokevirtual 132, 3) := by decide +kernel
theorem dX9_does_149 : decode cX9_does 149 = .ok (.goto 95, 3) := by decide +kernel
theorem dX9_does_152 : decode cX9_does 152 = .ok (.aload_n 0, 1) := by decide +kernel
theorem dX9_does_153 : decode cX9_does 153 = .ok (.aload_n 0, 1) := by decide +kernel
theorem dX9_does_154 : decode cX9_does 154 = .ok (.getfield 33, 3) := by decide +kernel
theorem dX9_does_157 : decode cX9_does 157 = .ok (.iload_n 2, 1) := by decide +kernel
theorem dX9_does_158 : decode cX9_does 158 = .ok (.iaload, 1) := by decide +kernel
theorem dX9_does_159 : decode cX9_does 159 = .ok (.iload_n 3, 1) := by decide +kernel
theorem dX9_does_160 : decode cX9_does 160 = .ok (.invokevirtual 142, 3) := by decide +kernel
theorem dX9_does_163 : decode cX9_does 163 = .ok (.goto 81, 3) := by decide +kernel
theorem dX9_does_166 : decode cX9_does 166 = .ok (.aload_n 0, 1) := by decide +kernel
theorem dX9_does_167 : decode cX9_does 167 = .ok (.invokevirtual 126, 3) := by decide +kernel
theorem dX9_does_170 : decode cX9_does 170 = .ok (.istore 4, 2) := by decide +kernel
theorem dX9_does_172 : decode cX9_does 172 = .ok (.goto 72, 3) := by decide +kernel
theorem dX9_does_175 : decode cX9_does 175 = .ok (.aload_n 0, 1) := by decide +kernel
theorem dX9_does_176 : decode cX9_does 176 = .ok (.invokevirtual 126, 3) := by decide +kernel
theorem dX9_does_179 : decode cX9_does 179 = .ok (.istore 5, 2) := by decide +kernel
theorem dX9_does_181 : decode cX9_does 181 = .ok (.aload_n 0, 1) := by decide +kernel
theorem dX9_does_182 : decode cX9_does 182 = .ok (.iload 5, 2) := by decide +kernel
theorem dX9_does_184 : decode cX9_does 184 = .ok (.invokevirtual 132, 3) := by decide +kernel
theorem dX9_does_187 : decode cX9_does 187 = .ok (.aload_n 0, 1) := by decide +kernel
theorem dX9_does_188 : decode cX9_does 188 = .ok (.iload 5, 2) := by decide +kernel
theorem dX9_does_190 : decode cX9_does 190 = .ok (.invokevirtual 132, 3) := by decide +kernel
theorem dX9_does_193 : decode cX9_does 193 = .ok (.goto 51, 3) := by decide +kernel
theorem dX9_does_196 : decode cX9_does 196 = .ok (.aload_n 0, 1) := by decide +kernel
theorem dX9_does_197 : decode cX9_does 197 = .ok (.iconst 1, 1) := by decide +kernel
theorem dX9_does_198 : decode cX9_does 198 = .ok (.invokevirtual 145, 3) := by decide +kernel
theorem dX9_does_201 : decode cX9_does 201 = .ok (.aload_n 0, 1) := by decide +kernel
theorem dX9_does_202 : decode cX9_does 202 = .ok (.iconst 1, 1) := by decide +kernel
theorem dX9_does_203 : decode cX9_does 203 = .ok (.invokevirtual 145, 3) := by decide +kernel
theorem dX9_does_206 : decode cX9_does 206 = .ok (.aload_n 0, 1) := by decide +kernel
theorem dX9_does_207 : decode cX9_does 207 = .ok (.iconst 1, 1) := by decide +kernel
theorem dX9_does_208 : decode cX9_does 208 = .ok (.invokevirtual 132, 3) := by decide +kernel
theorem dX9_does_211 : decode cX9_does 211 = .ok (.goto 33, 3) := by decide +kernel
theorem dX9_does_214 : decode cX9_does 214 = .ok (.aload_n 0, 1) := by decide +kernel
theorem dX9_does_215 : decode cX9_does 215 = .ok (.iconst 2, 1) := by decide +kernel
theorem dX9_does_216 : decode cX9_does 216 = .ok (.invokevirtual 145, 3) := by decide +kernel
theorem dX9_does_219 : decode cX9_does 219 = .ok (.aload_n 0, 1) := by decide +kernel
theorem dX9_does_220 : decode cX9_does 220 = .ok (.iconst 2, 1) := by decide +kernel
theorem dX9_does_221 : decode cX9_does 221 = .ok (.invokevirtual 145, 3) := by decide +kernel
theorem dX9_does_224 : decode cX9_does 224 = .ok (.aload_n 0, 1) := by decide +kernel
theorem dX9_does_225 : decode cX9_does 225 = .ok (.iconst 2, 1) := by decide +kernel
theorem dX9_does_226 : decode cX9_does 226 = .ok (.invokevirtual 132, 3) := by decide +kernel
theorem dX9_does_229 : decode cX9_does 229 = .ok (.goto 15, 3) := by decide +kernel
theorem dX9_does_232 : decode cX9_does 232 = .ok (.aload_n 0, 1) := by decide +kernel
theorem dX9_does_233 : decode cX9_does 233 = .ok (.iload_n 1, 1) := by decide +kernel
theorem dX9_does_234 : decode cX9_does 234 = .ok (.aload_n 0, 1) := by decide +kernel
theorem dX9_does_235 : decode cX9_does 235 = .ok (.getfield 33, 3) := by decide +kernel
theorem dX9_does_238 : decode cX9_does 238 = .ok (.iload_n 2, 1) := by decide +kernel
theorem dX9_does_239 : decode cX9_does 239 = .ok (.iaload, 1) := by decide +kernel
theorem dX9_does_240 : decode cX9_does 240 = .ok (.iload_n 3, 1) := by decide +kernel
theorem dX9_does_241 : decode cX9_does 241 = .ok (.invokevirtual 148, 3) := by decide +kernel
theorem dX9_does_244 : decode cX9_does 244 = .ok (.aload_n 0, 1) := by decide +kernel
theorem dX9_does_245 : decode cX9_does 245 = .ok (.getfield 115, 3) := by decide +kernel
theorem dX9_does_248 : decode cX9_does 248 = .ok (.ifCond .ne 20, 3) := by decide +kernel
theorem dX9_does_251 : decode cX9_does 251 = .ok (.aload_n 0, 1) := by decide +kernel
theorem dX9_does_252 : decode cX9_does 252 = .ok (.getfield 72, 3) := by decide +kernel
theorem dX9_does_255 : decode cX9_does 255 = .ok (.invokestatic 152, 3) := by decide +kernel
theorem dX9_does_258 : decode cX9_does 258 = .ok (.bipush 10, 2) := by decide +kernel
theorem dX9_does_260 : decode cX9_does 260 = .ok (.if_icmp .le 8, 3) := by decide +kernel
theorem dX9_does_263 : decode cX9_does 263 = .ok (.aload_n 0, 1) := by decide +kernel
theorem dX9_does_264 : decode cX9_does 264 = .ok (.iconst 3, 1) := by decide +kernel
theorem dX9_does_265 : decode cX9_does 265 = .ok (.invokevirtual 122, 3) := by decide +kernel
theorem dX9_does_268 : decode cX9_does 268 = .ok (.return_, 1) := by decide +kernel
theorem dX9_doesMore_0 : decode cX9_doesMore 0 = .ok (.iload_n 2, 1) := by decide +kernel
theorem dX9_doesMore_1 : decode cX9_doesMore 1 = .ok (.tableswitch 144 9 19 #[59, 70, 78, 91, 112, 144, 128, 128, 128, 136, 136], 59) := by decide +kernel
theorem dX9_doesMore_60 : decode cX9_doesMore 60 = .ok (.aload_n 0, 1) := by decide +kernel
theorem dX9_doesMore_61 : decode cX9_doesMore 61 = .ok (.bipush 100, 2) := by decide +kernel
theorem dX9_doesMore_63 : decode cX9_doesMore 63 = .ok (.iload_n 1, 1) := by decide +kernel
theorem dX9_doesMore_64 : decode cX9_doesMore 64 = .ok (.iadd, 1) := by decide +kernel
theorem dX9_doesMore_65 : decode cX9_doesMore 65 = .ok (.invokevirtual 132, 3) := by decide +kernel
theorem dX9_doesMore_68 : decode cX9_doesMore 68 = .ok (.goto 77, 3) := by decide +kernel
theorem dX9_doesMore_71 : decode cX9_doesMore 71 = .ok (.aload_n 0, 1) := by decide +kernel
theorem dX9_doesMore_72 : decode cX9_doesMore 72 = .ok (.iload_n 3, 1) := by decide +kernel
theorem dX9_doesMore_73 : decode cX9_doesMore 73 = .ok (.invokevirtual 156, 3) := by decide +kernel
theorem dX9_doesMore_76 : decode cX9_doesMore 76 = .ok (.goto 69, 3) := by decide +kernel
theorem dX9_doesMore_79 : decode cX9_doesMore 79 = .ok (.aload_n 0, 1) := by decide +kernel
theorem dX9_doesMore_80 : decode cX9_doesMore 80 = .ok (.iload_n 3, 1) := by decide +kernel
theorem dX9_doesMore_81 : decode cX9_doesMore 81 = .ok (.invokevirtual 159, 3) := by decide +kernel
theorem dX9_doesMore_84 : decode cX9_doesMore 84 = .ok (.aload_n 0, 1) := by decide +kernel
theorem dX9_doesMore_85 : decode cX9_doesMore 85 = .ok (.iconst 1, 1) := by decide +kernel
theorem dX9_doesMore_86 : decode cX9_doesMore 86 = .ok (.invokevirtual 132, 3) := by decide +kernel
theorem dX9_doesMore_89 : decode cX9_doesMore 89 = .ok (.goto 56, 3) := by decide +kernel
theorem dX9_doesMore_92 : decode cX9_doesMore 92 = .ok (.aload_n 0, 1) := by decide +kernel
theorem dX9_doesMore_93 : decode cX9_doesMore 93 = .ok (.iconst 1, 1) := by decide +kernel
theorem dX9_doesMore_94 : decode cX9_doesMore 94 = .ok (.invokevirtual 145, 3) := by decide +kernel
theorem dX9_doesMore_97 : decode cX9_doesMore 97 = .ok (.aload_n 0, 1) := by decide +kernel
theorem dX9_doesMore_98 : decode cX9_doesMore 98 = .ok (.iload_n 3, 1) := by decide +kernel
theorem dX9_doesMore_99 : decode cX9_doesMore 99 = .ok (.invokevirtual 159, 3) := by decide +kernel
theorem dX9_doesMore_102 : decode cX9_doesMore 102 = .ok (.aload_n 0, 1) := by decide +kernel
theorem dX9_doesMore_103 : decode cX9_doesMore 103 = .ok (.bipush 10, 2) := by decide +kernel
theorem dX9_doesMore_105 : decode cX9_doesMore 105 = .ok (.iload_n 3, 1) := by decide +kernel
theorem dX9_doesMore_106 : decode cX9_doesMore 106 = .ok (.iadd, 1) := by decide +kernel
theorem dX9_doesMore_107 : decode cX9_doesMore 107 = .ok (.invokevirtual 132, 3) := by decide +kernel
theorem dX9_doesMore_110 : decode cX9_doesMore 110 = .ok (.goto 35, 3) := by decide +kernel
theorem dX9_doesMore_113 : decode cX9_doesMore 113 = .ok (.aload_n 0, 1) := by decide +kernel
theorem dX9_doesMore_114 : decode cX9_doesMore 114 = .ok (.iconst (-1), 1) := by decide +kernel
theorem dX9_doesMore_115 : decode cX9_doesMore 115 = .ok (.invokevirtual 159, 3) := by decide +kernel
theorem dX9_doesMore_118 : decode cX9_doesMore 118 = .ok (.aload_n 0, 1) := by decide +kernel
theorem dX9_doesMore_119 : decode cX9_doesMore 119 = .ok (.bipush 10, 2) := by decide +kernel
theorem dX9_doesMore_121 : decode cX9_doesMore 121 = .ok (.iload_n 3, 1) := by decide +kernel
theorem dX9_doesMore_122 : decode cX9_doesMore 122 = .ok (.iadd, 1) := by decide +kernel
theorem dX9_doesMore_123 : decode cX9_doesMore 123 = .ok (.invokevirtual 132, 3) := by decide +kernel
theorem dX9_doesMore_126 : decode cX9_doesMore 126 = .ok (.goto 19, 3) := by decide +kernel
theorem dX9_doesMore_129 : decode cX9_doesMore 129 = .ok (.aload_n 0, 1) := by decide +kernel
theorem dX9_doesMore_130 : decode cX9_doesMore 130 = .ok (.iconst 1, 1) := by decide +kernel
theorem dX9_doesMore_131 : decode cX9_doesMore 131 = .ok (.invokevirtual 145, 3) := by decide +kernel
theorem dX9_doesMore_134 : decode cX9_doesMore 134 = .ok (.goto 11, 3) := by decide +kernel
theorem dX9_doesMore_137 : decode cX9_doesMore 137 = .ok (.aload_n 0, 1) := by decide +kernel
theorem dX9_doesMore_138 : decode cX9_doesMore 138 = .ok (.iload_n 3, 1) := by decide +kernel
theorem dX9_doesMore_139 : decode cX9_doesMore 139 = .ok (.invokevirtual 159, 3) := by decide +kernel
theorem dX9_doesMore_142 : decode cX9_doesMore 142 = .ok (.goto 3, 3) := by decide +kernel
theorem dX9_doesMore_145 : decode cX9_doesMore 145 = .ok (.return_, 1) := by decide +kernel
theorem dX9_goesOn_0 : decode cX9_goesOn 0 = .ok (.iload_n 0, 1) := by decide +kernel
theorem dX9_goesOn_1 : decode cX9_goesOn 1 = .ok (.bipush 14, 2) := by decide +kernel
theorem dX9_goesOn_3 : decode cX9_goesOn 3 = .ok (.if_icmp .eq 18, 3) := by decide +kernel
theorem dX9_goesOn_6 : decode cX9_goesOn 6 = .ok (.iload_n 0, 1) := by decide +kernel
theorem dX9_goesOn_7 : decode cX9_goesOn 7 = .ok (.bipush 16, 2) := by decide +kernel
theorem dX9_goesOn_9 : decode cX9_goesOn 9 = .ok (.bipush 19, 2) := by decide +kernel
theorem dX9_goesOn_11 : decode cX9_goesOn 11 = .ok (.invokestatic 90, 3) := by decide +kernel
theorem dX9_goesOn_14 : decode cX9_goesOn 14 = .ok (.ifCond .ne 7, 3) := by decide +kernel
theorem dX9_goesOn_17 : decode cX9_goesOn 17 = .ok (.iconst 1, 1) := by decide +kernel
theorem dX9_goesOn_18 : decode cX9_goesOn 18 = .ok (.goto 4, 3) := by decide +kernel
theorem dX9_goesOn_21 : decode cX9_goesOn 21 = .ok (.iconst 0, 1) := by decide +kernel
theorem dX9_goesOn_22 : decode cX9_goesOn 22 = .ok (.ireturn, 1) := by decide +kernel
theorem dX9_jumps_0 : decode cX9_jumps 0 = .ok (.iload_n 0, 1) := by decide +kernel
theorem dX9_jumps_1 : decode cX9_jumps 1 = .ok (.bipush 14, 2) := by decide +kernel
theorem dX9_jumps_3 : decode cX9_jumps 3 = .ok (.bipush 16, 2) := by decide +kernel
theorem dX9_jumps_5 : decode cX9_jumps 5 = .ok (.invokestatic 90, 3) := by decide +kernel
theorem dX9_jumps_8 : decode cX9_jumps 8 = .ok (.ireturn, 1) := by decide +kernel
theorem dX9_copy_0 : decode cX9_copy 0 = .ok (.iconst 0, 1) := by decide +kernel
theorem dX9_copy_1 : decode cX9_copy 1 = .ok (.istore 4, 2) := by decide +kernel
theorem dX9_copy_3 : decode cX9_copy 3 = .ok (.iload 4, 2) := by decide +kernel
theorem dX9_copy_5 : decode cX9_copy 5 = .ok (.bipush 20, 2) := by decide +kernel
theorem dX9_copy_7 : decode cX9_copy 7 = .ok (.if_icmp .ge 21, 3) := by decide +kernel
theorem dX9_copy_10 : decode cX9_copy 10 = .ok (.aload_n 2, 1) := by decide +kernel
theorem dX9_copy_11 : decode cX9_copy 11 = .ok (.iload_n 3, 1) := by decide +kernel
theorem dX9_copy_12 : decode cX9_copy 12 = .ok (.iload 4, 2) := by decide +kernel
theorem dX9_copy_14 : decode cX9_copy 14 = .ok (.iadd, 1) := by decide +kernel
theorem dX9_copy_15 : decode cX9_copy 15 = .ok (.aload_n 0, 1) := by decide +kernel
theorem dX9_copy_16 : decode cX9_copy 16 = .ok (.iload_n 1, 1) := by decide +kernel
theorem dX9_copy_17 : decode cX9_copy 17 = .ok (.iload 4, 2) := by decide +kernel
theorem dX9_copy_19 : decode cX9_copy 19 = .ok (.iadd, 1) := by decide +kernel
theorem dX9_copy_20 : decode cX9_copy 20 = .ok (.iaload, 1) := by decide +kernel
theorem dX9_copy_21 : decode cX9_copy 21 = .ok (.iastore, 1) := by decide +kernel
theorem dX9_copy_22 : decode cX9_copy 22 = .ok (.iinc 4 1, 3) := by decide +kernel
theorem dX9_copy_25 : decode cX9_copy 25 = .ok (.goto (-22), 3) := by decide +kernel
theorem dX9_copy_28 : decode cX9_copy 28 = .ok (.return_, 1) := by decide +kernel
theorem dX9_caughtState_0 : decode cX9_caughtState 0 = .ok (.aload_n 0, 1) := by decide +kernel
theorem dX9_caughtState_1 : decode cX9_caughtState 1 = .ok (.getfield 72, 3) := by decide +kernel
theorem dX9_caughtState_4 : decode cX9_caughtState 4 = .ok (.iconst 0, 1) := by decide +kernel
theorem dX9_caughtState_5 : decode cX9_caughtState 5 = .ok (.aload_n 0, 1) := by decide +kernel
theorem dX9_caughtState_6 : decode cX9_caughtState 6 = .ok (.getfield 75, 3) := by decide +kernel
theorem dX9_caughtState_9 : decode cX9_caughtState 9 = .ok (.iconst 0, 1) := by decide +kernel
theorem dX9_caughtState_10 : decode cX9_caughtState 10 = .ok (.invokestatic 162, 3) := by decide +kernel
theorem dX9_caughtState_13 : decode cX9_caughtState 13 = .ok (.iconst 0, 1) := by decide +kernel
theorem dX9_caughtState_14 : decode cX9_caughtState 14 = .ok (.istore_n 2, 1) := by decide +kernel
theorem dX9_caughtState_15 : decode cX9_caughtState 15 = .ok (.iload_n 2, 1) := by decide +kernel
theorem dX9_caughtState_16 : decode cX9_caughtState 16 = .ok (.bipush 8, 2) := by decide +kernel
theorem dX9_caughtState_18 : decode cX9_caughtState 18 = .ok (.if_icmp .ge 37, 3) := by decide +kernel
theorem dX9_caughtState_21 : decode cX9_caughtState 21 = .ok (.aload_n 0, 1) := by decide +kernel
theorem dX9_caughtState_22 : decode cX9_caughtState 22 = .ok (.getfield 75, 3) := by decide +kernel
theorem dX9_caughtState_25 : decode cX9_caughtState 25 = .ok (.iload_n 2, 1) := by decide +kernel
theorem dX9_caughtState_26 : decode cX9_caughtState 26 = .ok (.aload_n 0, 1) := by decide +kernel
theorem dX9_caughtState_27 : decode cX9_caughtState 27 = .ok (.getfield 75, 3) := by decide +kernel
theorem dX9_caughtState_30 : decode cX9_caughtState 30 = .ok (.iload_n 2, 1) := by decide +kernel
theorem dX9_caughtState_31 : decode cX9_caughtState 31 = .ok (.iaload, 1) := by decide +kernel
theorem dX9_caughtState_32 : decode cX9_caughtState 32 = .ok (.invokestatic 139, 3) := by decide +kernel
theorem dX9_caughtState_35 : decode cX9_caughtState 35 = .ok (.ifCond .eq 7, 3) := by decide +kernel
theorem dX9_caughtState_38 : decode cX9_caughtState 38 = .ok (.iconst 0, 1) := by decide +kernel
theorem dX9_caughtState_39 : decode cX9_caughtState 39 = .ok (.goto 9, 3) := by decide +kernel
theorem dX9_caughtState_42 : decode cX9_caughtState 42 = .ok (.aload_n 0, 1) := by decide +kernel
theorem dX9_caughtState_43 : decode cX9_caughtState 43 = .ok (.getfield 75, 3) := by decide +kernel
theorem dX9_caughtState_46 : decode cX9_caughtState 46 = .ok (.iload_n 2, 1) := by decide +kernel
theorem dX9_caughtState_47 : decode cX9_caughtState 47 = .ok (.iaload, 1) := by decide +kernel
theorem dX9_caughtState_48 : decode cX9_caughtState 48 = .ok (.iastore, 1) := by decide +kernel
theorem dX9_caughtState_49 : decode cX9_caughtState 49 = .ok (.iinc 2 1, 3) := by decide +kernel
theorem dX9_caughtState_52 : decode cX9_caughtState 52 = .ok (.goto (-37), 3) := by decide +kernel
theorem dX9_caughtState_55 : decode cX9_caughtState 55 = .ok (.aload_n 0, 1) := by decide +kernel
theorem dX9_caughtState_56 : decode cX9_caughtState 56 = .ok (.getfield 75, 3) := by decide +kernel
theorem dX9_caughtState_59 : decode cX9_caughtState 59 = .ok (.bipush 8, 2) := by decide +kernel
theorem dX9_caughtState_61 : decode cX9_caughtState 61 = .ok (.iconst 1, 1) := by decide +kernel
theorem dX9_caughtState_62 : decode cX9_caughtState 62 = .ok (.iastore, 1) := by decide +kernel
theorem dX9_caughtState_63 : decode cX9_caughtState 63 = .ok (.aload_n 0, 1) := by decide +kernel
theorem dX9_caughtState_64 : decode cX9_caughtState 64 = .ok (.getfield 75, 3) := by decide +kernel
theorem dX9_caughtState_67 : decode cX9_caughtState 67 = .ok (.bipush 9, 2) := by decide +kernel
theorem dX9_caughtState_69 : decode cX9_caughtState 69 = .ok (.bipush 10, 2) := by decide +kernel
theorem dX9_caughtState_71 : decode cX9_caughtState 71 = .ok (.aload_n 0, 1) := by decide +kernel
theorem dX9_caughtState_72 : decode cX9_caughtState 72 = .ok (.getfield 54, 3) := by decide +kernel
theorem dX9_caughtState_75 : decode cX9_caughtState 75 = .ok (.iload_n 1, 1) := by decide +kernel
theorem dX9_caughtState_76 : decode cX9_caughtState 76 = .ok (.iaload, 1) := by decide +kernel
theorem dX9_caughtState_77 : decode cX9_caughtState 77 = .ok (.iadd, 1) := by decide +kernel
theorem dX9_caughtState_78 : decode cX9_caughtState 78 = .ok (.iastore, 1) := by decide +kernel
theorem dX9_caughtState_79 : decode cX9_caughtState 79 = .ok (.return_, 1) := by decide +kernel
theorem dX9_hasUnmade_0 : decode cX9_hasUnmade 0 = .ok (.iconst 0, 1) := by decide +kernel
theorem dX9_hasUnmade_1 : decode cX9_hasUnmade 1 = .ok (.istore_n 2, 1) := by decide +kernel
theorem dX9_hasUnmade_2 : decode cX9_hasUnmade 2 = .ok (.iconst 0, 1) := by decide +kernel
theorem dX9_hasUnmade_3 : decode cX9_hasUnmade 3 = .ok (.istore_n 3, 1) := by decide +kernel
theorem dX9_hasUnmade_4 : decode cX9_hasUnmade 4 = .ok (.iload_n 3, 1) := by decide +kernel
theorem dX9_hasUnmade_5 : decode cX9_hasUnmade 5 = .ok (.bipush 9, 2) := by decide +kernel
theorem dX9_hasUnmade_7 : decode cX9_hasUnmade 7 = .ok (.aload_n 1, 1) := by decide +kernel
theorem dX9_hasUnmade_8 : decode cX9_hasUnmade 8 = .ok (.bipush 8, 2) := by decide +kernel
theorem dX9_hasUnmade_10 : decode cX9_hasUnmade 10 = .ok (.iaload, 1) := by decide +kernel
theorem dX9_hasUnmade_11 : decode cX9_hasUnmade 11 = .ok (.iadd, 1) := by decide +kernel
theorem dX9_hasUnmade_12 : decode cX9_hasUnmade 12 = .ok (.if_icmp .ge 32, 3) := by decide +kernel
theorem dX9_hasUnmade_15 : decode cX9_hasUnmade 15 = .ok (.iload_n 2, 1) := by decide +kernel
theorem dX9_hasUnmade_16 : decode cX9_hasUnmade 16 = .ok (.iload_n 3, 1) := by decide +kernel
theorem dX9_hasUnmade_17 : decode cX9_hasUnmade 17 = .ok (.bipush 8, 2) := by decide +kernel
theorem dX9_hasUnmade_19 : decode cX9_hasUnmade 19 = .ok (.if_icmp .eq 16, 3) := by decide +kernel
theorem dX9_hasUnmade_22 : decode cX9_hasUnmade 22 = .ok (.aload_n 1, 1) := by decide +kernel
theorem dX9_hasUnmade_23 : decode cX9_hasUnmade 23 = .ok (.iload_n 3, 1) := by decide +kernel
theorem dX9_hasUnmade_24 : decode cX9_hasUnmade 24 = .ok (.iaload, 1) := by decide +kernel
theorem dX9_hasUnmade_25 : decode cX9_hasUnmade 25 = .ok (.invokestatic 139, 3) := by decide +kernel
theorem dX9_hasUnmade_28 : decode cX9_hasUnmade 28 = .ok (.ifCond .eq 7, 3) := by decide +kernel
theorem dX9_hasUnmade_31 : decode cX9_hasUnmade 31 = .ok (.iconst 1, 1) := by decide +kernel
theorem dX9_hasUnmade_32 : decode cX9_hasUnmade 32 = .ok (.goto 4, 3) := by decide +kernel
theorem dX9_hasUnmade_35 : decode cX9_hasUnmade 35 = .ok (.iconst 0, 1) := by decide +kernel
theorem dX9_hasUnmade_36 : decode cX9_hasUnmade 36 = .ok (.ior, 1) := by decide +kernel
theorem dX9_hasUnmade_37 : decode cX9_hasUnmade 37 = .ok (.istore_n 2, 1) := by decide +kernel
theorem dX9_hasUnmade_38 : decode cX9_hasUnmade 38 = .ok (.iinc 3 1, 3) := by decide +kernel
theorem dX9_hasUnmade_41 : decode cX9_hasUnmade 41 = .ok (.goto (-37), 3) := by decide +kernel
theorem dX9_hasUnmade_44 : decode cX9_hasUnmade 44 = .ok (.iload_n 2, 1) := by decide +kernel
theorem dX9_hasUnmade_45 : decode cX9_hasUnmade 45 = .ok (.ireturn, 1) := by decide +kernel
theorem dX9_beginning_0 : decode cX9_beginning 0 = .ok (.iconst 0, 1) := by decide +kernel
theorem dX9_beginning_1 : decode cX9_beginning 1 = .ok (.istore_n 2, 1) := by decide +kernel
theorem dX9_beginning_2 : decode cX9_beginning 2 = .ok (.iload_n 2, 1) := by decide +kernel
theorem dX9_beginning_3 : decode cX9_beginning 3 = .ok (.bipush 20, 2) := by decide +kernel
theorem dX9_beginning_5 : decode cX9_beginning 5 = .ok (.if_icmp .ge 43, 3) := by decide +kernel
theorem dX9_beginning_8 : decode cX9_beginning 8 = .ok (.aload_n 1, 1) := by decide +kernel
theorem dX9_beginning_9 : decode cX9_beginning 9 = .ok (.iload_n 2, 1) := by decide +kernel
theorem dX9_beginning_10 : decode cX9_beginning 10 = .ok (.iload_n 2, 1) := by decide +kernel
theorem dX9_beginning_11 : decode cX9_beginning 11 = .ok (.aload_n 0, 1) := by decide +kernel
theorem dX9_beginning_12 : decode cX9_beginning 12 = .ok (.getfield 24, 3) := by decide +kernel
theorem dX9_beginning_15 : decode cX9_beginning 15 = .ok (.aload_n 0, 1) := by decide +kernel
theorem dX9_beginning_16 : decode cX9_beginning 16 = .ok (.getfield 129, 3) := by decide +kernel
theorem dX9_beginning_19 : decode cX9_beginning 19 = .ok (.iaload, 1) := by decide +kernel
theorem dX9_beginning_20 : decode cX9_beginning 20 = .ok (.if_icmp .ge 20, 3) := by decide +kernel
theorem dX9_beginning_23 : decode cX9_beginning 23 = .ok (.aload_n 0, 1) := by decide +kernel
theorem dX9_beginning_24 : decode cX9_beginning 24 = .ok (.getfield 27, 3) := by decide +kernel
theorem dX9_beginning_27 : decode cX9_beginning 27 = .ok (.bipush 8, 2) := by decide +kernel
theorem dX9_beginning_29 : decode cX9_beginning 29 = .ok (.aload_n 0, 1) := by decide +kernel
theorem dX9_beginning_30 : decode cX9_beginning 30 = .ok (.getfield 129, 3) := by decide +kernel
theorem dX9_beginning_33 : decode cX9_beginning 33 = .ok (.imul, 1) := by decide +kernel
theorem dX9_beginning_34 : decode cX9_beginning 34 = .ok (.iload_n 2, 1) := by decide +kernel
theorem dX9_beginning_35 : decode cX9_beginning 35 = .ok (.iadd, 1) := by decide +kernel
theorem dX9_beginning_36 : decode cX9_beginning 36 = .ok (.iaload, 1) := by decide +kernel
theorem dX9_beginning_37 : decode cX9_beginning 37 = .ok (.goto 4, 3) := by decide +kernel
theorem dX9_beginning_40 : decode cX9_beginning 40 = .ok (.iconst 0, 1) := by decide +kernel
theorem dX9_beginning_41 : decode cX9_beginning 41 = .ok (.iastore, 1) := by decide +kernel
theorem dX9_beginning_42 : decode cX9_beginning 42 = .ok (.iinc 2 1, 3) := by decide +kernel
theorem dX9_beginning_45 : decode cX9_beginning 45 = .ok (.goto (-43), 3) := by decide +kernel
theorem dX9_beginning_48 : decode cX9_beginning 48 = .ok (.return_, 1) := by decide +kernel
theorem dX9_comes_0 : decode cX9_comes 0 = .ok (.iload_n 1, 1) := by decide +kernel
theorem dX9_comes_1 : decode cX9_comes 1 = .ok (.aload_n 0, 1) := by decide +kernel
theorem dX9_comes_2 : decode cX9_comes 2 = .ok (.getfield 30, 3) := by decide +kernel
theorem dX9_comes_5 : decode cX9_comes 5 = .ok (.aload_n 0, 1) := by decide +kernel
theorem dX9_comes_6 : decode cX9_comes 6 = .ok (.getfield 129, 3) := by decide +kernel
theorem dX9_comes_9 : decode cX9_comes 9 = .ok (.iaload, 1) := by decide +kernel
theorem dX9_comes_10 : decode cX9_comes 10 = .ok (.if_icmp .lt 9, 3) := by decide +kernel
theorem dX9_comes_13 : decode cX9_comes 13 = .ok (.aload_n 0, 1) := by decide +kernel
theorem dX9_comes_14 : decode cX9_comes 14 = .ok (.iconst 5, 1) := by decide +kernel
theorem dX9_comes_15 : decode cX9_comes 15 = .ok (.invokevirtual 122, 3) := by decide +kernel
theorem dX9_comes_18 : decode cX9_comes 18 = .ok (.return_, 1) := by decide +kernel
theorem dX9_comes_19 : decode cX9_comes 19 = .ok (.iload_n 3, 1) := by decide +kernel
theorem dX9_comes_20 : decode cX9_comes 20 = .ok (.ifCond .ne 26, 3) := by decide +kernel
theorem dX9_comes_23 : decode cX9_comes 23 = .ok (.iload_n 1, 1) := by decide +kernel
theorem dX9_comes_24 : decode cX9_comes 24 = .ok (.iload_n 2, 1) := by decide +kernel
theorem dX9_comes_25 : decode cX9_comes 25 = .ok (.if_icmp .gt 21, 3) := by decide +kernel
theorem dX9_comes_28 : decode cX9_comes 28 = .ok (.aload_n 0, 1) := by decide +kernel
theorem dX9_comes_29 : decode cX9_comes 29 = .ok (.aload_n 0, 1) := by decide +kernel
theorem dX9_comes_30 : decode cX9_comes 30 = .ok (.getfield 75, 3) := by decide +kernel
theorem dX9_comes_33 : decode cX9_comes 33 = .ok (.invokevirtual 166, 3) := by decide +kernel
theorem dX9_comes_36 : decode cX9_comes 36 = .ok (.ifCond .eq 10, 3) := by decide +kernel
theorem dX9_comes_39 : decode cX9_comes 39 = .ok (.aload_n 0, 1) := by decide +kernel
theorem dX9_comes_40 : decode cX9_comes 40 = .ok (.bipush 6, 2) := by decide +kernel
theorem dX9_comes_42 : decode cX9_comes 42 = .ok (.invokevirtual 122, 3) := by decide +kernel
theorem dX9_comes_45 : decode cX9_comes 45 = .ok (.return_, 1) := by decide +kernel
theorem dX9_comes_46 : decode cX9_comes 46 = .ok (.bipush 40, 2) := by decide +kernel
theorem dX9_comes_48 : decode cX9_comes 48 = .ok (.aload_n 0, 1) := by decide +kernel
theorem dX9_comes_49 : decode cX9_comes 49 = .ok (.getfield 129, 3) := by decide +kernel
theorem dX9_comes_52 : decode cX9_comes 52 = .ok (.imul, 1) := by decide +kernel
theorem dX9_comes_53 : decode cX9_comes 53 = .ok (.iload_n 1, 1) := by decide +kernel
theorem dX9_comes_54 : decode cX9_comes 54 = .ok (.iadd, 1) := by decide +kernel
theorem dX9_comes_55 : decode cX9_comes 55 = .ok (.istore 4, 2) := by decide +kernel
theorem dX9_comes_57 : decode cX9_comes 57 = .ok (.aload_n 0, 1) := by decide +kernel
theorem dX9_comes_58 : decode cX9_comes 58 = .ok (.getfield 60, 3) := by decide +kernel
theorem dX9_comes_61 : decode cX9_comes 61 = .ok (.iload 4, 2) := by decide +kernel
theorem dX9_comes_63 : decode cX9_comes 63 = .ok (.baload, 1) := by decide +kernel
theorem dX9_comes_64 : decode cX9_comes 64 = .ok (.ifCond .ne 36, 3) := by decide +kernel
theorem dX9_comes_67 : decode cX9_comes 67 = .ok (.aload_n 0, 1) := by decide +kernel
theorem dX9_comes_68 : decode cX9_comes 68 = .ok (.getfield 60, 3) := by decide +kernel
theorem dX9_comes_71 : decode cX9_comes 71 = .ok (.iload 4, 2) := by decide +kernel
theorem dX9_comes_73 : decode cX9_comes 73 = .ok (.iconst 1, 1) := by decide +kernel
theorem dX9_comes_74 : decode cX9_comes 74 = .ok (.bastore, 1) := by decide +kernel
theorem dX9_comes_75 : decode cX9_comes 75 = .ok (.aload_n 0, 1) := by decide +kernel
theorem dX9_comes_76 : decode cX9_comes 76 = .ok (.getfield 75, 3) := by decide +kernel
theorem dX9_comes_79 : decode cX9_comes 79 = .ok (.iconst 0, 1) := by decide +kernel
theorem dX9_comes_80 : decode cX9_comes 80 = .ok (.aload_n 0, 1) := by decide +kernel
theorem dX9_comes_81 : decode cX9_comes 81 = .ok (.getfield 63, 3) := by decide +kernel
theorem dX9_comes_84 : decode cX9_comes 84 = .ok (.bipush 20, 2) := by decide +kernel
theorem dX9_comes_86 : decode cX9_comes 86 = .ok (.iload 4, 2) := by decide +kernel
theorem dX9_comes_88 : decode cX9_comes 88 = .ok (.imul, 1) := by decide +kernel
theorem dX9_comes_89 : decode cX9_comes 89 = .ok (.invokestatic 162, 3) := by decide +kernel
theorem dX9_comes_92 : decode cX9_comes 92 = .ok (.aload_n 0, 1) := by decide +kernel
theorem dX9_comes_93 : decode cX9_comes 93 = .ok (.getfield 78, 3) := by decide +kernel
theorem dX9_comes_96 : decode cX9_comes 96 = .ok (.iload_n 1, 1) := by decide +kernel
theorem dX9_comes_97 : decode cX9_comes 97 = .ok (.iconst 1, 1) := by decide +kernel
theorem dX9_comes_98 : decode cX9_comes 98 = .ok (.bastore, 1) := by decide +kernel
theorem dX9_comes_99 : decode cX9_comes 99 = .ok (.return_, 1) := by decide +kernel
theorem dX9_comes_100 : decode cX9_comes 100 = .ok (.aload_n 0, 1) := by decide +kernel
theorem dX9_comes_101 : decode cX9_comes 101 = .ok (.getfield 63, 3) := by decide +kernel
theorem dX9_comes_104 : decode cX9_comes 104 = .ok (.bipush 20, 2) := by decide +kernel
theorem dX9_comes_106 : decode cX9_comes 106 = .ok (.iload 4, 2) := by decide +kernel
theorem dX9_comes_108 : decode cX9_comes 108 = .ok (.imul, 1) := by decide +kernel
theorem dX9_comes_109 : decode cX9_comes 109 = .ok (.bipush 8, 2) := by decide +kernel
theorem dX9_comes_111 : decode cX9_comes 111 = .ok (.iadd, 1) := by decide +kernel
theorem dX9_comes_112 : decode cX9_comes 112 = .ok (.iaload, 1) := by decide +kernel
theorem dX9_comes_113 : decode cX9_comes 113 = .ok (.aload_n 0, 1) := by decide +kernel
theorem dX9_comes_114 : decode cX9_comes 114 = .ok (.getfield 75, 3) := by decide +kernel
theorem dX9_comes_117 : decode cX9_comes 117 = .ok (.bipush 8, 2) := by decide +kernel
theorem dX9_comes_119 : decode cX9_comes 119 = .ok (.iaload, 1) := by decide +kernel
theorem dX9_comes_120 : decode cX9_comes 120 = .ok (.if_icmp .eq 9, 3) := by decide +kernel
theorem dX9_comes_123 : decode cX9_comes 123 = .ok (.aload_n 0, 1) := by decide +kernel
theorem dX9_comes_124 : decode cX9_comes 124 = .ok (.iconst 4, 1) := by decide +kernel
theorem dX9_comes_125 : decode cX9_comes 125 = .ok (.invokevirtual 122, 3) := by decide +kernel
theorem dX9_comes_128 : decode cX9_comes 128 = .ok (.return_, 1) := by decide +kernel
theorem dX9_comes_129 : decode cX9_comes 129 = .ok (.iconst 0, 1) := by decide +kernel
theorem dX9_comes_130 : decode cX9_comes 130 = .ok (.istore 5, 2) := by decide +kernel
theorem dX9_comes_132 : decode cX9_comes 132 = .ok (.iconst 0, 1) := by decide +kernel
theorem dX9_comes_133 : decode cX9_comes 133 = .ok (.istore 6, 2) := by decide +kernel
theorem dX9_comes_135 : decode cX9_comes 135 = .ok (.iload 6, 2) := by decide +kernel
theorem dX9_comes_137 : decode cX9_comes 137 = .ok (.bipush 9, 2) := by decide +kernel
theorem dX9_comes_139 : decode cX9_comes 139 = .ok (.aload_n 0, 1) := by decide +kernel
theorem dX9_comes_140 : decode cX9_comes 140 = .ok (.getfield 75, 3) := by decide +kernel
theorem dX9_comes_143 : decode cX9_comes 143 = .ok (.bipush 8, 2) := by decide +kernel
theorem dX9_comes_145 : decode cX9_comes 145 = .ok (.iaload, 1) := by decide +kernel
theorem dX9_comes_146 : decode cX9_comes 146 = .ok (.iadd, 1) := by decide +kernel
theorem dX9_comes_147 : decode cX9_comes 147 = .ok (.if_icmp .ge 97, 3) := by decide +kernel
theorem dX9_comes_150 : decode cX9_comes 150 = .ok (.iload 6, 2) := by decide +kernel
theorem dX9_comes_152 : decode cX9_comes 152 = .ok (.bipush 8, 2) := by decide +kernel
theorem dX9_comes_154 : decode cX9_comes 154 = .ok (.if_icmp .eq 84, 3) := by decide +kernel
theorem dX9_comes_157 : decode cX9_comes 157 = .ok (.aload_n 0, 1) := by decide +kernel
theorem dX9_comes_158 : decode cX9_comes 158 = .ok (.aload_n 0, 1) := by decide +kernel
theorem dX9_comes_159 : decode cX9_comes 159 = .ok (.getfield 63, 3) := by decide +kernel
theorem dX9_comes_162 : decode cX9_comes 162 = .ok (.bipush 20, 2) := by decide +kernel
theorem dX9_comes_164 : decode cX9_comes 164 = .ok (.iload 4, 2) := by decide +kernel
theorem dX9_comes_166 : decode cX9_comes 166 = .ok (.imul, 1) := by decide +kernel
theorem dX9_comes_167 : decode cX9_comes 167 = .ok (.iload 6, 2) := by decide +kernel
theorem dX9_comes_169 : decode cX9_comes 169 = .ok (.iadd, 1) := by decide +kernel
theorem dX9_comes_170 : decode cX9_comes 170 = .ok (.iaload, 1) := by decide +kernel
theorem dX9_comes_171 : decode cX9_comes 171 = .ok (.aload_n 0, 1) := by decide +kernel
theorem dX9_comes_172 : decode cX9_comes 172 = .ok (.getfield 75, 3) := by decide +kernel
theorem dX9_comes_175 : decode cX9_comes 175 = .ok (.iload 6, 2) := by decide +kernel
theorem dX9_comes_177 : decode cX9_comes 177 = .ok (.iaload, 1) := by decide +kernel
theorem dX9_comes_178 : decode cX9_comes 178 = .ok (.invokevirtual 170, 3) := by decide +kernel
theorem dX9_comes_181 : decode cX9_comes 181 = .ok (.istore 7, 2) := by decide +kernel
theorem dX9_comes_183 : decode cX9_comes 183 = .ok (.iload 6, 2) := by decide +kernel
theorem dX9_comes_185 : decode cX9_comes 185 = .ok (.bipush 9, 2) := by decide +kernel
theorem dX9_comes_187 : decode cX9_comes 187 = .ok (.if_icmp .lt 14, 3) := by decide +kernel
theorem dX9_comes_190 : decode cX9_comes 190 = .ok (.iload 7, 2) := by decide +kernel
theorem dX9_comes_192 : decode cX9_comes 192 = .ok (.ifCond .ne 9, 3) := by decide +kernel
theorem dX9_comes_195 : decode cX9_comes 195 = .ok (.aload_n 0, 1) := by decide +kernel
theorem dX9_comes_196 : decode cX9_comes 196 = .ok (.iconst 2, 1) := by decide +kernel
theorem dX9_comes_197 : decode cX9_comes 197 = .ok (.invokevirtual 122, 3) := by decide +kernel
theorem dX9_comes_200 : decode cX9_comes 200 = .ok (.return_, 1) := by decide +kernel
theorem dX9_comes_201 : decode cX9_comes 201 = .ok (.iload 5, 2) := by decide +kernel
theorem dX9_comes_203 : decode cX9_comes 203 = .ok (.iload 7, 2) := by decide +kernel
theorem dX9_comes_205 : decode cX9_comes 205 = .ok (.aload_n 0, 1) := by decide +kernel
theorem dX9_comes_206 : decode cX9_comes 206 = .ok (.getfield 63, 3) := by decide +kernel
theorem dX9_comes_209 : decode cX9_comes 209 = .ok (.bipush 20, 2) := by decide +kernel
theorem dX9_comes_211 : decode cX9_comes 211 = .ok (.iload 4, 2) := by decide +kernel
theorem dX9_comes_213 : decode cX9_comes 213 = .ok (.imul, 1) := by decide +kernel
theorem dX9_comes_214 : decode cX9_comes 214 = .ok (.iload 6, 2) := by decide +kernel
theorem dX9_comes_216 : decode cX9_comes 216 = .ok (.iadd, 1) := by decide +kernel
theorem dX9_comes_217 : decode cX9_comes 217 = .ok (.iaload, 1) := by decide +kernel
theorem dX9_comes_218 : decode cX9_comes 218 = .ok (.if_icmp .eq 7, 3) := by decide +kernel
theorem dX9_comes_221 : decode cX9_comes 221 = .ok (.iconst 1, 1) := by decide +kernel
theorem dX9_comes_222 : decode cX9_comes 222 = .ok (.goto 4, 3) := by decide +kernel
theorem dX9_comes_225 : decode cX9_comes 225 = .ok (.iconst 0, 1) := by decide +kernel
theorem dX9_comes_226 : decode cX9_comes 226 = .ok (.ior, 1) := by decide +kernel
theorem dX9_comes_227 : decode cX9_comes 227 = .ok (.istore 5, 2) := by decide +kernel
theorem dX9_comes_229 : decode cX9_comes 229 = .ok (.aload_n 0, 1) := by decide +kernel
theorem dX9_comes_230 : decode cX9_comes 230 = .ok (.getfield 81, 3) := by decide +kernel
theorem dX9_comes_233 : decode cX9_comes 233 = .ok (.iload 6, 2) := by decide +kernel
theorem dX9_comes_235 : decode cX9_comes 235 = .ok (.iload 7, 2) := by decide +kernel
theorem dX9_comes_237 : decode cX9_comes 237 = .ok (.iastore, 1) := by decide +kernel
theorem dX9_comes_238 : decode cX9_comes 238 = .ok (.iinc 6 1, 3) := by decide +kernel
theorem dX9_comes_241 : decode cX9_comes 241 = .ok (.goto (-106), 3) := by decide +kernel
theorem dX9_comes_244 : decode cX9_comes 244 = .ok (.iconst 0, 1) := by decide +kernel
theorem dX9_comes_245 : decode cX9_comes 245 = .ok (.istore 6, 2) := by decide +kernel
theorem dX9_comes_247 : decode cX9_comes 247 = .ok (.iload 6, 2) := by decide +kernel
theorem dX9_comes_249 : decode cX9_comes 249 = .ok (.bipush 9, 2) := by decide +kernel
theorem dX9_comes_251 : decode cX9_comes 251 = .ok (.aload_n 0, 1) := by decide +kernel
theorem dX9_comes_252 : decode cX9_comes 252 = .ok (.getfield 75, 3) := by decide +kernel
theorem dX9_comes_255 : decode cX9_comes 255 = .ok (.bipush 8, 2) := by decide +kernel
theorem dX9_comes_257 : decode cX9_comes 257 = .ok (.iaload, 1) := by decide +kernel
theorem dX9_comes_258 : decode cX9_comes 258 = .ok (.iadd, 1) := by decide +kernel
theorem dX9_comes_259 : decode cX9_comes 259 = .ok (.if_icmp .ge 46, 3) := by decide +kernel
theorem dX9_comes_262 : decode cX9_comes 262 = .ok (.aload_n 0, 1) := by decide +kernel
theorem dX9_comes_263 : decode cX9_comes 263 = .ok (.getfield 63, 3) := by decide +kernel
theorem dX9_comes_266 : decode cX9_comes 266 = .ok (.bipush 20, 2) := by decide +kernel
theorem dX9_comes_268 : decode cX9_comes 268 = .ok (.iload 4, 2) := by decide +kernel
theorem dX9_comes_270 : decode cX9_comes 270 = .ok (.imul, 1) := by decide +kernel
theorem dX9_comes_271 : decode cX9_comes 271 = .ok (.iload 6, 2) := by decide +kernel
theorem dX9_comes_273 : decode cX9_comes 273 = .ok (.iadd, 1) := by decide +kernel
theorem dX9_comes_274 : decode cX9_comes 274 = .ok (.iload 6, 2) := by decide +kernel
theorem dX9_comes_276 : decode cX9_comes 276 = .ok (.bipush 8, 2) := by decide +kernel
theorem dX9_comes_278 : decode cX9_comes 278 = .ok (.if_icmp .ne 13, 3) := by decide +kernel
theorem dX9_comes_281 : decode cX9_comes 281 = .ok (.aload_n 0, 1) := by decide +kernel
theorem dX9_comes_282 : decode cX9_comes 282 = .ok (.getfield 75, 3) := by decide +kernel
theorem dX9_comes_285 : decode cX9_comes 285 = .ok (.bipush 8, 2) := by decide +kernel
theorem dX9_comes_287 : decode cX9_comes 287 = .ok (.iaload, 1) := by decide +kernel
theorem dX9_comes_288 : decode cX9_comes 288 = .ok (.goto 10, 3) := by decide +kernel
theorem dX9_comes_291 : decode cX9_comes 291 = .ok (.aload_n 0, 1) := by decide +kernel
theorem dX9_comes_292 : decode cX9_comes 292 = .ok (.getfield 81, 3) := by decide +kernel
theorem dX9_comes_295 : decode cX9_comes 295 = .ok (.iload 6, 2) := by decide +kernel
theorem dX9_comes_297 : decode cX9_comes 297 = .ok (.iaload, 1) := by decide +kernel
theorem dX9_comes_298 : decode cX9_comes 298 = .ok (.iastore, 1) := by decide +kernel
theorem dX9_comes_299 : decode cX9_comes 299 = .ok (.iinc 6 1, 3) := by decide +kernel
theorem dX9_comes_302 : decode cX9_comes 302 = .ok (.goto (-55), 3) := by decide +kernel
theorem dX9_comes_305 : decode cX9_comes 305 = .ok (.aload_n 0, 1) := by decide +kernel
