theorem dX9_addRoll_56 : decode cX9_addRoll 56 = .ok (.imul, 1) := by decide +kernel
theorem dX9_addRoll_57 : decode cX9_addRoll 57 = .ok (.iadd, 1) := by decide +kernel
theorem dX9_addRoll_58 : decode cX9_addRoll 58 = .ok (.istore_n 3, 1) := by decide +kernel
theorem dX9_addRoll_59 : decode cX9_addRoll 59 = .ok (.iconst 0, 1) := by decide +kernel
theorem dX9_addRoll_60 : decode cX9_addRoll 60 = .ok (.istore 4, 2) := by decide +kernel
theorem dX9_addRoll_62 : decode cX9_addRoll 62 = .ok (.iload 4, 2) := by decide +kernel
theorem dX9_addRoll_64 : decode cX9_addRoll 64 = .ok (.bipush 20, 2) := by decide +kernel
theorem dX9_addRoll_66 : decode cX9_addRoll 66 = .ok (.if_icmp .ge 19, 3) := by decide +kernel
theorem dX9_addRoll_69 : decode cX9_addRoll 69 = .ok (.aload_n 0, 1) := by decide +kernel
theorem dX9_addRoll_70 : decode cX9_addRoll 70 = .ok (.getfield 7, 3) := by decide +kernel
theorem dX9_addRoll_73 : decode cX9_addRoll 73 = .ok (.iload_n 3, 1) := by decide +kernel
theorem dX9_addRoll_74 : decode cX9_addRoll 74 = .ok (.iload 4, 2) := by decide +kernel
theorem dX9_addRoll_76 : decode cX9_addRoll 76 = .ok (.iadd, 1) := by decide +kernel
theorem dX9_addRoll_77 : decode cX9_addRoll 77 = .ok (.iconst 0, 1) := by decide +kernel
theorem dX9_addRoll_78 : decode cX9_addRoll 78 = .ok (.iastore, 1) := by decide +kernel
theorem dX9_addRoll_79 : decode cX9_addRoll 79 = .ok (.iinc 4 1, 3) := by decide +kernel
theorem dX9_addRoll_82 : decode cX9_addRoll 82 = .ok (.goto (-20), 3) := by decide +kernel
theorem dX9_addRoll_85 : decode cX9_addRoll 85 = .ok (.aload_n 0, 1) := by decide +kernel
theorem dX9_addRoll_86 : decode cX9_addRoll 86 = .ok (.getfield 7, 3) := by decide +kernel
theorem dX9_addRoll_89 : decode cX9_addRoll 89 = .ok (.iload_n 3, 1) := by decide +kernel
theorem dX9_addRoll_90 : decode cX9_addRoll 90 = .ok (.iconst 0, 1) := by decide +kernel
theorem dX9_addRoll_91 : decode cX9_addRoll 91 = .ok (.iadd, 1) := by decide +kernel
theorem dX9_addRoll_92 : decode cX9_addRoll 92 = .ok (.iload_n 1, 1) := by decide +kernel
theorem dX9_addRoll_93 : decode cX9_addRoll 93 = .ok (.iastore, 1) := by decide +kernel
theorem dX9_addRoll_94 : decode cX9_addRoll 94 = .ok (.aload_n 0, 1) := by decide +kernel
theorem dX9_addRoll_95 : decode cX9_addRoll 95 = .ok (.getfield 7, 3) := by decide +kernel
theorem dX9_addRoll_98 : decode cX9_addRoll 98 = .ok (.iload_n 3, 1) := by decide +kernel
theorem dX9_addRoll_99 : decode cX9_addRoll 99 = .ok (.iconst 1, 1) := by decide +kernel
theorem dX9_addRoll_100 : decode cX9_addRoll 100 = .ok (.iadd, 1) := by decide +kernel
theorem dX9_addRoll_101 : decode cX9_addRoll 101 = .ok (.iload_n 2, 1) := by decide +kernel
theorem dX9_addRoll_102 : decode cX9_addRoll 102 = .ok (.iastore, 1) := by decide +kernel
theorem dX9_addRoll_103 : decode cX9_addRoll 103 = .ok (.aload_n 0, 1) := by decide +kernel
theorem dX9_addRoll_104 : decode cX9_addRoll 104 = .ok (.getfield 7, 3) := by decide +kernel
theorem dX9_addRoll_107 : decode cX9_addRoll 107 = .ok (.iconst 0, 1) := by decide +kernel
theorem dX9_addRoll_108 : decode cX9_addRoll 108 = .ok (.dup2, 1) := by decide +kernel
theorem dX9_addRoll_109 : decode cX9_addRoll 109 = .ok (.iaload, 1) := by decide +kernel
theorem dX9_addRoll_110 : decode cX9_addRoll 110 = .ok (.iconst 1, 1) := by decide +kernel
theorem dX9_addRoll_111 : decode cX9_addRoll 111 = .ok (.iadd, 1) := by decide +kernel
theorem dX9_addRoll_112 : decode cX9_addRoll 112 = .ok (.iastore, 1) := by decide +kernel
theorem dX9_addRoll_113 : decode cX9_addRoll 113 = .ok (.aload_n 0, 1) := by decide +kernel
theorem dX9_addRoll_114 : decode cX9_addRoll 114 = .ok (.getfield 7, 3) := by decide +kernel
theorem dX9_addRoll_117 : decode cX9_addRoll 117 = .ok (.iconst 0, 1) := by decide +kernel
theorem dX9_addRoll_118 : decode cX9_addRoll 118 = .ok (.iaload, 1) := by decide +kernel
theorem dX9_addRoll_119 : decode cX9_addRoll 119 = .ok (.ireturn, 1) := by decide +kernel
theorem dX9_isRoll_0 : decode cX9_isRoll 0 = .ok (.iload_n 1, 1) := by decide +kernel
theorem dX9_isRoll_1 : decode cX9_isRoll 1 = .ok (.i2l, 1) := by decide +kernel
theorem dX9_isRoll_2 : decode cX9_isRoll 2 = .ok (.lconst 0, 1) := by decide +kernel
theorem dX9_isRoll_3 : decode cX9_isRoll 3 = .ok (.aload_n 0, 1) := by decide +kernel
theorem dX9_isRoll_4 : decode cX9_isRoll 4 = .ok (.getfield 7, 3) := by decide +kernel
theorem dX9_isRoll_7 : decode cX9_isRoll 7 = .ok (.iconst 0, 1) := by decide +kernel
theorem dX9_isRoll_8 : decode cX9_isRoll 8 = .ok (.iaload, 1) := by decide +kernel
theorem dX9_isRoll_9 : decode cX9_isRoll 9 = .ok (.iconst 1, 1) := by decide +kernel
theorem dX9_isRoll_10 : decode cX9_isRoll 10 = .ok (.isub, 1) := by decide +kernel
theorem dX9_isRoll_11 : decode cX9_isRoll 11 = .ok (.i2l, 1) := by decide +kernel
theorem dX9_isRoll_12 : decode cX9_isRoll 12 = .ok (.invokestatic 33, 3) := by decide +kernel
theorem dX9_isRoll_15 : decode cX9_isRoll 15 = .ok (.ireturn, 1) := by decide +kernel
theorem dX9_weaken_0 : decode cX9_weaken 0 = .ok (.aload_n 0, 1) := by decide +kernel
theorem dX9_weaken_1 : decode cX9_weaken 1 = .ok (.iload_n 1, 1) := by decide +kernel
theorem dX9_weaken_2 : decode cX9_weaken 2 = .ok (.invokevirtual 42, 3) := by decide +kernel
theorem dX9_weaken_5 : decode cX9_weaken 5 = .ok (.ifCond .eq 33, 3) := by decide +kernel
theorem dX9_weaken_8 : decode cX9_weaken 8 = .ok (.iload_n 2, 1) := by decide +kernel
theorem dX9_weaken_9 : decode cX9_weaken 9 = .ok (.i2l, 1) := by decide +kernel
theorem dX9_weaken_10 : decode cX9_weaken 10 = .ok (.lconst 1, 1) := by decide +kernel
theorem dX9_weaken_11 : decode cX9_weaken 11 = .ok (.aload_n 0, 1) := by decide +kernel
theorem dX9_weaken_12 : decode cX9_weaken 12 = .ok (.iload_n 1, 1) := by decide +kernel
theorem dX9_weaken_13 : decode cX9_weaken 13 = .ok (.iconst 0, 1) := by decide +kernel
theorem dX9_weaken_14 : decode cX9_weaken 14 = .ok (.invokevirtual 46, 3) := by decide +kernel
theorem dX9_weaken_17 : decode cX9_weaken 17 = .ok (.iconst 1, 1) := by decide +kernel
theorem dX9_weaken_18 : decode cX9_weaken 18 = .ok (.isub, 1) := by decide +kernel
theorem dX9_weaken_19 : decode cX9_weaken 19 = .ok (.i2l, 1) := by decide +kernel
theorem dX9_weaken_20 : decode cX9_weaken 20 = .ok (.invokestatic 33, 3) := by decide +kernel
theorem dX9_weaken_23 : decode cX9_weaken 23 = .ok (.ifCond .eq 15, 3) := by decide +kernel
theorem dX9_weaken_26 : decode cX9_weaken 26 = .ok (.iload_n 3, 1) := by decide +kernel
theorem dX9_weaken_27 : decode cX9_weaken 27 = .ok (.i2l, 1) := by decide +kernel
theorem dX9_weaken_28 : decode cX9_weaken 28 = .ok (.lconst 0, 1) := by decide +kernel
theorem dX9_weaken_29 : decode cX9_weaken 29 = .ok (.ldc2_w 50, 3) := by decide +kernel
theorem dX9_weaken_32 : decode cX9_weaken 32 = .ok (.invokestatic 33, 3) := by decide +kernel
theorem dX9_weaken_35 : decode cX9_weaken 35 = .ok (.ifCond .ne 5, 3) := by decide +kernel
theorem dX9_weaken_38 : decode cX9_weaken 38 = .ok (.iconst (-1), 1) := by decide +kernel
theorem dX9_weaken_39 : decode cX9_weaken 39 = .ok (.ireturn, 1) := by decide +kernel
theorem dX9_weaken_40 : decode cX9_weaken 40 = .ok (.iload_n 2, 1) := by decide +kernel
theorem dX9_weaken_41 : decode cX9_weaken 41 = .ok (.aload_n 0, 1) := by decide +kernel
theorem dX9_weaken_42 : decode cX9_weaken 42 = .ok (.iload_n 1, 1) := by decide +kernel
theorem dX9_weaken_43 : decode cX9_weaken 43 = .ok (.iconst 2, 1) := by decide +kernel
theorem dX9_weaken_44 : decode cX9_weaken 44 = .ok (.invokevirtual 46, 3) := by decide +kernel
theorem dX9_weaken_47 : decode cX9_weaken 47 = .ok (.if_icmp .gt 7, 3) := by decide +kernel
theorem dX9_weaken_50 : decode cX9_weaken 50 = .ok (.iconst 1, 1) := by decide +kernel
theorem dX9_weaken_51 : decode cX9_weaken 51 = .ok (.goto 4, 3) := by decide +kernel
theorem dX9_weaken_54 : decode cX9_weaken 54 = .ok (.iconst 0, 1) := by decide +kernel
theorem dX9_weaken_55 : decode cX9_weaken 55 = .ok (.istore 4, 2) := by decide +kernel
theorem dX9_weaken_57 : decode cX9_weaken 57 = .ok (.iconst 0, 1) := by decide +kernel
theorem dX9_weaken_58 : decode cX9_weaken 58 = .ok (.istore 5, 2) := by decide +kernel
theorem dX9_weaken_60 : decode cX9_weaken 60 = .ok (.iload 5, 2) := by decide +kernel
theorem dX9_weaken_62 : decode cX9_weaken 62 = .ok (.aload_n 0, 1) := by decide +kernel
theorem dX9_weaken_63 : decode cX9_weaken 63 = .ok (.iload_n 1, 1) := by decide +kernel
theorem dX9_weaken_64 : decode cX9_weaken 64 = .ok (.iconst 3, 1) := by decide +kernel
theorem dX9_weaken_65 : decode cX9_weaken 65 = .ok (.invokevirtual 46, 3) := by decide +kernel
theorem dX9_weaken_68 : decode cX9_weaken 68 = .ok (.if_icmp .ge 34, 3) := by decide +kernel
theorem dX9_weaken_71 : decode cX9_weaken 71 = .ok (.iload 4, 2) := by decide +kernel
theorem dX9_weaken_73 : decode cX9_weaken 73 = .ok (.ifCond .ne 16, 3) := by decide +kernel
theorem dX9_weaken_76 : decode cX9_weaken 76 = .ok (.aload_n 0, 1) := by decide +kernel
theorem dX9_weaken_77 : decode cX9_weaken 77 = .ok (.iload_n 1, 1) := by decide +kernel
theorem dX9_weaken_78 : decode cX9_weaken 78 = .ok (.iconst 4, 1) := by decide +kernel
theorem dX9_weaken_79 : decode cX9_weaken 79 = .ok (.iload 5, 2) := by decide +kernel
theorem dX9_weaken_81 : decode cX9_weaken 81 = .ok (.iadd, 1) := by decide +kernel
theorem dX9_weaken_82 : decode cX9_weaken 82 = .ok (.invokevirtual 46, 3) := by decide +kernel
theorem dX9_weaken_85 : decode cX9_weaken 85 = .ok (.iload_n 2, 1) := by decide +kernel
theorem dX9_weaken_86 : decode cX9_weaken 86 = .ok (.if_icmp .ne 7, 3) := by decide +kernel
theorem dX9_weaken_89 : decode cX9_weaken 89 = .ok (.iconst 1, 1) := by decide +kernel
theorem dX9_weaken_90 : decode cX9_weaken 90 = .ok (.goto 4, 3) := by decide +kernel
theorem dX9_weaken_93 : decode cX9_weaken 93 = .ok (.iconst 0, 1) := by decide +kernel
theorem dX9_weaken_94 : decode cX9_weaken 94 = .ok (.istore 4, 2) := by decide +kernel
theorem dX9_weaken_96 : decode cX9_weaken 96 = .ok (.iinc 5 1, 3) := by decide +kernel
theorem dX9_weaken_99 : decode cX9_weaken 99 = .ok (.goto (-39), 3) := by decide +kernel
theorem dX9_weaken_102 : decode cX9_weaken 102 = .ok (.iload 4, 2) := by decide +kernel
theorem dX9_weaken_104 : decode cX9_weaken 104 = .ok (.ifCond .eq 6, 3) := by decide +kernel
theorem dX9_weaken_107 : decode cX9_weaken 107 = .ok (.bipush (-2), 2) := by decide +kernel
theorem dX9_weaken_109 : decode cX9_weaken 109 = .ok (.ireturn, 1) := by decide +kernel
theorem dX9_weaken_110 : decode cX9_weaken 110 = .ok (.aload_n 0, 1) := by decide +kernel
theorem dX9_weaken_111 : decode cX9_weaken 111 = .ok (.iload_n 1, 1) := by decide +kernel
theorem dX9_weaken_112 : decode cX9_weaken 112 = .ok (.iconst 3, 1) := by decide +kernel
theorem dX9_weaken_113 : decode cX9_weaken 113 = .ok (.invokevirtual 46, 3) := by decide +kernel
theorem dX9_weaken_116 : decode cX9_weaken 116 = .ok (.bipush 8, 2) := by decide +kernel
theorem dX9_weaken_118 : decode cX9_weaken 118 = .ok (.if_icmp .ne 6, 3) := by decide +kernel
theorem dX9_weaken_121 : decode cX9_weaken 121 = .ok (.bipush (-3), 2) := by decide +kernel
theorem dX9_weaken_123 : decode cX9_weaken 123 = .ok (.ireturn, 1) := by decide +kernel
theorem dX9_weaken_124 : decode cX9_weaken 124 = .ok (.aload_n 0, 1) := by decide +kernel
theorem dX9_weaken_125 : decode cX9_weaken 125 = .ok (.invokevirtual 39, 3) := by decide +kernel
theorem dX9_weaken_128 : decode cX9_weaken 128 = .ok (.bipush 20, 2) := by decide +kernel
theorem dX9_weaken_130 : decode cX9_weaken 130 = .ok (.bipush 20, 2) := by decide +kernel
theorem dX9_weaken_132 : decode cX9_weaken 132 = .ok (.iload_n 1, 1) := by decide +kernel
theorem dX9_weaken_133 : decode cX9_weaken 133 = .ok (.imul, 1) := by decide +kernel
theorem dX9_weaken_134 : decode cX9_weaken 134 = .ok (.iadd, 1) := by decide +kernel
theorem dX9_weaken_135 : decode cX9_weaken 135 = .ok (.istore 5, 2) := by decide +kernel
theorem dX9_weaken_137 : decode cX9_weaken 137 = .ok (.aload_n 0, 1) := by decide +kernel
theorem dX9_weaken_138 : decode cX9_weaken 138 = .ok (.getfield 7, 3) := by decide +kernel
theorem dX9_weaken_141 : decode cX9_weaken 141 = .ok (.iload 5, 2) := by decide +kernel
theorem dX9_weaken_143 : decode cX9_weaken 143 = .ok (.iconst 4, 1) := by decide +kernel
theorem dX9_weaken_144 : decode cX9_weaken 144 = .ok (.iadd, 1) := by decide +kernel
theorem dX9_weaken_145 : decode cX9_weaken 145 = .ok (.aload_n 0, 1) := by decide +kernel
theorem dX9_weaken_146 : decode cX9_weaken 146 = .ok (.getfield 7, 3) := by decide +kernel
theorem dX9_weaken_149 : decode cX9_weaken 149 = .ok (.iload 5, 2) := by decide +kernel
theorem dX9_weaken_151 : decode cX9_weaken 151 = .ok (.iconst 3, 1) := by decide +kernel
theorem dX9_weaken_152 : decode cX9_weaken 152 = .ok (.iadd, 1) := by decide +kernel
theorem dX9_weaken_153 : decode cX9_weaken 153 = .ok (.iaload, 1) := by decide +kernel
theorem dX9_weaken_154 : decode cX9_weaken 154 = .ok (.iadd, 1) := by decide +kernel
theorem dX9_weaken_155 : decode cX9_weaken 155 = .ok (.iload_n 2, 1) := by decide +kernel
theorem dX9_weaken_156 : decode cX9_weaken 156 = .ok (.iastore, 1) := by decide +kernel
theorem dX9_weaken_157 : decode cX9_weaken 157 = .ok (.aload_n 0, 1) := by decide +kernel
theorem dX9_weaken_158 : decode cX9_weaken 158 = .ok (.getfield 7, 3) := by decide +kernel
theorem dX9_weaken_161 : decode cX9_weaken 161 = .ok (.iload 5, 2) := by decide +kernel
theorem dX9_weaken_163 : decode cX9_weaken 163 = .ok (.bipush 12, 2) := by decide +kernel
theorem dX9_weaken_165 : decode cX9_weaken 165 = .ok (.iadd, 1) := by decide +kernel
theorem dX9_weaken_166 : decode cX9_weaken 166 = .ok (.aload_n 0, 1) := by decide +kernel
theorem dX9_weaken_167 : decode cX9_weaken 167 = .ok (.getfield 7, 3) := by decide +kernel
theorem dX9_weaken_170 : decode cX9_weaken 170 = .ok (.iload 5, 2) := by decide +kernel
theorem dX9_weaken_172 : decode cX9_weaken 172 = .ok (.iconst 3, 1) := by decide +kernel
theorem dX9_weaken_173 : decode cX9_weaken 173 = .ok (.iadd, 1) := by decide +kernel
theorem dX9_weaken_174 : decode cX9_weaken 174 = .ok (.iaload, 1) := by decide +kernel
theorem dX9_weaken_175 : decode cX9_weaken 175 = .ok (.iadd, 1) := by decide +kernel
theorem dX9_weaken_176 : decode cX9_weaken 176 = .ok (.iload_n 3, 1) := by decide +kernel
theorem dX9_weaken_177 : decode cX9_weaken 177 = .ok (.iastore, 1) := by decide +kernel
theorem dX9_weaken_178 : decode cX9_weaken 178 = .ok (.aload_n 0, 1) := by decide +kernel
theorem dX9_weaken_179 : decode cX9_weaken 179 = .ok (.getfield 7, 3) := by decide +kernel
theorem dX9_weaken_182 : decode cX9_weaken 182 = .ok (.iload 5, 2) := by decide +kernel
theorem dX9_weaken_184 : decode cX9_weaken 184 = .ok (.iconst 3, 1) := by decide +kernel
theorem dX9_weaken_185 : decode cX9_weaken 185 = .ok (.iadd, 1) := by decide +kernel
theorem dX9_weaken_186 : decode cX9_weaken 186 = .ok (.dup2, 1) := by decide +kernel
theorem dX9_weaken_187 : decode cX9_weaken 187 = .ok (.iaload, 1) := by decide +kernel
theorem dX9_weaken_188 : decode cX9_weaken 188 = .ok (.iconst 1, 1) := by decide +kernel
theorem dX9_weaken_189 : decode cX9_weaken 189 = .ok (.iadd, 1) := by decide +kernel
theorem dX9_weaken_190 : decode cX9_weaken 190 = .ok (.iastore, 1) := by decide +kernel
theorem dX9_weaken_191 : decode cX9_weaken 191 = .ok (.aload_n 0, 1) := by decide +kernel
theorem dX9_weaken_192 : decode cX9_weaken 192 = .ok (.getfield 7, 3) := by decide +kernel
theorem dX9_weaken_195 : decode cX9_weaken 195 = .ok (.iload 5, 2) := by decide +kernel
theorem dX9_weaken_197 : decode cX9_weaken 197 = .ok (.iconst 3, 1) := by decide +kernel
theorem dX9_weaken_198 : decode cX9_weaken 198 = .ok (.iadd, 1) := by decide +kernel
theorem dX9_weaken_199 : decode cX9_weaken 199 = .ok (.iaload, 1) := by decide +kernel
theorem dX9_weaken_200 : decode cX9_weaken 200 = .ok (.ireturn, 1) := by decide +kernel
theorem dX9_weakBehind_0 : decode cX9_weakBehind 0 = .ok (.iconst (-1), 1) := by decide +kernel
theorem dX9_weakBehind_1 : decode cX9_weakBehind 1 = .ok (.istore_n 3, 1) := by decide +kernel
theorem dX9_weakBehind_2 : decode cX9_weakBehind 2 = .ok (.iconst 0, 1) := by decide +kernel
theorem dX9_weakBehind_3 : decode cX9_weakBehind 3 = .ok (.istore 4, 2) := by decide +kernel
theorem dX9_weakBehind_5 : decode cX9_weakBehind 5 = .ok (.iload 4, 2) := by decide +kernel
theorem dX9_weakBehind_7 : decode cX9_weakBehind 7 = .ok (.aload_n 0, 1) := by decide +kernel
theorem dX9_weakBehind_8 : decode cX9_weakBehind 8 = .ok (.iload_n 1, 1) := by decide +kernel
theorem dX9_weakBehind_9 : decode cX9_weakBehind 9 = .ok (.iconst 3, 1) := by decide +kernel
theorem dX9_weakBehind_10 : decode cX9_weakBehind 10 = .ok (.invokevirtual 46, 3) := by decide +kernel
theorem dX9_weakBehind_13 : decode cX9_weakBehind 13 = .ok (.if_icmp .ge 84, 3) := by decide +kernel
theorem dX9_weakBehind_16 : decode cX9_weakBehind 16 = .ok (.aload_n 0, 1) := by decide +kernel
theorem dX9_weakBehind_17 : decode cX9_weakBehind 17 = .ok (.iload_n 1, 1) := by decide +kernel
theorem dX9_weakBehind_18 : decode cX9_weakBehind 18 = .ok (.iconst 4, 1) := by decide +kernel
theorem dX9_weakBehind_19 : decode cX9_weakBehind 19 = .ok (.iload 4, 2) := by decide +kernel
theorem dX9_weakBehind_21 : decode cX9_weakBehind 21 = .ok (.iadd, 1) := by decide +kernel
theorem dX9_weakBehind_22 : decode cX9_weakBehind 22 = .ok (.invokevirtual 46, 3) := by decide +kernel
theorem dX9_weakBehind_25 : decode cX9_weakBehind 25 = .ok (.aload_n 0, 1) := by decide +kernel
theorem dX9_weakBehind_26 : decode cX9_weakBehind 26 = .ok (.iload_n 1, 1) := by decide +kernel
theorem dX9_weakBehind_27 : decode cX9_weakBehind 27 = .ok (.iconst 2, 1) := by decide +kernel
theorem dX9_weakBehind_28 : decode cX9_weakBehind 28 = .ok (.invokevirtual 46, 3) := by decide +kernel
theorem dX9_weakBehind_31 : decode cX9_weakBehind 31 = .ok (.if_icmp .le 21, 3) := by decide +kernel
theorem dX9_weakBehind_34 : decode cX9_weakBehind 34 = .ok (.aload_n 0, 1) := by decide +kernel
theorem dX9_weakBehind_35 : decode cX9_weakBehind 35 = .ok (.iload_n 1, 1) := by decide +kernel
theorem dX9_weakBehind_36 : decode cX9_weakBehind 36 = .ok (.bipush 12, 2) := by decide +kernel
theorem dX9_weakBehind_38 : decode cX9_weakBehind 38 = .ok (.iload 4, 2) := by decide +kernel
theorem dX9_weakBehind_40 : decode cX9_weakBehind 40 = .ok (.iadd, 1) := by decide +kernel
theorem dX9_weakBehind_41 : decode cX9_weakBehind 41 = .ok (.invokevirtual 46, 3) := by decide +kernel
theorem dX9_weakBehind_44 : decode cX9_weakBehind 44 = .ok (.iload_n 2, 1) := by decide +kernel
theorem dX9_weakBehind_45 : decode cX9_weakBehind 45 = .ok (.if_icmp .ge 7, 3) := by decide +kernel
theorem dX9_weakBehind_48 : decode cX9_weakBehind 48 = .ok (.iconst 1, 1) := by decide +kernel
theorem dX9_weakBehind_49 : decode cX9_weakBehind 49 = .ok (.goto 4, 3) := by decide +kernel
theorem dX9_weakBehind_52 : decode cX9_weakBehind 52 = .ok (.iconst 0, 1) := by decide +kernel
theorem dX9_weakBehind_53 : decode cX9_weakBehind 53 = .ok (.istore 5, 2) := by decide +kernel
theorem dX9_weakBehind_55 : decode cX9_weakBehind 55 = .ok (.iload 5, 2) := by decide +kernel
theorem dX9_weakBehind_57 : decode cX9_weakBehind 57 = .ok (.ifCond .eq 32, 3) := by decide +kernel
theorem dX9_weakBehind_60 : decode cX9_weakBehind 60 = .ok (.iload_n 3, 1) := by decide +kernel
theorem dX9_weakBehind_61 : decode cX9_weakBehind 61 = .ok (.ifCond .lt 23, 3) := by decide +kernel
theorem dX9_weakBehind_64 : decode cX9_weakBehind 64 = .ok (.aload_n 0, 1) := by decide +kernel
theorem dX9_weakBehind_65 : decode cX9_weakBehind 65 = .ok (.iload_n 1, 1) := by decide +kernel
theorem dX9_weakBehind_66 : decode cX9_weakBehind 66 = .ok (.iconst 4, 1) := by decide +kernel
theorem dX9_weakBehind_67 : decode cX9_weakBehind 67 = .ok (.iload 4, 2) := by decide +kernel
theorem dX9_weakBehind_69 : decode cX9_weakBehind 69 = .ok (.iadd, 1) := by decide +kernel
theorem dX9_weakBehind_70 : decode cX9_weakBehind 70 = .ok (.invokevirtual 46, 3) := by decide +kernel
theorem dX9_weakBehind_73 : decode cX9_weakBehind 73 = .ok (.aload_n 0, 1) := by decide +kernel
theorem dX9_weakBehind_74 : decode cX9_weakBehind 74 = .ok (.iload_n 1, 1) := by decide +kernel
theorem dX9_weakBehind_75 : decode cX9_weakBehind 75 = .ok (.iconst 4, 1) := by decide +kernel
theorem dX9_weakBehind_76 : decode cX9_weakBehind 76 = .ok (.iload_n 3, 1) := by decide +kernel
theorem dX9_weakBehind_77 : decode cX9_weakBehind 77 = .ok (.iadd, 1) := by decide +kernel
theorem dX9_weakBehind_78 : decode cX9_weakBehind 78 = .ok (.invokevirtual 46, 3) := by decide +kernel
theorem dX9_weakBehind_81 : decode cX9_weakBehind 81 = .ok (.if_icmp .ge 8, 3) := by decide +kernel
theorem dX9_weakBehind_84 : decode cX9_weakBehind 84 = .ok (.iload 4, 2) := by decide +kernel
theorem dX9_weakBehind_86 : decode cX9_weakBehind 86 = .ok (.goto 4, 3) := by decide +kernel
theorem dX9_weakBehind_89 : decode cX9_weakBehind 89 = .ok (.iload_n 3, 1) := by decide +kernel
theorem dX9_weakBehind_90 : decode cX9_weakBehind 90 = .ok (.istore_n 3, 1) := by decide +kernel
theorem dX9_weakBehind_91 : decode cX9_weakBehind 91 = .ok (.iinc 4 1, 3) := by decide +kernel
theorem dX9_weakBehind_94 : decode cX9_weakBehind 94 = .ok (.goto (-89), 3) := by decide +kernel
theorem dX9_weakBehind_97 : decode cX9_weakBehind 97 = .ok (.iload_n 3, 1) := by decide +kernel
theorem dX9_weakBehind_98 : decode cX9_weakBehind 98 = .ok (.ireturn, 1) := by decide +kernel
theorem dX9_roll_0 : decode cX9_roll 0 = .ok (.aload_n 0, 1) := by decide +kernel
theorem dX9_roll_1 : decode cX9_roll 1 = .ok (.iload_n 1, 1) := by decide +kernel
theorem dX9_roll_2 : decode cX9_roll 2 = .ok (.invokevirtual 42, 3) := by decide +kernel
theorem dX9_roll_5 : decode cX9_roll 5 = .ok (.ifCond .eq 15, 3) := by decide +kernel
theorem dX9_roll_8 : decode cX9_roll 8 = .ok (.iload_n 2, 1) := by decide +kernel
theorem dX9_roll_9 : decode cX9_roll 9 = .ok (.i2l, 1) := by decide +kernel
theorem dX9_roll_10 : decode cX9_roll 10 = .ok (.lconst 0, 1) := by decide +kernel
theorem dX9_roll_11 : decode cX9_roll 11 = .ok (.ldc2_w 52, 3) := by decide +kernel
theorem dX9_roll_14 : decode cX9_roll 14 = .ok (.invokestatic 33, 3) := by decide +kernel
theorem dX9_roll_17 : decode cX9_roll 17 = .ok (.ifCond .ne 5, 3) := by decide +kernel
theorem dX9_roll_20 : decode cX9_roll 20 = .ok (.iconst (-1), 1) := by decide +kernel
theorem dX9_roll_21 : decode cX9_roll 21 = .ok (.ireturn, 1) := by decide +kernel
theorem dX9_roll_22 : decode cX9_roll 22 = .ok (.iload_n 2, 1) := by decide +kernel
theorem dX9_roll_23 : decode cX9_roll 23 = .ok (.iconst 3, 1) := by decide +kernel
theorem dX9_roll_24 : decode cX9_roll 24 = .ok (.if_icmp .ge 10, 3) := by decide +kernel
theorem dX9_roll_27 : decode cX9_roll 27 = .ok (.aload_n 0, 1) := by decide +kernel
theorem dX9_roll_28 : decode cX9_roll 28 = .ok (.iload_n 1, 1) := by decide +kernel
theorem dX9_roll_29 : decode cX9_roll 29 = .ok (.iload_n 2, 1) := by decide +kernel
theorem dX9_roll_30 : decode cX9_roll 30 = .ok (.invokevirtual 46, 3) := by decide +kernel
theorem dX9_roll_33 : decode cX9_roll 33 = .ok (.ireturn, 1) := by decide +kernel
theorem dX9_roll_34 : decode cX9_roll 34 = .ok (.iconst 0, 1) := by decide +kernel
theorem dX9_roll_35 : decode cX9_roll 35 = .ok (.istore_n 3, 1) := by decide +kernel
theorem dX9_roll_36 : decode cX9_roll 36 = .ok (.iconst 0, 1) := by decide +kernel
theorem dX9_roll_37 : decode cX9_roll 37 = .ok (.istore 4, 2) := by decide +kernel
theorem dX9_roll_39 : decode cX9_roll 39 = .ok (.iload 4, 2) := by decide +kernel
theorem dX9_roll_41 : decode cX9_roll 41 = .ok (.aload_n 0, 1) := by decide +kernel
theorem dX9_roll_42 : decode cX9_roll 42 = .ok (.iload_n 1, 1) := by decide +kernel
theorem dX9_roll_43 : decode cX9_roll 43 = .ok (.iconst 3, 1) := by decide +kernel
theorem dX9_roll_44 : decode cX9_roll 44 = .ok (.invokevirtual 46, 3) := by decide +kernel
theorem dX9_roll_47 : decode cX9_roll 47 = .ok (.if_icmp .ge 35, 3) := by decide +kernel
theorem dX9_roll_50 : decode cX9_roll 50 = .ok (.iload_n 3, 1) := by decide +kernel
theorem dX9_roll_51 : decode cX9_roll 51 = .ok (.aload_n 0, 1) := by decide +kernel
theorem dX9_roll_52 : decode cX9_roll 52 = .ok (.iload_n 1, 1) := by decide +kernel
theorem dX9_roll_53 : decode cX9_roll 53 = .ok (.iconst 4, 1) := by decide +kernel
theorem dX9_roll_54 : decode cX9_roll 54 = .ok (.iload 4, 2) := by decide +kernel
theorem dX9_roll_56 : decode cX9_roll 56 = .ok (.iadd, 1) := by decide +kernel
theorem dX9_roll_57 : decode cX9_roll 57 = .ok (.invokevirtual 46, 3) := by decide +kernel
theorem dX9_roll_60 : decode cX9_roll 60 = .ok (.aload_n 0, 1) := by decide +kernel
theorem dX9_roll_61 : decode cX9_roll 61 = .ok (.iload_n 1, 1) := by decide +kernel
theorem dX9_roll_62 : decode cX9_roll 62 = .ok (.iconst 2, 1) := by decide +kernel
theorem dX9_roll_63 : decode cX9_roll 63 = .ok (.invokevirtual 46, 3) := by decide +kernel
theorem dX9_roll_66 : decode cX9_roll 66 = .ok (.if_icmp .le 7, 3) := by decide +kernel
theorem dX9_roll_69 : decode cX9_roll 69 = .ok (.iconst 1, 1) := by decide +kernel
theorem dX9_roll_70 : decode cX9_roll 70 = .ok (.goto 4, 3) := by decide +kernel
theorem dX9_roll_73 : decode cX9_roll 73 = .ok (.iconst 0, 1) := by decide +kernel
theorem dX9_roll_74 : decode cX9_roll 74 = .ok (.iadd, 1) := by decide +kernel
theorem dX9_roll_75 : decode cX9_roll 75 = .ok (.istore_n 3, 1) := by decide +kernel
theorem dX9_roll_76 : decode cX9_roll 76 = .ok (.iinc 4 1, 3) := by decide +kernel
theorem dX9_roll_79 : decode cX9_roll 79 = .ok (.goto (-40), 3) := by decide +kernel
theorem dX9_roll_82 : decode cX9_roll 82 = .ok (.aload_n 0, 1) := by decide +kernel
theorem dX9_roll_83 : decode cX9_roll 83 = .ok (.iload_n 1, 1) := by decide +kernel
theorem dX9_roll_84 : decode cX9_roll 84 = .ok (.sipush 1000, 3) := by decide +kernel
theorem dX9_roll_87 : decode cX9_roll 87 = .ok (.invokevirtual 54, 3) := by decide +kernel
theorem dX9_roll_90 : decode cX9_roll 90 = .ok (.istore 4, 2) := by decide +kernel
theorem dX9_roll_92 : decode cX9_roll 92 = .ok (.iload_n 2, 1) := by decide +kernel
theorem dX9_roll_93 : decode cX9_roll 93 = .ok (.iconst 3, 1) := by decide +kernel
theorem dX9_roll_94 : decode cX9_roll 94 = .ok (.if_icmp .ne 7, 3) := by decide +kernel
theorem dX9_roll_97 : decode cX9_roll 97 = .ok (.iload_n 3, 1) := by decide +kernel
theorem dX9_roll_98 : decode cX9_roll 98 = .ok (.goto 32, 3) := by decide +kernel
theorem dX9_roll_101 : decode cX9_roll 101 = .ok (.iload 4, 2) := by decide +kernel
theorem dX9_roll_103 : decode cX9_roll 103 = .ok (.ifCond .ge 8, 3) := by decide +kernel
theorem dX9_roll_106 : decode cX9_roll 106 = .ok (.bipush (-4), 2) := by decide +kernel
theorem dX9_roll_108 : decode cX9_roll 108 = .ok (.goto 22, 3) := by decide +kernel
theorem dX9_roll_111 : decode cX9_roll 111 = .ok (.aload_n 0, 1) := by decide +kernel
theorem dX9_roll_112 : decode cX9_roll 112 = .ok (.iload_n 1, 1) := by decide +kernel
theorem dX9_roll_113 : decode cX9_roll 113 = .ok (.iload_n 2, 1) := by decide +kernel
theorem dX9_roll_114 : decode cX9_roll 114 = .ok (.iconst 4, 1) := by decide +kernel
theorem dX9_roll_115 : decode cX9_roll 115 = .ok (.if_icmp .ne 7, 3) := by decide +kernel
theorem dX9_roll_118 : decode cX9_roll 118 = .ok (.iconst 4, 1) := by decide +kernel
theorem dX9_roll_119 : decode cX9_roll 119 = .ok (.goto 5, 3) := by decide +kernel
theorem dX9_roll_122 : decode cX9_roll 122 = .ok (.bipush 12, 2) := by decide +kernel
theorem dX9_roll_124 : decode cX9_roll 124 = .ok (.iload 4, 2) := by decide +kernel
theorem dX9_roll_126 : decode cX9_roll 126 = .ok (.iadd, 1) := by decide +kernel
theorem dX9_roll_127 : decode cX9_roll 127 = .ok (.invokevirtual 46, 3) := by decide +kernel
theorem dX9_roll_130 : decode cX9_roll 130 = .ok (.ireturn, 1) := by decide +kernel
theorem dX9_rollGoes_0 : decode cX9_rollGoes 0 = .ok (.aload_n 0, 1) := by decide +kernel
theorem dX9_rollGoes_1 : decode cX9_rollGoes 1 = .ok (.getfield 7, 3) := by decide +kernel
theorem dX9_rollGoes_4 : decode cX9_rollGoes 4 = .ok (.iconst 0, 1) := by decide +kernel
theorem dX9_rollGoes_5 : decode cX9_rollGoes 5 = .ok (.dup2, 1) := by decide +kernel
theorem dX9_rollGoes_6 : decode cX9_rollGoes 6 = .ok (.iaload, 1) := by decide +kernel
theorem dX9_rollGoes_7 : decode cX9_rollGoes 7 = .ok (.iconst 1, 1) := by decide +kernel
theorem dX9_rollGoes_8 : decode cX9_rollGoes 8 = .ok (.isub, 1) := by decide +kernel
theorem dX9_rollGoes_9 : decode cX9_rollGoes 9 = .ok (.iastore, 1) := by decide +kernel
theorem dX9_rollGoes_10 : decode cX9_rollGoes 10 = .ok (.bipush 20, 2) := by decide +kernel
theorem dX9_rollGoes_12 : decode cX9_rollGoes 12 = .ok (.istore_n 1, 1) := by decide +kernel
theorem dX9_rollGoes_13 : decode cX9_rollGoes 13 = .ok (.iload_n 1, 1) := by decide +kernel
theorem dX9_rollGoes_14 : decode cX9_rollGoes 14 = .ok (.bipush 20, 2) := by decide +kernel
theorem dX9_rollGoes_16 : decode cX9_rollGoes 16 = .ok (.bipush 20, 2) := by decide +kernel
theorem dX9_rollGoes_18 : decode cX9_rollGoes 18 = .ok (.aload_n 0, 1) := by decide +kernel
theorem dX9_rollGoes_19 : decode cX9_rollGoes 19 = .ok (.getfield 7, 3) := by decide +kernel
theorem dX9_rollGoes_22 : decode cX9_rollGoes 22 = .ok (.iconst 0, 1) := by decide +kernel
theorem dX9_rollGoes_23 : decode cX9_rollGoes 23 = .ok (.iaload, 1) := by decide +kernel
theorem dX9_rollGoes_24 : decode cX9_rollGoes 24 = .ok (.imul, 1) := by decide +kernel
theorem dX9_rollGoes_25 : decode cX9_rollGoes 25 = .ok (.iadd, 1) := by decide +kernel
theorem dX9_rollGoes_26 : decode cX9_rollGoes 26 = .ok (.if_icmp .ge 24, 3) := by decide +kernel
theorem dX9_rollGoes_29 : decode cX9_rollGoes 29 = .ok (.aload_n 0, 1) := by decide +kernel
theorem dX9_rollGoes_30 : decode cX9_rollGoes 30 = .ok (.getfield 7, 3) := by decide +kernel
theorem dX9_rollGoes_33 : decode cX9_rollGoes 33 = .ok (.iload_n 1, 1) := by decide +kernel
theorem dX9_rollGoes_34 : decode cX9_rollGoes 34 = .ok (.aload_n 0, 1) := by decide +kernel
theorem dX9_rollGoes_35 : decode cX9_rollGoes 35 = .ok (.getfield 7, 3) := by decide +kernel
theorem dX9_rollGoes_38 : decode cX9_rollGoes 38 = .ok (.iload_n 1, 1) := by decide +kernel
theorem dX9_rollGoes_39 : decode cX9_rollGoes 39 = .ok (.bipush 20, 2) := by decide +kernel
theorem dX9_rollGoes_41 : decode cX9_rollGoes 41 = .ok (.iadd, 1) := by decide +kernel
theorem dX9_rollGoes_42 : decode cX9_rollGoes 42 = .ok (.iaload, 1) := by decide +kernel
theorem dX9_rollGoes_43 : decode cX9_rollGoes 43 = .ok (.iastore, 1) := by decide +kernel
theorem dX9_rollGoes_44 : decode cX9_rollGoes 44 = .ok (.iinc 1 1, 3) := by decide +kernel
theorem dX9_rollGoes_47 : decode cX9_rollGoes 47 = .ok (.goto (-34), 3) := by decide +kernel
theorem dX9_rollGoes_50 : decode cX9_rollGoes 50 = .ok (.return_, 1) := by decide +kernel
theorem dX9_palletAt_0 : decode cX9_palletAt 0 = .ok (.aload_n 0, 1) := by decide +kernel
theorem dX9_palletAt_1 : decode cX9_palletAt 1 = .ok (.getfield 7, 3) := by decide +kernel
theorem dX9_palletAt_4 : decode cX9_palletAt 4 = .ok (.sipush 140, 3) := by decide +kernel
theorem dX9_palletAt_7 : decode cX9_palletAt 7 = .ok (.bipush 6, 2) := by decide +kernel
theorem dX9_palletAt_9 : decode cX9_palletAt 9 = .ok (.iload_n 1, 1) := by decide +kernel
theorem dX9_palletAt_10 : decode cX9_palletAt 10 = .ok (.imul, 1) := by decide +kernel
theorem dX9_palletAt_11 : decode cX9_palletAt 11 = .ok (.iadd, 1) := by decide +kernel
theorem dX9_palletAt_12 : decode cX9_palletAt 12 = .ok (.iload_n 2, 1) := by decide +kernel
theorem dX9_palletAt_13 : decode cX9_palletAt 13 = .ok (.iadd, 1) := by decide +kernel
theorem dX9_palletAt_14 : decode cX9_palletAt 14 = .ok (.iaload, 1) := by decide +kernel
theorem dX9_palletAt_15 : decode cX9_palletAt 15 = .ok (.ireturn, 1) := by decide +kernel
theorem dX9_addPallet_0 : decode cX9_addPallet 0 = .ok (.iload_n 1, 1) := by decide +kernel
theorem dX9_addPallet_1 : decode cX9_addPallet 1 = .ok (.i2l, 1) := by decide +kernel
theorem dX9_addPallet_2 : decode cX9_addPallet 2 = .ok (.ldc2_w 57, 3) := by decide +kernel
theorem dX9_addPallet_5 : decode cX9_addPallet 5 = .ok (.ldc2_w 59, 3) := by decide +kernel
theorem dX9_addPallet_8 : decode cX9_addPallet 8 = .ok (.invokestatic 33, 3) := by decide +kernel
theorem dX9_addPallet_11 : decode cX9_addPallet 11 = .ok (.ifCond .eq 57, 3) := by decide +kernel
theorem dX9_addPallet_14 : decode cX9_addPallet 14 = .ok (.iload_n 2, 1) := by decide +kernel
theorem dX9_addPallet_15 : decode cX9_addPallet 15 = .ok (.i2l, 1) := by decide +kernel
theorem dX9_addPallet_16 : decode cX9_addPallet 16 = .ok (.ldc2_w 57, 3) := by decide +kernel
theorem dX9_addPallet_19 : decode cX9_addPallet 19 = .ok (.ldc2_w 59, 3) := by decide +kernel
theorem dX9_addPallet_22 : decode cX9_addPallet 22 = .ok (.invokestatic 33, 3) := by decide +kernel
theorem dX9_addPallet_25 : decode cX9_addPallet 25 = .ok (.ifCond .eq 43, 3) := by decide +kernel
theorem dX9_addPallet_28 : decode cX9_addPallet 28 = .ok (.iload_n 3, 1) := by decide +kernel
theorem dX9_addPallet_29 : decode cX9_addPallet 29 = .ok (.i2l, 1) := by decide +kernel
theorem dX9_addPallet_30 : decode cX9_addPallet 30 = .ok (.ldc2_w 61, 3) := by decide +kernel
theorem dX9_addPallet_33 : decode cX9_addPallet 33 = .ok (.ldc2_w 63, 3) := by decide +kernel
theorem dX9_addPallet_36 : decode cX9_addPallet 36 = .ok (.invokestatic 33, 3) := by decide +kernel
theorem dX9_addPallet_39 : decode cX9_addPallet 39 = .ok (.ifCond .eq 29, 3) := by decide +kernel
theorem dX9_addPallet_42 : decode cX9_addPallet 42 = .ok (.iload 4, 2) := by decide +kernel
theorem dX9_addPallet_44 : decode cX9_addPallet 44 = .ok (.i2l, 1) := by decide +kernel
theorem dX9_addPallet_45 : decode cX9_addPallet 45 = .ok (.lconst 0, 1) := by decide +kernel
theorem dX9_addPallet_46 : decode cX9_addPallet 46 = .ok (.ldc2_w 65, 3) := by decide +kernel
theorem dX9_addPallet_49 : decode cX9_addPallet 49 = .ok (.invokestatic 33, 3) := by decide +kernel
theorem dX9_addPallet_52 : decode cX9_addPallet 52 = .ok (.ifCond .eq 16, 3) := by decide +kernel
theorem dX9_addPallet_55 : decode cX9_addPallet 55 = .ok (.iload 5, 2) := by decide +kernel
theorem dX9_addPallet_57 : decode cX9_addPallet 57 = .ok (.i2l, 1) := by decide +kernel
theorem dX9_addPallet_58 : decode cX9_addPallet 58 = .ok (.lconst 0, 1) := by decide +kernel
theorem dX9_addPallet_59 : decode cX9_addPallet 59 = .ok (.ldc2_w 67, 3) := by decide +kernel
theorem dX9_addPallet_62 : decode cX9_addPallet 62 = .ok (.invokestatic 33, 3) := by decide +kernel
theorem dX9_addPallet_65 : decode cX9_addPallet 65 = .ok (.ifCond .ne 5, 3) := by decide +kernel
theorem dX9_addPallet_68 : decode cX9_addPallet 68 = .ok (.iconst (-1), 1) := by decide +kernel
theorem dX9_addPallet_69 : decode cX9_addPallet 69 = .ok (.ireturn, 1) := by decide +kernel
theorem dX9_addPallet_70 : decode cX9_addPallet 70 = .ok (.aload_n 0, 1) := by decide +kernel
theorem dX9_addPallet_71 : decode cX9_addPallet 71 = .ok (.getfield 7, 3) := by decide +kernel
theorem dX9_addPallet_74 : decode cX9_addPallet 74 = .ok (.iconst 1, 1) := by decide +kernel
theorem dX9_addPallet_75 : decode cX9_addPallet 75 = .ok (.iaload, 1) := by decide +kernel
theorem dX9_addPallet_76 : decode cX9_addPallet 76 = .ok (.bipush 8, 2) := by decide +kernel
theorem dX9_addPallet_78 : decode cX9_addPallet 78 = .ok (.if_icmp .ne 6, 3) := by decide +kernel
theorem dX9_addPallet_81 : decode cX9_addPallet 81 = .ok (.bipush (-3), 2) := by decide +kernel
theorem dX9_addPallet_83 : decode cX9_addPallet 83 = .ok (.ireturn, 1) := by decide +kernel
theorem dX9_addPallet_84 : decode cX9_addPallet 84 = .ok (.aload_n 0, 1) := by decide +kernel
theorem dX9_addPallet_85 : decode cX9_addPallet 85 = .ok (.invokevirtual 39, 3) := by decide +kernel
theorem dX9_addPallet_88 : decode cX9_addPallet 88 = .ok (.sipush 140, 3) := by decide +kernel
theorem dX9_addPallet_91 : decode cX9_addPallet 91 = .ok (.bipush 6, 2) := by decide +kernel
theorem dX9_addPallet_93 : decode cX9_addPallet 93 = .ok (.aload_n 0, 1) := by decide +kernel
theorem dX9_addPallet_94 : decode cX9_addPallet 94 = .ok (.getfield 7, 3) := by decide +kernel
theorem dX9_addPallet_97 : decode cX9_addPallet 97 = .ok (.iconst 1, 1) := by decide +kernel
theorem dX9_addPallet_98 : decode cX9_addPallet 98 = .ok (.iaload, 1) := by decide +kernel
theorem dX9_addPallet_99 : decode cX9_addPallet 99 = .ok (.imul, 1) := by decide +kernel
theorem dX9_addPallet_100 : decode cX9_addPallet 100 = .ok (.iadd, 1) := by decide +kernel
theorem dX9_addPallet_101 : decode cX9_addPallet 101 = .ok (.istore 6, 2) := by decide +kernel
theorem dX9_addPallet_103 : decode cX9_addPallet 103 = .ok (.aload_n 0, 1) := by decide +kernel
theorem dX9_addPallet_104 : decode cX9_addPallet 104 = .ok (.getfield 7, 3) := by decide +kernel
theorem dX9_addPallet_107 : decode cX9_addPallet 107 = .ok (.iload 6, 2) := by decide +kernel
theorem dX9_addPallet_109 : decode cX9_addPallet 109 = .ok (.aload_n 0, 1) := by decide +kernel
theorem dX9_addPallet_110 : decode cX9_addPallet 110 = .ok (.getfield 7, 3) := by decide +kernel
theorem dX9_addPallet_113 : decode cX9_addPallet 113 = .ok (.iconst 2, 1) := by decide +kernel
theorem dX9_addPallet_114 : decode cX9_addPallet 114 = .ok (.iaload, 1) := by decide +kernel
theorem dX9_addPallet_115 : decode cX9_addPallet 115 = .ok (.iastore, 1) := by decide +kernel
theorem dX9_addPallet_116 : decode cX9_addPallet 116 = .ok (.aload_n 0, 1) := by decide +kernel
theorem dX9_addPallet_117 : decode cX9_addPallet 117 = .ok (.getfield 7, 3) := by decide +kernel
theorem dX9_addPallet_120 : decode cX9_addPallet 120 = .ok (.iload 6, 2) := by decide +kernel
theorem dX9_addPallet_122 : decode cX9_addPallet 122 = .ok (.iconst 1, 1) := by decide +kernel
theorem dX9_addPallet_123 : decode cX9_addPallet 123 = .ok (.iadd, 1) := by decide +kernel
theorem dX9_addPallet_124 : decode cX9_addPallet 124 = .ok (.iload_n 1, 1) := by decide +kernel
theorem dX9_addPallet_125 : decode cX9_addPallet 125 = .ok (.iastore, 1) := by decide +kernel
theorem dX9_addPallet_126 : decode cX9_addPallet 126 = .ok (.aload_n 0, 1) := by decide +kernel
theorem dX9_addPallet_127 : decode cX9_addPallet 127 = .ok (.getfield 7, 3) := by decide +kernel
theorem dX9_addPallet_130 : decode cX9_addPallet 130 = .ok (.iload 6, 2) := by decide +kernel
theorem dX9_addPallet_132 : decode cX9_addPallet 132 = .ok (.iconst 2, 1) := by decide +kernel
theorem dX9_addPallet_133 : decode cX9_addPallet 133 = .ok (.iadd, 1) := by decide +kernel
theorem dX9_addPallet_134 : decode cX9_addPallet 134 = .ok (.iload_n 2, 1) := by decide +kernel
theorem dX9_addPallet_135 : decode cX9_addPallet 135 = .ok (.iastore, 1) := by decide +kernel
theorem dX9_addPallet_136 : decode cX9_addPallet 136 = .ok (.aload_n 0, 1) := by decide +kernel
theorem dX9_addPallet_137 : decode cX9_addPallet 137 = .ok (.getfield 7, 3) := by decide +kernel
theorem dX9_addPallet_140 : decode cX9_addPallet 140 = .ok (.iload 6, 2) := by decide +kernel
theorem dX9_addPallet_142 : decode cX9_addPallet 142 = .ok (.iconst 3, 1) := by decide +kernel
theorem dX9_addPallet_143 : decode cX9_addPallet 143 = .ok (.iadd, 1) := by decide +kernel
theorem dX9_addPallet_144 : decode cX9_addPallet 144 = .ok (.iload_n 3, 1) := by decide +kernel
theorem dX9_addPallet_145 : decode cX9_addPallet 145 = .ok (.iastore, 1) := by decide +kernel
theorem dX9_addPallet_146 : decode cX9_addPallet 146 = .ok (.aload_n 0, 1) := by decide +kernel
theorem dX9_addPallet_147 : decode cX9_addPallet 147 = .ok (.getfield 7, 3) := by decide +kernel
theorem dX9_addPallet_150 : decode cX9_addPallet 150 = .ok (.iload 6, 2) := by decide +kernel
theorem dX9_addPallet_152 : decode cX9_addPallet 152 = .ok (.iconst 4, 1) := by decide +kernel
theorem dX9_addPallet_153 : decode cX9_addPallet 153 = .ok (.iadd, 1) := by decide +kernel
theorem dX9_addPallet_154 : decode cX9_addPallet 154 = .ok (.iload 4, 2) := by decide +kernel
theorem dX9_addPallet_156 : decode cX9_addPallet 156 = .ok (.iastore, 1) := by decide +kernel
theorem dX9_addPallet_157 : decode cX9_addPallet 157 = .ok (.aload_n 0, 1) := by decide +kernel
theorem dX9_addPallet_158 : decode cX9_addPallet 158 = .ok (.getfield 7, 3) := by decide +kernel
theorem dX9_addPallet_161 : decode cX9_addPallet 161 = .ok (.iload 6, 2) := by decide +kernel
theorem dX9_addPallet_163 : decode cX9_addPallet 163 = .ok (.iconst 5, 1) := by decide +kernel
theorem dX9_addPallet_164 : decode cX9_addPallet 164 = .ok (.iadd, 1) := by decide +kernel
theorem dX9_addPallet_165 : decode cX9_addPallet 165 = .ok (.iload 5, 2) := by decide +kernel
theorem dX9_addPallet_167 : decode cX9_addPallet 167 = .ok (.iastore, 1) := by decide +kernel
theorem dX9_addPallet_168 : decode cX9_addPallet 168 = .ok (.aload_n 0, 1) := by decide +kernel
theorem dX9_addPallet_169 : decode cX9_addPallet 169 = .ok (.getfield 7, 3) := by decide +kernel
theorem dX9_addPallet_172 : decode cX9_addPallet 172 = .ok (.iconst 2, 1) := by decide +kernel
theorem dX9_addPallet_173 : decode cX9_addPallet 173 = .ok (.dup2, 1) := by decide +kernel
theorem dX9_addPallet_174 : decode cX9_addPallet 174 = .ok (.iaload, 1) := by decide +kernel
theorem dX9_addPallet_175 : decode cX9_addPallet 175 = .ok (.iconst 1, 1) := by decide +kernel
theorem dX9_addPallet_176 : decode cX9_addPallet 176 = .ok (.iadd, 1) := by decide +kernel
theorem dX9_addPallet_177 : decode cX9_addPallet 177 = .ok (.iastore, 1) := by decide +kernel
theorem dX9_addPallet_178 : decode cX9_addPallet 178 = .ok (.aload_n 0, 1) := by decide +kernel
theorem dX9_addPallet_179 : decode cX9_addPallet 179 = .ok (.getfield 7, 3) := by decide +kernel
theorem dX9_addPallet_182 : decode cX9_addPallet 182 = .ok (.iconst 1, 1) := by decide +kernel
theorem dX9_addPallet_183 : decode cX9_addPallet 183 = .ok (.dup2, 1) := by decide +kernel
theorem dX9_addPallet_184 : decode cX9_addPallet 184 = .ok (.iaload, 1) := by decide +kernel
theorem dX9_addPallet_185 : decode cX9_addPallet 185 = .ok (.iconst 1, 1) := by decide +kernel
theorem dX9_addPallet_186 : decode cX9_addPallet 186 = .ok (.iadd, 1) := by decide +kernel
theorem dX9_addPallet_187 : decode cX9_addPallet 187 = .ok (.iastore, 1) := by decide +kernel
theorem dX9_addPallet_188 : decode cX9_addPallet 188 = .ok (.aload_n 0, 1) := by decide +kernel
theorem dX9_addPallet_189 : decode cX9_addPallet 189 = .ok (.getfield 7, 3) := by decide +kernel
theorem dX9_addPallet_192 : decode cX9_addPallet 192 = .ok (.iconst 2, 1) := by decide +kernel
theorem dX9_addPallet_193 : decode cX9_addPallet 193 = .ok (.iaload, 1) := by decide +kernel
theorem dX9_addPallet_194 : decode cX9_addPallet 194 = .ok (.iconst 1, 1) := by decide +kernel
theorem dX9_addPallet_195 : decode cX9_addPallet 195 = .ok (.isub, 1) := by decide +kernel
theorem dX9_addPallet_196 : decode cX9_addPallet 196 = .ok (.ireturn, 1) := by decide +kernel
theorem dX9_palletGoes_0 : decode cX9_palletGoes 0 = .ok (.aload_n 0, 1) := by decide +kernel
theorem dX9_palletGoes_1 : decode cX9_palletGoes 1 = .ok (.getfield 7, 3) := by decide +kernel
theorem dX9_palletGoes_4 : decode cX9_palletGoes 4 = .ok (.iconst 1, 1) := by decide +kernel
theorem dX9_palletGoes_5 : decode cX9_palletGoes 5 = .ok (.dup2, 1) := by decide +kernel
theorem dX9_palletGoes_6 : decode cX9_palletGoes 6 = .ok (.iaload, 1) := by decide +kernel
theorem dX9_palletGoes_7 : decode cX9_palletGoes 7 = .ok (.iconst 1, 1) := by decide +kernel
theorem dX9_palletGoes_8 : decode cX9_palletGoes 8 = .ok (.isub, 1) := by decide +kernel
theorem dX9_palletGoes_9 : decode cX9_palletGoes 9 = .ok (.iastore, 1) := by decide +kernel
theorem dX9_palletGoes_10 : decode cX9_palletGoes 10 = .ok (.sipush 140, 3) := by decide +kernel
theorem dX9_palletGoes_13 : decode cX9_palletGoes 13 = .ok (.bipush 6, 2) := by decide +kernel
theorem dX9_palletGoes_15 : decode cX9_palletGoes 15 = .ok (.iload_n 1, 1) := by decide +kernel
theorem dX9_palletGoes_16 : decode cX9_palletGoes 16 = .ok (.imul, 1) := by decide +kernel
theorem dX9_palletGoes_17 : decode cX9_palletGoes 17 = .ok (.iadd, 1) := by decide +kernel
theorem dX9_palletGoes_18 : decode cX9_palletGoes 18 = .ok (.istore_n 2, 1) := by decide +kernel
theorem dX9_palletGoes_19 : decode cX9_palletGoes 19 = .ok (.iload_n 2, 1) := by decide +kernel
theorem dX9_palletGoes_20 : decode cX9_palletGoes 20 = .ok (.sipush 140, 3) := by decide +kernel
theorem dX9_palletGoes_23 : decode cX9_palletGoes 23 = .ok (.bipush 6, 2) := by decide +kernel
theorem dX9_palletGoes_25 : decode cX9_palletGoes 25 = .ok (.aload_n 0, 1) := by decide +kernel
theorem dX9_palletGoes_26 : decode cX9_palletGoes 26 = .ok (.getfield 7, 3) := by decide +kernel
theorem dX9_palletGoes_29 : decode cX9_palletGoes 29 = .ok (.iconst 1, 1) := by decide +kernel
theorem dX9_palletGoes_30 : decode cX9_palletGoes 30 = .ok (.iaload, 1) := by decide +kernel
theorem dX9_palletGoes_31 : decode cX9_palletGoes 31 = .ok (.imul, 1) := by decide +kernel
theorem dX9_palletGoes_32 : decode cX9_palletGoes 32 = .ok (.iadd, 1) := by decide +kernel
theorem dX9_palletGoes_33 : decode cX9_palletGoes 33 = .ok (.if_icmp .ge 24, 3) := by decide +kernel
theorem dX9_palletGoes_36 : decode cX9_palletGoes 36 = .ok (.aload_n 0, 1) := by decide +kernel
theorem dX9_palletGoes_37 : decode cX9_palletGoes 37 = .ok (.getfield 7, 3) := by decide +kernel
theorem dX9_palletGoes_40 : decode cX9_palletGoes 40 = .ok (.iload_n 2, 1) := by decide +kernel
theorem dX9_palletGoes_41 : decode cX9_palletGoes 41 = .ok (.aload_n 0, 1) := by decide +kernel
theorem dX9_palletGoes_42 : decode cX9_palletGoes 42 = .ok (.getfield 7, 3) := by decide +kernel
theorem dX9_palletGoes_45 : decode cX9_palletGoes 45 = .ok (.iload_n 2, 1) := by decide +kernel
theorem dX9_palletGoes_46 : decode cX9_palletGoes 46 = .ok (.bipush 6, 2) := by decide +kernel
theorem dX9_palletGoes_48 : decode cX9_palletGoes 48 = .ok (.iadd, 1) := by decide +kernel
theorem dX9_palletGoes_49 : decode cX9_palletGoes 49 = .ok (.iaload, 1) := by decide +kernel
theorem dX9_palletGoes_50 : decode cX9_palletGoes 50 = .ok (.iastore, 1) := by decide +kernel
theorem dX9_palletGoes_51 : decode cX9_palletGoes 51 = .ok (.iinc 2 1, 3) := by decide +kernel
theorem dX9_palletGoes_54 : decode cX9_palletGoes 54 = .ok (.goto (-35), 3) := by decide +kernel
theorem dX9_palletGoes_57 : decode cX9_palletGoes 57 = .ok (.return_, 1) := by decide +kernel
theorem dX9_drop_0 : decode cX9_drop 0 = .ok (.iload_n 1, 1) := by decide +kernel
theorem dX9_drop_1 : decode cX9_drop 1 = .ok (.ifCond .ge 5, 3) := by decide +kernel
theorem dX9_drop_4 : decode cX9_drop 4 = .ok (.iconst (-1), 1) := by decide +kernel
theorem dX9_drop_5 : decode cX9_drop 5 = .ok (.ireturn, 1) := by decide +kernel
theorem dX9_drop_6 : decode cX9_drop 6 = .ok (.iconst 0, 1) := by decide +kernel
theorem dX9_drop_7 : decode cX9_drop 7 = .ok (.istore_n 2, 1) := by decide +kernel
theorem dX9_drop_8 : decode cX9_drop 8 = .ok (.iload_n 2, 1) := by decide +kernel
theorem dX9_drop_9 : decode cX9_drop 9 = .ok (.aload_n 0, 1) := by decide +kernel
theorem dX9_drop_10 : decode cX9_drop 10 = .ok (.getfield 7, 3) := by decide +kernel
theorem dX9_drop_13 : decode cX9_drop 13 = .ok (.iconst 1, 1) := by decide +kernel
theorem dX9_drop_14 : decode cX9_drop 14 = .ok (.iaload, 1) := by decide +kernel
theorem dX9_drop_15 : decode cX9_drop 15 = .ok (.if_icmp .ge 35, 3) := by decide +kernel
theorem dX9_drop_18 : decode cX9_drop 18 = .ok (.aload_n 0, 1) := by decide +kernel
theorem dX9_drop_19 : decode cX9_drop 19 = .ok (.iload_n 2, 1) := by decide +kernel
theorem dX9_drop_20 : decode cX9_drop 20 = .ok (.iconst 0, 1) := by decide +kernel
theorem dX9_drop_21 : decode cX9_drop 21 = .ok (.invokevirtual 69, 3) := by decide +kernel
theorem dX9_drop_24 : decode cX9_drop 24 = .ok (.iload_n 1, 1) := by decide +kernel
theorem dX9_drop_25 : decode cX9_drop 25 = .ok (.if_icmp .ne 19, 3) := by decide +kernel
theorem dX9_drop_28 : decode cX9_drop 28 = .ok (.aload_n 0, 1) := by decide +kernel
theorem dX9_drop_29 : decode cX9_drop 29 = .ok (.invokevirtual 39, 3) := by decide +kernel
theorem dX9_drop_32 : decode cX9_drop 32 = .ok (.aload_n 0, 1) := by decide +kernel
theorem dX9_drop_33 : decode cX9_drop 33 = .ok (.iload_n 2, 1) := by decide +kernel
theorem dX9_drop_34 : decode cX9_drop 34 = .ok (.invokevirtual 72, 3) := by decide +kernel
theorem dX9_drop_37 : decode cX9_drop 37 = .ok (.aload_n 0, 1) := by decide +kernel
theorem dX9_drop_38 : decode cX9_drop 38 = .ok (.getfield 7, 3) := by decide +kernel
theorem dX9_drop_41 : decode cX9_drop 41 = .ok (.iconst 1, 1) := by decide +kernel
theorem dX9_drop_42 : decode cX9_drop 42 = .ok (.iaload, 1) := by decide +kernel
theorem dX9_drop_43 : decode cX9_drop 43 = .ok (.ireturn, 1) := by decide +kernel
theorem dX9_drop_44 : decode cX9_drop 44 = .ok (.iinc 2 1, 3) := by decide +kernel
theorem dX9_drop_47 : decode cX9_drop 47 = .ok (.goto (-39), 3) := by decide +kernel
theorem dX9_drop_50 : decode cX9_drop 50 = .ok (.bipush (-4), 2) := by decide +kernel
theorem dX9_drop_52 : decode cX9_drop 52 = .ok (.ireturn, 1) := by decide +kernel
theorem dX9_byTurn_0 : decode cX9_byTurn 0 = .ok (.iconst 0, 1) := by decide +kernel
theorem dX9_byTurn_1 : decode cX9_byTurn 1 = .ok (.istore_n 2, 1) := by decide +kernel
theorem dX9_byTurn_2 : decode cX9_byTurn 2 = .ok (.iload_n 2, 1) := by decide +kernel
theorem dX9_byTurn_3 : decode cX9_byTurn 3 = .ok (.aload_n 0, 1) := by decide +kernel
theorem dX9_byTurn_4 : decode cX9_byTurn 4 = .ok (.getfield 7, 3) := by decide +kernel
theorem dX9_byTurn_7 : decode cX9_byTurn 7 = .ok (.iconst 1, 1) := by decide +kernel
theorem dX9_byTurn_8 : decode cX9_byTurn 8 = .ok (.iaload, 1) := by decide +kernel
theorem dX9_byTurn_9 : decode cX9_byTurn 9 = .ok (.if_icmp .ge 94, 3) := by decide +kernel
theorem dX9_byTurn_12 : decode cX9_byTurn 12 = .ok (.iconst 0, 1) := by decide +kernel
theorem dX9_byTurn_13 : decode cX9_byTurn 13 = .ok (.istore_n 3, 1) := by decide +kernel
theorem dX9_byTurn_14 : decode cX9_byTurn 14 = .ok (.iconst 0, 1) := by decide +kernel
theorem dX9_byTurn_15 : decode cX9_byTurn 15 = .ok (.istore 4, 2) := by decide +kernel
theorem dX9_byTurn_17 : decode cX9_byTurn 17 = .ok (.iload 4, 2) := by decide +kernel
theorem dX9_byTurn_19 : decode cX9_byTurn 19 = .ok (.aload_n 0, 1) := by decide +kernel
theorem dX9_byTurn_20 : decode cX9_byTurn 20 = .ok (.getfield 7, 3) := by decide +kernel
theorem dX9_byTurn_23 : decode cX9_byTurn 23 = .ok (.iconst 1, 1) := by decide +kernel
theorem dX9_byTurn_24 : decode cX9_byTurn 24 = .ok (.iaload, 1) := by decide +kernel
theorem dX9_byTurn_25 : decode cX9_byTurn 25 = .ok (.if_icmp .ge 65, 3) := by decide +kernel
theorem dX9_byTurn_28 : decode cX9_byTurn 28 = .ok (.iload_n 3, 1) := by decide +kernel
theorem dX9_byTurn_29 : decode cX9_byTurn 29 = .ok (.aload_n 0, 1) := by decide +kernel
theorem dX9_byTurn_30 : decode cX9_byTurn 30 = .ok (.iload 4, 2) := by decide +kernel
theorem dX9_byTurn_32 : decode cX9_byTurn 32 = .ok (.iconst 5, 1) := by decide +kernel
theorem dX9_byTurn_33 : decode cX9_byTurn 33 = .ok (.invokevirtual 69, 3) := by decide +kernel
theorem dX9_byTurn_36 : decode cX9_byTurn 36 = .ok (.aload_n 0, 1) := by decide +kernel
theorem dX9_byTurn_37 : decode cX9_byTurn 37 = .ok (.iload_n 2, 1) := by decide +kernel
theorem dX9_byTurn_38 : decode cX9_byTurn 38 = .ok (.iconst 5, 1) := by decide +kernel
theorem dX9_byTurn_39 : decode cX9_byTurn 39 = .ok (.invokevirtual 69, 3) := by decide +kernel
theorem dX9_byTurn_42 : decode cX9_byTurn 42 = .ok (.if_icmp .lt 35, 3) := by decide +kernel
theorem dX9_byTurn_45 : decode cX9_byTurn 45 = .ok (.aload_n 0, 1) := by decide +kernel
theorem dX9_byTurn_46 : decode cX9_byTurn 46 = .ok (.iload 4, 2) := by decide +kernel
theorem dX9_byTurn_48 : decode cX9_byTurn 48 = .ok (.iconst 5, 1) := by decide +kernel
theorem dX9_byTurn_49 : decode cX9_byTurn 49 = .ok (.invokevirtual 69, 3) := by decide +kernel
theorem dX9_byTurn_52 : decode cX9_byTurn 52 = .ok (.aload_n 0, 1) := by decide +kernel
theorem dX9_byTurn_53 : decode cX9_byTurn 53 = .ok (.iload_n 2, 1) := by decide +kernel
theorem dX9_byTurn_54 : decode cX9_byTurn 54 = .ok (.iconst 5, 1) := by decide +kernel
theorem dX9_byTurn_55 : decode cX9_byTurn 55 = .ok (.invokevirtual 69, 3) := by decide +kernel
theorem dX9_byTurn_58 : decode cX9_byTurn 58 = .ok (.if_icmp .ne 23, 3) := by decide +kernel
theorem dX9_byTurn_61 : decode cX9_byTurn 61 = .ok (.aload_n 0, 1) := by decide +kernel
theorem dX9_byTurn_62 : decode cX9_byTurn 62 = .ok (.iload 4, 2) := by decide +kernel
theorem dX9_byTurn_64 : decode cX9_byTurn 64 = .ok (.iconst 0, 1) := by decide +kernel
theorem dX9_byTurn_65 : decode cX9_byTurn 65 = .ok (.invokevirtual 69, 3) := by decide +kernel
theorem dX9_byTurn_68 : decode cX9_byTurn 68 = .ok (.aload_n 0, 1) := by decide +kernel
theorem dX9_byTurn_69 : decode cX9_byTurn 69 = .ok (.iload_n 2, 1) := by decide +kernel
theorem dX9_byTurn_70 : decode cX9_byTurn 70 = .ok (.iconst 0, 1) := by decide +kernel
theorem dX9_byTurn_71 : decode cX9_byTurn 71 = .ok (.invokevirtual 69, 3) := by decide +kernel
theorem dX9_byTurn_74 : decode cX9_byTurn 74 = .ok (.if_icmp .ge 7, 3) := by decide +kernel
theorem dX9_byTurn_77 : decode cX9_byTurn 77 = .ok (.iconst 1, 1) := by decide +kernel
theorem dX9_byTurn_78 : decode cX9_byTurn 78 = .ok (.goto 4, 3) := by decide +kernel
theorem dX9_byTurn_81 : decode cX9_byTurn 81 = .ok (.iconst 0, 1) := by decide +kernel
theorem dX9_byTurn_82 : decode cX9_byTurn 82 = .ok (.iadd, 1) := by decide +kernel
theorem dX9_byTurn_83 : decode cX9_byTurn 83 = .ok (.istore_n 3, 1) := by decide +kernel
theorem dX9_byTurn_84 : decode cX9_byTurn 84 = .ok (.iinc 4 1, 3) := by decide +kernel
theorem dX9_byTurn_87 : decode cX9_byTurn 87 = .ok (.goto (-70), 3) := by decide +kernel
theorem dX9_byTurn_90 : decode cX9_byTurn 90 = .ok (.iload_n 3, 1) := by decide +kernel
theorem dX9_byTurn_91 : decode cX9_byTurn 91 = .ok (.iload_n 1, 1) := by decide +kernel
theorem dX9_byTurn_92 : decode cX9_byTurn 92 = .ok (.if_icmp .ne 5, 3) := by decide +kernel
theorem dX9_byTurn_95 : decode cX9_byTurn 95 = .ok (.iload_n 2, 1) := by decide +kernel
theorem dX9_byTurn_96 : decode cX9_byTurn 96 = .ok (.ireturn, 1) := by decide +kernel
theorem dX9_byTurn_97 : decode cX9_byTurn 97 = .ok (.iinc 2 1, 3) := by decide +kernel
theorem dX9_byTurn_100 : decode cX9_byTurn 100 = .ok (.goto (-98), 3) := by decide +kernel
theorem dX9_byTurn_103 : decode cX9_byTurn 103 = .ok (.iconst (-1), 1) := by decide +kernel
theorem dX9_byTurn_104 : decode cX9_byTurn 104 = .ok (.ireturn, 1) := by decide +kernel
theorem dX9_waiting_0 : decode cX9_waiting 0 = .ok (.iload_n 1, 1) := by decide +kernel
theorem dX9_waiting_1 : decode cX9_waiting 1 = .ok (.ifCond .lt 15, 3) := by decide +kernel
theorem dX9_waiting_4 : decode cX9_waiting 4 = .ok (.iload_n 2, 1) := by decide +kernel
theorem dX9_waiting_5 : decode cX9_waiting 5 = .ok (.i2l, 1) := by decide +kernel
theorem dX9_waiting_6 : decode cX9_waiting 6 = .ok (.lconst 0, 1) := by decide +kernel
theorem dX9_waiting_7 : decode cX9_waiting 7 = .ok (.ldc2_w 52, 3) := by decide +kernel
theorem dX9_waiting_10 : decode cX9_waiting 10 = .ok (.invokestatic 33, 3) := by decide +kernel
theorem dX9_waiting_13 : decode cX9_waiting 13 = .ok (.ifCond .ne 5, 3) := by decide +kernel
theorem dX9_waiting_16 : decode cX9_waiting 16 = .ok (.iconst (-1), 1) := by decide +kernel
theorem dX9_waiting_17 : decode cX9_waiting 17 = .ok (.ireturn, 1) := by decide +kernel
theorem dX9_waiting_18 : decode cX9_waiting 18 = .ok (.aload_n 0, 1) := by decide +kernel
theorem dX9_waiting_19 : decode cX9_waiting 19 = .ok (.iload_n 1, 1) := by decide +kernel
theorem dX9_waiting_20 : decode cX9_waiting 20 = .ok (.invokevirtual 76, 3) := by decide +kernel
theorem dX9_waiting_23 : decode cX9_waiting 23 = .ok (.istore_n 3, 1) := by decide +kernel
theorem dX9_waiting_24 : decode cX9_waiting 24 = .ok (.iload_n 3, 1) := by decide +kernel
theorem dX9_waiting_25 : decode cX9_waiting 25 = .ok (.ifCond .ge 8, 3) := by decide +kernel
theorem dX9_waiting_28 : decode cX9_waiting 28 = .ok (.bipush (-4), 2) := by decide +kernel
theorem dX9_waiting_30 : decode cX9_waiting 30 = .ok (.goto 9, 3) := by decide +kernel
theorem dX9_waiting_33 : decode cX9_waiting 33 = .ok (.aload_n 0, 1) := by decide +kernel
theorem dX9_waiting_34 : decode cX9_waiting 34 = .ok (.iload_n 3, 1) := by decide +kernel
theorem dX9_waiting_35 : decode cX9_waiting 35 = .ok (.iload_n 2, 1) := by decide +kernel
theorem dX9_waiting_36 : decode cX9_waiting 36 = .ok (.invokevirtual 69, 3) := by decide +kernel
theorem dX9_waiting_39 : decode cX9_waiting 39 = .ok (.ireturn, 1) := by decide +kernel
theorem dX9_set_0 : decode cX9_set 0 = .ok (.iload_n 1, 1) := by decide +kernel
theorem dX9_set_1 : decode cX9_set 1 = .ok (.i2l, 1) := by decide +kernel
theorem dX9_set_2 : decode cX9_set 2 = .ok (.lconst 0, 1) := by decide +kernel
theorem dX9_set_3 : decode cX9_set 3 = .ok (.lconst 1, 1) := by decide +kernel
theorem dX9_set_4 : decode cX9_set 4 = .ok (.invokestatic 33, 3) := by decide +kernel
theorem dX9_set_7 : decode cX9_set 7 = .ok (.ifCond .eq 25, 3) := by decide +kernel
theorem dX9_set_10 : decode cX9_set 10 = .ok (.iload_n 2, 1) := by decide +kernel
theorem dX9_set_11 : decode cX9_set 11 = .ok (.i2l, 1) := by decide +kernel
theorem dX9_set_12 : decode cX9_set 12 = .ok (.lconst 0, 1) := by decide +kernel
theorem dX9_set_13 : decode cX9_set 13 = .ok (.iload_n 1, 1) := by decide +kernel
theorem dX9_set_14 : decode cX9_set 14 = .ok (.ifCond .ne 9, 3) := by decide +kernel
theorem dX9_set_17 : decode cX9_set 17 = .ok (.ldc2_w 80, 3) := by decide +kernel
theorem dX9_set_20 : decode cX9_set 20 = .ok (.goto 6, 3) := by decide +kernel
theorem dX9_set_23 : decode cX9_set 23 = .ok (.ldc2_w 57, 3) := by decide +kernel
theorem dX9_set_26 : decode cX9_set 26 = .ok (.invokestatic 33, 3) := by decide +kernel
theorem dX9_set_29 : decode cX9_set 29 = .ok (.ifCond .ne 5, 3) := by decide +kernel
theorem dX9_set_32 : decode cX9_set 32 = .ok (.iconst (-1), 1) := by decide +kernel
theorem dX9_set_33 : decode cX9_set 33 = .ok (.ireturn, 1) := by decide +kernel
theorem dX9_set_34 : decode cX9_set 34 = .ok (.aload_n 0, 1) := by decide +kernel
theorem dX9_set_35 : decode cX9_set 35 = .ok (.invokevirtual 39, 3) := by decide +kernel
theorem dX9_set_38 : decode cX9_set 38 = .ok (.aload_n 0, 1) := by decide +kernel
theorem dX9_set_39 : decode cX9_set 39 = .ok (.getfield 7, 3) := by decide +kernel
theorem dX9_set_42 : decode cX9_set 42 = .ok (.iconst 4, 1) := by decide +kernel
theorem dX9_set_43 : decode cX9_set 43 = .ok (.iload_n 1, 1) := by decide +kernel
theorem dX9_set_44 : decode cX9_set 44 = .ok (.iadd, 1) := by decide +kernel
theorem dX9_set_45 : decode cX9_set 45 = .ok (.iaload, 1) := by decide +kernel
theorem dX9_set_46 : decode cX9_set 46 = .ok (.istore_n 3, 1) := by decide +kernel
theorem dX9_set_47 : decode cX9_set 47 = .ok (.aload_n 0, 1) := by decide +kernel
theorem dX9_set_48 : decode cX9_set 48 = .ok (.getfield 7, 3) := by decide +kernel
theorem dX9_set_51 : decode cX9_set 51 = .ok (.iconst 4, 1) := by decide +kernel
theorem dX9_set_52 : decode cX9_set 52 = .ok (.iload_n 1, 1) := by decide +kernel
theorem dX9_set_53 : decode cX9_set 53 = .ok (.iadd, 1) := by decide +kernel
theorem dX9_set_54 : decode cX9_set 54 = .ok (.iload_n 2, 1) := by decide +kernel
theorem dX9_set_55 : decode cX9_set 55 = .ok (.iastore, 1) := by decide +kernel
theorem dX9_set_56 : decode cX9_set 56 = .ok (.iload_n 3, 1) := by decide +kernel
theorem dX9_set_57 : decode cX9_set 57 = .ok (.ireturn, 1) := by decide +kernel
theorem dX9_count_0 : decode cX9_count 0 = .ok (.iload_n 1, 1) := by decide +kernel
theorem dX9_count_1 : decode cX9_count 1 = .ok (.tableswitch 105 0 8 #[51, 58, 65, 73, 80, 80, 87, 92, 97], 51) := by decide +kernel
theorem dX9_count_52 : decode cX9_count 52 = .ok (.aload_n 0, 1) := by decide +kernel
theorem dX9_count_53 : decode cX9_count 53 = .ok (.getfield 7, 3) := by decide +kernel
theorem dX9_count_56 : decode cX9_count 56 = .ok (.iconst 0, 1) := by decide +kernel
theorem dX9_count_57 : decode cX9_count 57 = .ok (.iaload, 1) := by decide +kernel
theorem dX9_count_58 : decode cX9_count 58 = .ok (.ireturn, 1) := by decide +kernel
theorem dX9_count_59 : decode cX9_count 59 = .ok (.aload_n 0, 1) := by decide +kernel
theorem dX9_count_60 : decode cX9_count 60 = .ok (.getfield 7, 3) := by decide +kernel
theorem dX9_count_63 : decode cX9_count 63 = .ok (.iconst 1, 1) := by decide +kernel
theorem dX9_count_64 : decode cX9_count 64 = .ok (.iaload, 1) := by decide +kernel
theorem dX9_count_65 : decode cX9_count 65 = .ok (.ireturn, 1) := by decide +kernel
theorem dX9_count_66 : decode cX9_count 66 = .ok (.aload_n 0, 1) := by decide +kernel
theorem dX9_count_67 : decode cX9_count 67 = .ok (.getfield 7, 3) := by decide +kernel
theorem dX9_count_70 : decode cX9_count 70 = .ok (.bipush 7, 2) := by decide +kernel
theorem dX9_count_72 : decode cX9_count 72 = .ok (.iaload, 1) := by decide +kernel
theorem dX9_count_73 : decode cX9_count 73 = .ok (.ireturn, 1) := by decide +kernel
theorem dX9_count_74 : decode cX9_count 74 = .ok (.aload_n 0, 1) := by decide +kernel
theorem dX9_count_75 : decode cX9_count 75 = .ok (.getfield 7, 3) := by decide +kernel
theorem dX9_count_78 : decode cX9_count 78 = .ok (.iconst 3, 1) := by decide +kernel
theorem dX9_count_79 : decode cX9_count 79 = .ok (.iaload, 1) := by decide +kernel
theorem dX9_count_80 : decode cX9_count 80 = .ok (.ireturn, 1) := by decide +kernel
theorem dX9_count_81 : decode cX9_count 81 = .ok (.aload_n 0, 1) := by decide +kernel
theorem dX9_count_82 : decode cX9_count 82 = .ok (.getfield 7, 3) := by decide +kernel
theorem dX9_count_85 : decode cX9_count 85 = .ok (.iload_n 1, 1) := by decide +kernel
theorem dX9_count_86 : decode cX9_count 86 = .ok (.iaload, 1) := by decide +kernel
theorem dX9_count_87 : decode cX9_count 87 = .ok (.ireturn, 1) := by decide +kernel
theorem dX9_count_88 : decode cX9_count 88 = .ok (.aload_n 0, 1) := by decide +kernel
theorem dX9_count_89 : decode cX9_count 89 = .ok (.getfield 25, 3) := by decide +kernel
theorem dX9_count_92 : decode cX9_count 92 = .ok (.ireturn, 1) := by decide +kernel
theorem dX9_count_93 : decode cX9_count 93 = .ok (.aload_n 0, 1) := by decide +kernel
theorem dX9_count_94 : decode cX9_count 94 = .ok (.getfield 82, 3) := by decide +kernel
theorem dX9_count_97 : decode cX9_count 97 = .ok (.ireturn, 1) := by decide +kernel
theorem dX9_count_98 : decode cX9_count 98 = .ok (.aload_n 0, 1) := by decide +kernel
theorem dX9_count_99 : decode cX9_count 99 = .ok (.getfield 7, 3) := by decide +kernel
theorem dX9_count_102 : decode cX9_count 102 = .ok (.bipush 6, 2) := by decide +kernel
theorem dX9_count_104 : decode cX9_count 104 = .ok (.iaload, 1) := by decide +kernel
theorem dX9_count_105 : decode cX9_count 105 = .ok (.ireturn, 1) := by decide +kernel
theorem dX9_count_106 : decode cX9_count 106 = .ok (.iconst (-1), 1) := by decide +kernel
theorem dX9_count_107 : decode cX9_count 107 = .ok (.ireturn, 1) := by decide +kernel
theorem dX9_type_0 : decode cX9_type 0 = .ok (.iload_n 1, 1) := by decide +kernel
theorem dX9_type_1 : decode cX9_type 1 = .ok (.i2l, 1) := by decide +kernel
theorem dX9_type_2 : decode cX9_type 2 = .ok (.ldc2_w 85, 3) := by decide +kernel
theorem dX9_type_5 : decode cX9_type 5 = .ok (.ldc2_w 87, 3) := by decide +kernel
theorem dX9_type_8 : decode cX9_type 8 = .ok (.invokestatic 33, 3) := by decide +kernel
theorem dX9_type_11 : decode cX9_type 11 = .ok (.ifCond .ne 5, 3) := by decide +kernel
theorem dX9_type_14 : decode cX9_type 14 = .ok (.iconst (-1), 1) := by decide +kernel
theorem dX9_type_15 : decode cX9_type 15 = .ok (.ireturn, 1) := by decide +kernel
theorem dX9_type_16 : decode cX9_type 16 = .ok (.aload_n 0, 1) := by decide +kernel
theorem dX9_type_17 : decode cX9_type 17 = .ok (.getfield 82, 3) := by decide +kernel
theorem dX9_type_20 : decode cX9_type 20 = .ok (.bipush 100, 2) := by decide +kernel
theorem dX9_type_22 : decode cX9_type 22 = .ok (.if_icmp .ne 6, 3) := by decide +kernel
theorem dX9_type_25 : decode cX9_type 25 = .ok (.bipush (-3), 2) := by decide +kernel
theorem dX9_type_27 : decode cX9_type 27 = .ok (.ireturn, 1) := by decide +kernel
theorem dX9_type_28 : decode cX9_type 28 = .ok (.aload_n 0, 1) := by decide +kernel
theorem dX9_type_29 : decode cX9_type 29 = .ok (.getfield 19, 3) := by decide +kernel
theorem dX9_type_32 : decode cX9_type 32 = .ok (.aload_n 0, 1) := by decide +kernel
theorem dX9_type_33 : decode cX9_type 33 = .ok (.getfield 82, 3) := by decide +kernel
theorem dX9_type_36 : decode cX9_type 36 = .ok (.iload_n 1, 1) := by decide +kernel
theorem dX9_type_37 : decode cX9_type 37 = .ok (.iastore, 1) := by decide +kernel
theorem dX9_type_38 : decode cX9_type 38 = .ok (.aload_n 0, 1) := by decide +kernel
theorem dX9_type_39 : decode cX9_type 39 = .ok (.dup, 1) := by decide +kernel
theorem dX9_type_40 : decode cX9_type 40 = .ok (.getfield 82, 3) := by decide +kernel
theorem dX9_type_43 : decode cX9_type 43 = .ok (.iconst 1, 1) := by decide +kernel
theorem dX9_type_44 : decode cX9_type 44 = .ok (.iadd, 1) := by decide +kernel
theorem dX9_type_45 : decode cX9_type 45 = .ok (.putfield 82, 3) := by decide +kernel
theorem dX9_type_48 : decode cX9_type 48 = .ok (.aload_n 0, 1) := by decide +kernel
theorem dX9_type_49 : decode cX9_type 49 = .ok (.getfield 82, 3) := by decide +kernel
theorem dX9_type_52 : decode cX9_type 52 = .ok (.ireturn, 1) := by decide +kernel
theorem dX9_clearText_0 : decode cX9_clearText 0 = .ok (.aload_n 0, 1) := by decide +kernel
theorem dX9_clearText_1 : decode cX9_clearText 1 = .ok (.getfield 82, 3) := by decide +kernel
theorem dX9_clearText_4 : decode cX9_clearText 4 = .ok (.istore_n 1, 1) := by decide +kernel
theorem dX9_clearText_5 : decode cX9_clearText 5 = .ok (.aload_n 0, 1) := by decide +kernel
theorem dX9_clearText_6 : decode cX9_clearText 6 = .ok (.iconst 0, 1) := by decide +kernel
theorem dX9_clearText_7 : decode cX9_clearText 7 = .ok (.putfield 82, 3) := by decide +kernel
theorem dX9_clearText_10 : decode cX9_clearText 10 = .ok (.iload_n 1, 1) := by decide +kernel
theorem dX9_clearText_11 : decode cX9_clearText 11 = .ok (.ireturn, 1) := by decide +kernel
theorem dX9_nameSize_0 : decode cX9_nameSize 0 = .ok (.iload_n 0, 1) := by decide +kernel
theorem dX9_nameSize_1 : decode cX9_nameSize 1 = .ok (.ifCond .eq 8, 3) := by decide +kernel
theorem dX9_nameSize_4 : decode cX9_nameSize 4 = .ok (.iload_n 0, 1) := by decide +kernel
theorem dX9_nameSize_5 : decode cX9_nameSize 5 = .ok (.iconst 2, 1) := by decide +kernel
theorem dX9_nameSize_6 : decode cX9_nameSize 6 = .ok (.if_icmp .ne 7, 3) := by decide +kernel
theorem dX9_nameSize_9 : decode cX9_nameSize 9 = .ok (.iconst 4, 1) := by decide +kernel
theorem dX9_nameSize_10 : decode cX9_nameSize 10 = .ok (.goto 14, 3) := by decide +kernel
theorem dX9_nameSize_13 : decode cX9_nameSize 13 = .ok (.iload_n 0, 1) := by decide +kernel
theorem dX9_nameSize_14 : decode cX9_nameSize 14 = .ok (.iconst 1, 1) := by decide +kernel
theorem dX9_nameSize_15 : decode cX9_nameSize 15 = .ok (.if_icmp .ne 7, 3) := by decide +kernel
theorem dX9_nameSize_18 : decode cX9_nameSize 18 = .ok (.iconst 2, 1) := by decide +kernel
theorem dX9_nameSize_19 : decode cX9_nameSize 19 = .ok (.goto 5, 3) := by decide +kernel
theorem dX9_nameSize_22 : decode cX9_nameSize 22 = .ok (.bipush 7, 2) := by decide +kernel
theorem dX9_nameSize_24 : decode cX9_nameSize 24 = .ok (.ireturn, 1) := by decide +kernel
theorem dX9_nameAt_0 : decode cX9_nameAt 0 = .ok (.iload_n 0, 1) := by decide +kernel
theorem dX9_nameAt_1 : decode cX9_nameAt 1 = .ok (.tableswitch 165 0 3 #[31, 63, 75, 107], 31) := by decide +kernel
theorem dX9_nameAt_32 : decode cX9_nameAt 32 = .ok (.iload_n 1, 1) := by decide +kernel
theorem dX9_nameAt_33 : decode cX9_nameAt 33 = .ok (.ifCond .ne 8, 3) := by decide +kernel
theorem dX9_nameAt_36 : decode cX9_nameAt 36 = .ok (.bipush 115, 2) := by decide +kernel
theorem dX9_nameAt_38 : decode cX9_nameAt 38 = .ok (.goto 25, 3) := by decide +kernel
theorem dX9_nameAt_41 : decode cX9_nameAt 41 = .ok (.iload_n 1, 1) := by decide +kernel
theorem dX9_nameAt_42 : decode cX9_nameAt 42 = .ok (.iconst 1, 1) := by decide +kernel
theorem dX9_nameAt_43 : decode cX9_nameAt 43 = .ok (.if_icmp .ne 8, 3) := by decide +kernel
theorem dX9_nameAt_46 : decode cX9_nameAt 46 = .ok (.bipush 116, 2) := by decide +kernel
theorem dX9_nameAt_48 : decode cX9_nameAt 48 = .ok (.goto 15, 3) := by decide +kernel
theorem dX9_nameAt_51 : decode cX9_nameAt 51 = .ok (.iload_n 1, 1) := by decide +kernel
theorem dX9_nameAt_52 : decode cX9_nameAt 52 = .ok (.iconst 2, 1) := by decide +kernel
theorem dX9_nameAt_53 : decode cX9_nameAt 53 = .ok (.if_icmp .ne 8, 3) := by decide +kernel
theorem dX9_nameAt_56 : decode cX9_nameAt 56 = .ok (.bipush 97, 2) := by decide +kernel
theorem dX9_nameAt_58 : decode cX9_nameAt 58 = .ok (.goto 5, 3) := by decide +kernel
theorem dX9_nameAt_61 : decode cX9_nameAt 61 = .ok (.bipush 121, 2) := by decide +kernel
theorem dX9_nameAt_63 : decode cX9_nameAt 63 = .ok (.ireturn, 1) := by decide +kernel
theorem dX9_nameAt_64 : decode cX9_nameAt 64 = .ok (.iload_n 1, 1) := by decide +kernel
theorem dX9_nameAt_65 : decode cX9_nameAt 65 = .ok (.ifCond .ne 8, 3) := by decide +kernel
theorem dX9_nameAt_68 : decode cX9_nameAt 68 = .ok (.bipush 117, 2) := by decide +kernel
theorem dX9_nameAt_70 : decode cX9_nameAt 70 = .ok (.goto 5, 3) := by decide +kernel
theorem dX9_nameAt_73 : decode cX9_nameAt 73 = .ok (.bipush 112, 2) := by decide +kernel
theorem dX9_nameAt_75 : decode cX9_nameAt 75 = .ok (.ireturn, 1) := by decide +kernel
theorem dX9_nameAt_76 : decode cX9_nameAt 76 = .ok (.iload_n 1, 1) := by decide +kernel
theorem dX9_nameAt_77 : decode cX9_nameAt 77 = .ok (.ifCond .ne 8, 3) := by decide +kernel
theorem dX9_nameAt_80 : decode cX9_nameAt 80 = .ok (.bipush 100, 2) := by decide +kernel
theorem dX9_nameAt_82 : decode cX9_nameAt 82 = .ok (.goto 25, 3) := by decide +kernel
theorem dX9_nameAt_85 : decode cX9_nameAt 85 = .ok (.iload_n 1, 1) := by decide +kernel
theorem dX9_nameAt_86 : decode cX9_nameAt 86 = .ok (.iconst 1, 1) := by decide +kernel
theorem dX9_nameAt_87 : decode cX9_nameAt 87 = .ok (.if_icmp .ne 8, 3) := by decide +kernel
theorem dX9_nameAt_90 : decode cX9_nameAt 90 = .ok (.bipush 111, 2) := by decide +kernel
theorem dX9_nameAt_92 : decode cX9_nameAt 92 = .ok (.goto 15, 3) := by decide +kernel
theorem dX9_nameAt_95 : decode cX9_nameAt 95 = .ok (.iload_n 1, 1) := by decide +kernel
theorem dX9_nameAt_96 : decode cX9_nameAt 96 = .ok (.iconst 2, 1) := by decide +kernel
theorem dX9_nameAt_97 : decode cX9_nameAt 97 = .ok (.if_icmp .ne 8, 3) := by decide +kernel
theorem dX9_nameAt_100 : decode cX9_nameAt 100 = .ok (.bipush 119, 2) := by decide +kernel
theorem dX9_nameAt_102 : decode cX9_nameAt 102 = .ok (.goto 5, 3) := by decide +kernel
theorem dX9_nameAt_105 : decode cX9_nameAt 105 = .ok (.bipush 110, 2) := by decide +kernel
theorem dX9_nameAt_107 : decode cX9_nameAt 107 = .ok (.ireturn, 1) := by decide +kernel
theorem dX9_nameAt_108 : decode cX9_nameAt 108 = .ok (.iload_n 1, 1) := by decide +kernel
theorem dX9_nameAt_109 : decode cX9_nameAt 109 = .ok (.ifCond .ne 8, 3) := by decide +kernel
theorem dX9_nameAt_112 : decode cX9_nameAt 112 = .ok (.bipush 116, 2) := by decide +kernel
theorem dX9_nameAt_114 : decode cX9_nameAt 114 = .ok (.goto 51, 3) := by decide +kernel
theorem dX9_nameAt_117 : decode cX9_nameAt 117 = .ok (.iload_n 1, 1) := by decide +kernel
theorem dX9_nameAt_118 : decode cX9_nameAt 118 = .ok (.iconst 1, 1) := by decide +kernel
theorem dX9_nameAt_119 : decode cX9_nameAt 119 = .ok (.if_icmp .ne 8, 3) := by decide +kernel
theorem dX9_nameAt_122 : decode cX9_nameAt 122 = .ok (.bipush 101, 2) := by decide +kernel
theorem dX9_nameAt_124 : decode cX9_nameAt 124 = .ok (.goto 41, 3) := by decide +kernel
theorem dX9_nameAt_127 : decode cX9_nameAt 127 = .ok (.iload_n 1, 1) := by decide +kernel
theorem dX9_nameAt_128 : decode cX9_nameAt 128 = .ok (.iconst 2, 1) := by decide +kernel
theorem dX9_nameAt_129 : decode cX9_nameAt 129 = .ok (.if_icmp .eq 9, 3) := by decide +kernel
theorem dX9_nameAt_132 : decode cX9_nameAt 132 = .ok (.iload_n 1, 1) := by decide +kernel
theorem dX9_nameAt_133 : decode cX9_nameAt 133 = .ok (.bipush 6, 2) := by decide +kernel
theorem dX9_nameAt_135 : decode cX9_nameAt 135 = .ok (.if_icmp .ne 8, 3) := by decide +kernel
theorem dX9_nameAt_138 : decode cX9_nameAt 138 = .ok (.bipush 110, 2) := by decide +kernel
theorem dX9_nameAt_140 : decode cX9_nameAt 140 = .ok (.goto 25, 3) := by decide +kernel
theorem dX9_nameAt_143 : decode cX9_nameAt 143 = .ok (.iload_n 1, 1) := by decide +kernel
theorem dX9_nameAt_144 : decode cX9_nameAt 144 = .ok (.iconst 3, 1) := by decide +kernel
theorem dX9_nameAt_145 : decode cX9_nameAt 145 = .ok (.if_icmp .ne 8, 3) := by decide +kernel
theorem dX9_nameAt_148 : decode cX9_nameAt 148 = .ok (.bipush 115, 2) := by decide +kernel
theorem dX9_nameAt_150 : decode cX9_nameAt 150 = .ok (.goto 15, 3) := by decide +kernel
theorem dX9_nameAt_153 : decode cX9_nameAt 153 = .ok (.iload_n 1, 1) := by decide +kernel
theorem dX9_nameAt_154 : decode cX9_nameAt 154 = .ok (.iconst 4, 1) := by decide +kernel
theorem dX9_nameAt_155 : decode cX9_nameAt 155 = .ok (.if_icmp .ne 8, 3) := by decide +kernel
theorem dX9_nameAt_158 : decode cX9_nameAt 158 = .ok (.bipush 105, 2) := by decide +kernel
theorem dX9_nameAt_160 : decode cX9_nameAt 160 = .ok (.goto 5, 3) := by decide +kernel
theorem dX9_nameAt_163 : decode cX9_nameAt 163 = .ok (.bipush 111, 2) := by decide +kernel
theorem dX9_nameAt_165 : decode cX9_nameAt 165 = .ok (.ireturn, 1) := by decide +kernel
theorem dX9_nameAt_166 : decode cX9_nameAt 166 = .ok (.iload_n 1, 1) := by decide +kernel
theorem dX9_nameAt_167 : decode cX9_nameAt 167 = .ok (.ifCond .ne 8, 3) := by decide +kernel
theorem dX9_nameAt_170 : decode cX9_nameAt 170 = .ok (.bipush 115, 2) := by decide +kernel
theorem dX9_nameAt_172 : decode cX9_nameAt 172 = .ok (.goto 50, 3) := by decide +kernel
theorem dX9_nameAt_175 : decode cX9_nameAt 175 = .ok (.iload_n 1, 1) := by decide +kernel
theorem dX9_nameAt_176 : decode cX9_nameAt 176 = .ok (.iconst 1, 1) := by decide +kernel
theorem dX9_nameAt_177 : decode cX9_nameAt 177 = .ok (.if_icmp .eq 8, 3) := by decide +kernel
theorem dX9_nameAt_180 : decode cX9_nameAt 180 = .ok (.iload_n 1, 1) := by decide +kernel
theorem dX9_nameAt_181 : decode cX9_nameAt 181 = .ok (.iconst 4, 1) := by decide +kernel
theorem dX9_nameAt_182 : decode cX9_nameAt 182 = .ok (.if_icmp .ne 8, 3) := by decide +kernel
theorem dX9_nameAt_185 : decode cX9_nameAt 185 = .ok (.bipush 116, 2) := by decide +kernel
theorem dX9_nameAt_187 : decode cX9_nameAt 187 = .ok (.goto 35, 3) := by decide +kernel
theorem dX9_nameAt_190 : decode cX9_nameAt 190 = .ok (.iload_n 1, 1) := by decide +kernel
theorem dX9_nameAt_191 : decode cX9_nameAt 191 = .ok (.iconst 2, 1) := by decide +kernel
theorem dX9_nameAt_192 : decode cX9_nameAt 192 = .ok (.if_icmp .ne 8, 3) := by decide +kernel
theorem dX9_nameAt_195 : decode cX9_nameAt 195 = .ok (.bipush 114, 2) := by decide +kernel
theorem dX9_nameAt_197 : decode cX9_nameAt 197 = .ok (.goto 25, 3) := by decide +kernel
theorem dX9_nameAt_200 : decode cX9_nameAt 200 = .ok (.iload_n 1, 1) := by decide +kernel
theorem dX9_nameAt_201 : decode cX9_nameAt 201 = .ok (.iconst 3, 1) := by decide +kernel
theorem dX9_nameAt_202 : decode cX9_nameAt 202 = .ok (.if_icmp .ne 8, 3) := by decide +kernel
theorem dX9_nameAt_205 : decode cX9_nameAt 205 = .ok (.bipush 101, 2) := by decide +kernel
theorem dX9_nameAt_207 : decode cX9_nameAt 207 = .ok (.goto 15, 3) := by decide +kernel
theorem dX9_nameAt_210 : decode cX9_nameAt 210 = .ok (.iload_n 1, 1) := by decide +kernel
theorem dX9_nameAt_211 : decode cX9_nameAt 211 = .ok (.iconst 5, 1) := by decide +kernel
theorem dX9_nameAt_212 : decode cX9_nameAt 212 = .ok (.if_icmp .ne 8, 3) := by decide +kernel
theorem dX9_nameAt_215 : decode cX9_nameAt 215 = .ok (.bipush 99, 2) := by decide +kernel
theorem dX9_nameAt_217 : decode cX9_nameAt 217 = .ok (.goto 5, 3) := by decide +kernel
theorem dX9_nameAt_220 : decode cX9_nameAt 220 = .ok (.bipush 104, 2) := by decide +kernel
theorem dX9_nameAt_222 : decode cX9_nameAt 222 = .ok (.ireturn, 1) := by decide +kernel
theorem dX9_isAmount_0 : decode cX9_isAmount 0 = .ok (.iload_n 0, 1) := by decide +kernel
theorem dX9_isAmount_1 : decode cX9_isAmount 1 = .ok (.ifCond .ne 15, 3) := by decide +kernel
theorem dX9_isAmount_4 : decode cX9_isAmount 4 = .ok (.iload_n 1, 1) := by decide +kernel
theorem dX9_isAmount_5 : decode cX9_isAmount 5 = .ok (.i2l, 1) := by decide +kernel
theorem dX9_isAmount_6 : decode cX9_isAmount 6 = .ok (.lconst 1, 1) := by decide +kernel
theorem dX9_isAmount_7 : decode cX9_isAmount 7 = .ok (.ldc2_w 57, 3) := by decide +kernel
theorem dX9_isAmount_10 : decode cX9_isAmount 10 = .ok (.invokestatic 33, 3) := by decide +kernel
theorem dX9_isAmount_13 : decode cX9_isAmount 13 = .ok (.goto 46, 3) := by decide +kernel
theorem dX9_isAmount_16 : decode cX9_isAmount 16 = .ok (.iload_n 0, 1) := by decide +kernel
theorem dX9_isAmount_17 : decode cX9_isAmount 17 = .ok (.iconst 3, 1) := by decide +kernel
theorem dX9_isAmount_18 : decode cX9_isAmount 18 = .ok (.if_icmp .ge 15, 3) := by decide +kernel
theorem dX9_isAmount_21 : decode cX9_isAmount 21 = .ok (.iload_n 1, 1) := by decide +kernel
theorem dX9_isAmount_22 : decode cX9_isAmount 22 = .ok (.i2l, 1) := by decide +kernel
theorem dX9_isAmount_23 : decode cX9_isAmount 23 = .ok (.lconst 1, 1) := by decide +kernel
theorem dX9_isAmount_24 : decode cX9_isAmount 24 = .ok (.ldc2_w 29, 3) := by decide +kernel
theorem dX9_isAmount_27 : decode cX9_isAmount 27 = .ok (.invokestatic 33, 3) := by decide +kernel
theorem dX9_isAmount_30 : decode cX9_isAmount 30 = .ok (.goto 29, 3) := by decide +kernel
theorem dX9_isAmount_33 : decode cX9_isAmount 33 = .ok (.iload_n 0, 1) := by decide +kernel
theorem dX9_isAmount_34 : decode cX9_isAmount 34 = .ok (.iconst 3, 1) := by decide +kernel
theorem dX9_isAmount_35 : decode cX9_isAmount 35 = .ok (.if_icmp .ne 15, 3) := by decide +kernel
theorem dX9_isAmount_38 : decode cX9_isAmount 38 = .ok (.iload_n 1, 1) := by decide +kernel
theorem dX9_isAmount_39 : decode cX9_isAmount 39 = .ok (.i2l, 1) := by decide +kernel
theorem dX9_isAmount_40 : decode cX9_isAmount 40 = .ok (.lconst 0, 1) := by decide +kernel
theorem dX9_isAmount_41 : decode cX9_isAmount 41 = .ok (.ldc2_w 50, 3) := by decide +kernel
theorem dX9_isAmount_44 : decode cX9_isAmount 44 = .ok (.invokestatic 33, 3) := by decide +kernel
theorem dX9_isAmount_47 : decode cX9_isAmount 47 = .ok (.goto 12, 3) := by decide +kernel
theorem dX9_isAmount_50 : decode cX9_isAmount 50 = .ok (.iload_n 1, 1) := by decide +kernel
theorem dX9_isAmount_51 : decode cX9_isAmount 51 = .ok (.i2l, 1) := by decide +kernel
theorem dX9_isAmount_52 : decode cX9_isAmount 52 = .ok (.lconst 0, 1) := by decide +kernel
theorem dX9_isAmount_53 : decode cX9_isAmount 53 = .ok (.ldc2_w 89, 3) := by decide +kernel
theorem dX9_isAmount_56 : decode cX9_isAmount 56 = .ok (.invokestatic 33, 3) := by decide +kernel
theorem dX9_isAmount_59 : decode cX9_isAmount 59 = .ok (.ireturn, 1) := by decide +kernel
theorem dX9_isNext_0 : decode cX9_isNext 0 = .ok (.aload_n 0, 1) := by decide +kernel
theorem dX9_isNext_1 : decode cX9_isNext 1 = .ok (.getfield 91, 3) := by decide +kernel
theorem dX9_isNext_4 : decode cX9_isNext 4 = .ok (.aload_n 0, 1) := by decide +kernel
theorem dX9_isNext_5 : decode cX9_isNext 5 = .ok (.getfield 82, 3) := by decide +kernel
theorem dX9_isNext_8 : decode cX9_isNext 8 = .ok (.if_icmp .ge 20, 3) := by decide +kernel
theorem dX9_isNext_11 : decode cX9_isNext 11 = .ok (.aload_n 0, 1) := by decide +kernel
theorem dX9_isNext_12 : decode cX9_isNext 12 = .ok (.getfield 19, 3) := by decide +kernel
theorem dX9_isNext_15 : decode cX9_isNext 15 = .ok (.aload_n 0, 1) := by decide +kernel
theorem dX9_isNext_16 : decode cX9_isNext 16 = .ok (.getfield 91, 3) := by decide +kernel
theorem dX9_isNext_19 : decode cX9_isNext 19 = .ok (.iaload, 1) := by decide +kernel
theorem dX9_isNext_20 : decode cX9_isNext 20 = .ok (.iload_n 1, 1) := by decide +kernel
theorem dX9_isNext_21 : decode cX9_isNext 21 = .ok (.if_icmp .ne 7, 3) := by decide +kernel
theorem dX9_isNext_24 : decode cX9_isNext 24 = .ok (.iconst 1, 1) := by decide +kernel
theorem dX9_isNext_25 : decode cX9_isNext 25 = .ok (.goto 4, 3) := by decide +kernel
theorem dX9_isNext_28 : decode cX9_isNext 28 = .ok (.iconst 0, 1) := by decide +kernel
theorem dX9_isNext_29 : decode cX9_isNext 29 = .ok (.ireturn, 1) := by decide +kernel
theorem dX9_readsName_0 : decode cX9_readsName 0 = .ok (.iconst 0, 1) := by decide +kernel
theorem dX9_readsName_1 : decode cX9_readsName 1 = .ok (.istore_n 1, 1) := by decide +kernel
theorem dX9_readsName_2 : decode cX9_readsName 2 = .ok (.iload_n 1, 1) := by decide +kernel
theorem dX9_readsName_3 : decode cX9_readsName 3 = .ok (.iconst 5, 1) := by decide +kernel
theorem dX9_readsName_4 : decode cX9_readsName 4 = .ok (.if_icmp .ge 77, 3) := by decide +kernel
theorem dX9_readsName_7 : decode cX9_readsName 7 = .ok (.iconst 0, 1) := by decide +kernel
theorem dX9_readsName_8 : decode cX9_readsName 8 = .ok (.istore_n 2, 1) := by decide +kernel
theorem dX9_readsName_9 : decode cX9_readsName 9 = .ok (.iload_n 2, 1) := by decide +kernel
theorem dX9_readsName_10 : decode cX9_readsName 10 = .ok (.iload_n 1, 1) := by decide +kernel
theorem dX9_readsName_11 : decode cX9_readsName 11 = .ok (.invokestatic 94, 3) := by decide +kernel
theorem dX9_readsName_14 : decode cX9_readsName 14 = .ok (.if_icmp .ge 41, 3) := by decide +kernel
theorem dX9_readsName_17 : decode cX9_readsName 17 = .ok (.aload_n 0, 1) := by decide +kernel
theorem dX9_readsName_18 : decode cX9_readsName 18 = .ok (.getfield 91, 3) := by decide +kernel
theorem dX9_readsName_21 : decode cX9_readsName 21 = .ok (.iload_n 2, 1) := by decide +kernel
theorem dX9_readsName_22 : decode cX9_readsName 22 = .ok (.iadd, 1) := by decide +kernel
theorem dX9_readsName_23 : decode cX9_readsName 23 = .ok (.aload_n 0, 1) := by decide +kernel
theorem dX9_readsName_24 : decode cX9_readsName 24 = .ok (.getfield 82, 3) := by decide +kernel
theorem dX9_readsName_27 : decode cX9_readsName 27 = .ok (.if_icmp .ge 28, 3) := by decide +kernel
theorem dX9_readsName_30 : decode cX9_readsName 30 = .ok (.aload_n 0, 1) := by decide +kernel
theorem dX9_readsName_31 : decode cX9_readsName 31 = .ok (.getfield 19, 3) := by decide +kernel
theorem dX9_readsName_34 : decode cX9_readsName 34 = .ok (.aload_n 0, 1) := by decide +kernel
theorem dX9_readsName_35 : decode cX9_readsName 35 = .ok (.getfield 91, 3) := by decide +kernel
theorem dX9_readsName_38 : decode cX9_readsName 38 = .ok (.iload_n 2, 1) := by decide +kernel
theorem dX9_readsName_39 : decode cX9_readsName 39 = .ok (.iadd, 1) := by decide +kernel
theorem dX9_readsName_40 : decode cX9_readsName 40 = .ok (.iaload, 1) := by decide +kernel
theorem dX9_readsName_41 : decode cX9_readsName 41 = .ok (.iload_n 1, 1) := by decide +kernel
theorem dX9_readsName_42 : decode cX9_readsName 42 = .ok (.iload_n 2, 1) := by decide +kernel
theorem dX9_readsName_43 : decode cX9_readsName 43 = .ok (.invokestatic 97, 3) := by decide +kernel
theorem dX9_readsName_46 : decode cX9_readsName 46 = .ok (.if_icmp .ne 9, 3) := by decide +kernel
theorem dX9_readsName_49 : decode cX9_readsName 49 = .ok (.iinc 2 1, 3) := by decide +kernel
theorem dX9_readsName_52 : decode cX9_readsName 52 = .ok (.goto (-43), 3) := by decide +kernel
theorem dX9_readsName_55 : decode cX9_readsName 55 = .ok (.iload_n 2, 1) := by decide +kernel
theorem dX9_readsName_56 : decode cX9_readsName 56 = .ok (.iload_n 1, 1) := by decide +kernel
theorem dX9_readsName_57 : decode cX9_readsName 57 = .ok (.invokestatic 94, 3) := by decide +kernel
theorem dX9_readsName_60 : decode cX9_readsName 60 = .ok (.if_icmp .ne 15, 3) := by decide +kernel
theorem dX9_readsName_63 : decode cX9_readsName 63 = .ok (.aload_n 0, 1) := by decide +kernel
theorem dX9_readsName_64 : decode cX9_readsName 64 = .ok (.dup, 1) := by decide +kernel
theorem dX9_readsName_65 : decode cX9_readsName 65 = .ok (.getfield 91, 3) := by decide +kernel
theorem dX9_readsName_68 : decode cX9_readsName 68 = .ok (.iload_n 2, 1) := by decide +kernel
theorem dX9_readsName_69 : decode cX9_readsName 69 = .ok (.iadd, 1) := by decide +kernel
theorem dX9_readsName_70 : decode cX9_readsName 70 = .ok (.putfield 91, 3) := by decide +kernel
theorem dX9_readsName_73 : decode cX9_readsName 73 = .ok (.iload_n 1, 1) := by decide +kernel
theorem dX9_readsName_74 : decode cX9_readsName 74 = .ok (.ireturn, 1) := by decide +kernel
theorem dX9_readsName_75 : decode cX9_readsName 75 = .ok (.iinc 1 1, 3) := by decide +kernel
theorem dX9_readsName_78 : decode cX9_readsName 78 = .ok (.goto (-76), 3) := by decide +kernel
theorem dX9_readsName_81 : decode cX9_readsName 81 = .ok (.iconst (-1), 1) := by decide +kernel
theorem dX9_readsName_82 : decode cX9_readsName 82 = .ok (.ireturn, 1) := by decide +kernel
theorem dX9_readsStep_0 : decode cX9_readsStep 0 = .ok (.aload_n 0, 1) := by decide +kernel
theorem dX9_readsStep_1 : decode cX9_readsStep 1 = .ok (.invokevirtual 100, 3) := by decide +kernel
theorem dX9_readsStep_4 : decode cX9_readsStep 4 = .ok (.istore_n 1, 1) := by decide +kernel
theorem dX9_readsStep_5 : decode cX9_readsStep 5 = .ok (.iload_n 1, 1) := by decide +kernel
theorem dX9_readsStep_6 : decode cX9_readsStep 6 = .ok (.ifCond .lt 21, 3) := by decide +kernel
theorem dX9_readsStep_9 : decode cX9_readsStep 9 = .ok (.aload_n 0, 1) := by decide +kernel
theorem dX9_readsStep_10 : decode cX9_readsStep 10 = .ok (.getfield 104, 3) := by decide +kernel
theorem dX9_readsStep_13 : decode cX9_readsStep 13 = .ok (.bipush 12, 2) := by decide +kernel
theorem dX9_readsStep_15 : decode cX9_readsStep 15 = .ok (.if_icmp .eq 12, 3) := by decide +kernel
theorem dX9_readsStep_18 : decode cX9_readsStep 18 = .ok (.aload_n 0, 1) := by decide +kernel
theorem dX9_readsStep_19 : decode cX9_readsStep 19 = .ok (.bipush 32, 2) := by decide +kernel
theorem dX9_readsStep_21 : decode cX9_readsStep 21 = .ok (.invokevirtual 107, 3) := by decide +kernel
theorem dX9_readsStep_24 : decode cX9_readsStep 24 = .ok (.ifCond .ne 5, 3) := by decide +kernel
theorem dX9_readsStep_27 : decode cX9_readsStep 27 = .ok (.iconst 0, 1) := by decide +kernel
theorem dX9_readsStep_28 : decode cX9_readsStep 28 = .ok (.ireturn, 1) := by decide +kernel
theorem dX9_readsStep_29 : decode cX9_readsStep 29 = .ok (.aload_n 0, 1) := by decide +kernel
theorem dX9_readsStep_30 : decode cX9_readsStep 30 = .ok (.dup, 1) := by decide +kernel
theorem dX9_readsStep_31 : decode cX9_readsStep 31 = .ok (.getfield 91, 3) := by decide +kernel
theorem dX9_readsStep_34 : decode cX9_readsStep 34 = .ok (.iconst 1, 1) := by decide +kernel
theorem dX9_readsStep_35 : decode cX9_readsStep 35 = .ok (.iadd, 1) := by decide +kernel
theorem dX9_readsStep_36 : decode cX9_readsStep 36 = .ok (.putfield 91, 3) := by decide +kernel
theorem dX9_readsStep_39 : decode cX9_readsStep 39 = .ok (.iconst 0, 1) := by decide +kernel
theorem dX9_readsStep_40 : decode cX9_readsStep 40 = .ok (.istore_n 2, 1) := by decide +kernel
theorem dX9_readsStep_41 : decode cX9_readsStep 41 = .ok (.iconst 0, 1) := by decide +kernel
theorem dX9_readsStep_42 : decode cX9_readsStep 42 = .ok (.istore_n 3, 1) := by decide +kernel
theorem dX9_readsStep_43 : decode cX9_readsStep 43 = .ok (.iload_n 2, 1) := by decide +kernel
theorem dX9_readsStep_44 : decode cX9_readsStep 44 = .ok (.iconst 3, 1) := by decide +kernel
theorem dX9_readsStep_45 : decode cX9_readsStep 45 = .ok (.if_icmp .ge 70, 3) := by decide +kernel
theorem dX9_readsStep_48 : decode cX9_readsStep 48 = .ok (.aload_n 0, 1) := by decide +kernel
theorem dX9_readsStep_49 : decode cX9_readsStep 49 = .ok (.getfield 91, 3) := by decide +kernel
theorem dX9_readsStep_52 : decode cX9_readsStep 52 = .ok (.aload_n 0, 1) := by decide +kernel
theorem dX9_readsStep_53 : decode cX9_readsStep 53 = .ok (.getfield 82, 3) := by decide +kernel
theorem dX9_readsStep_56 : decode cX9_readsStep 56 = .ok (.if_icmp .ge 59, 3) := by decide +kernel
theorem dX9_readsStep_59 : decode cX9_readsStep 59 = .ok (.aload_n 0, 1) := by decide +kernel
theorem dX9_readsStep_60 : decode cX9_readsStep 60 = .ok (.getfield 19, 3) := by decide +kernel
theorem dX9_readsStep_63 : decode cX9_readsStep 63 = .ok (.aload_n 0, 1) := by decide +kernel
theorem dX9_readsStep_64 : decode cX9_readsStep 64 = .ok (.getfield 91, 3) := by decide +kernel
theorem dX9_readsStep_67 : decode cX9_readsStep 67 = .ok (.iaload, 1) := by decide +kernel
theorem dX9_readsStep_68 : decode cX9_readsStep 68 = .ok (.i2l, 1) := by decide +kernel
theorem dX9_readsStep_69 : decode cX9_readsStep 69 = .ok (.ldc2_w 110, 3) := by decide +kernel
theorem dX9_readsStep_72 : decode cX9_readsStep 72 = .ok (.ldc2_w 112, 3) := by decide +kernel
theorem dX9_readsStep_75 : decode cX9_readsStep 75 = .ok (.invokestatic 33, 3) := by decide +kernel
theorem dX9_readsStep_78 : decode cX9_readsStep 78 = .ok (.ifCond .eq 37, 3) := by decide +kernel
theorem dX9_readsStep_81 : decode cX9_readsStep 81 = .ok (.bipush 10, 2) := by decide +kernel
theorem dX9_readsStep_83 : decode cX9_readsStep 83 = .ok (.iload_n 3, 1) := by decide +kernel
theorem dX9_readsStep_84 : decode cX9_readsStep 84 = .ok (.imul, 1) := by decide +kernel
theorem dX9_readsStep_85 : decode cX9_readsStep 85 = .ok (.aload_n 0, 1) := by decide +kernel
theorem dX9_readsStep_86 : decode cX9_readsStep 86 = .ok (.getfield 19, 3) := by decide +kernel
theorem dX9_readsStep_89 : decode cX9_readsStep 89 = .ok (.aload_n 0, 1) := by decide +kernel
theorem dX9_readsStep_90 : decode cX9_readsStep 90 = .ok (.getfield 91, 3) := by decide +kernel
theorem dX9_readsStep_93 : decode cX9_readsStep 93 = .ok (.iaload, 1) := by decide +kernel
theorem dX9_readsStep_94 : decode cX9_readsStep 94 = .ok (.iadd, 1) := by decide +kernel
theorem dX9_readsStep_95 : decode cX9_readsStep 95 = .ok (.bipush 48, 2) := by decide +kernel
theorem dX9_readsStep_97 : decode cX9_readsStep 97 = .ok (.isub, 1) := by decide +kernel
theorem dX9_readsStep_98 : decode cX9_readsStep 98 = .ok (.istore_n 3, 1) := by decide +kernel
theorem dX9_readsStep_99 : decode cX9_readsStep 99 = .ok (.aload_n 0, 1) := by decide +kernel
theorem dX9_readsStep_100 : decode cX9_readsStep 100 = .ok (.dup, 1) := by decide +kernel
theorem dX9_readsStep_101 : decode cX9_readsStep 101 = .ok (.getfield 91, 3) := by decide +kernel
theorem dX9_readsStep_104 : decode cX9_readsStep 104 = .ok (.iconst 1, 1) := by decide +kernel
theorem dX9_readsStep_105 : decode cX9_readsStep 105 = .ok (.iadd, 1) := by decide +kernel
theorem dX9_readsStep_106 : decode cX9_readsStep 106 = .ok (.putfield 91, 3) := by decide +kernel
theorem dX9_readsStep_109 : decode cX9_readsStep 109 = .ok (.iinc 2 1, 3) := by decide +kernel
theorem dX9_readsStep_112 : decode cX9_readsStep 112 = .ok (.goto (-69), 3) := by decide +kernel
theorem dX9_readsStep_115 : decode cX9_readsStep 115 = .ok (.iload_n 2, 1) := by decide +kernel
theorem dX9_readsStep_116 : decode cX9_readsStep 116 = .ok (.ifCond .eq 11, 3) := by decide +kernel
theorem dX9_readsStep_119 : decode cX9_readsStep 119 = .ok (.iload_n 1, 1) := by decide +kernel
theorem dX9_readsStep_120 : decode cX9_readsStep 120 = .ok (.iload_n 3, 1) := by decide +kernel
theorem dX9_readsStep_121 : decode cX9_readsStep 121 = .ok (.invokestatic 114, 3) := by decide +kernel
theorem dX9_readsStep_124 : decode cX9_readsStep 124 = .ok (.ifCond .ne 5, 3) := by decide +kernel
theorem dX9_readsStep_127 : decode cX9_readsStep 127 = .ok (.iconst 0, 1) := by decide +kernel
theorem dX9_readsStep_128 : decode cX9_readsStep 128 = .ok (.ireturn, 1) := by decide +kernel
theorem dX9_readsStep_129 : decode cX9_readsStep 129 = .ok (.aload_n 0, 1) := by decide +kernel
theorem dX9_readsStep_130 : decode cX9_readsStep 130 = .ok (.getfield 22, 3) := by decide +kernel
theorem dX9_readsStep_133 : decode cX9_readsStep 133 = .ok (.iconst 2, 1) := by decide +kernel
theorem dX9_readsStep_134 : decode cX9_readsStep 134 = .ok (.aload_n 0, 1) := by decide +kernel
theorem dX9_readsStep_135 : decode cX9_readsStep 135 = .ok (.getfield 104, 3) := by decide +kernel
theorem dX9_readsStep_138 : decode cX9_readsStep 138 = .ok (.imul, 1) := by decide +kernel
theorem dX9_readsStep_139 : decode cX9_readsStep 139 = .ok (.iload_n 1, 1) := by decide +kernel
theorem dX9_readsStep_140 : decode cX9_readsStep 140 = .ok (.iastore, 1) := by decide +kernel
theorem dX9_readsStep_141 : decode cX9_readsStep 141 = .ok (.aload_n 0, 1) := by decide +kernel
theorem dX9_readsStep_142 : decode cX9_readsStep 142 = .ok (.getfield 22, 3) := by decide +kernel
theorem dX9_readsStep_145 : decode cX9_readsStep 145 = .ok (.iconst 2, 1) := by decide +kernel
theorem dX9_readsStep_146 : decode cX9_readsStep 146 = .ok (.aload_n 0, 1) := by decide +kernel
theorem dX9_readsStep_147 : decode cX9_readsStep 147 = .ok (.getfield 104, 3) := by decide +kernel
theorem dX9_readsStep_150 : decode cX9_readsStep 150 = .ok (.imul, 1) := by decide +kernel
theorem dX9_readsStep_151 : decode cX9_readsStep 151 = .ok (.iconst 1, 1) := by decide +kernel
theorem dX9_readsStep_152 : decode cX9_readsStep 152 = .ok (.iadd, 1) := by decide +kernel
theorem dX9_readsStep_153 : decode cX9_readsStep 153 = .ok (.iload_n 3, 1) := by decide +kernel
theorem dX9_readsStep_154 : decode cX9_readsStep 154 = .ok (.iastore, 1) := by decide +kernel
theorem dX9_readsStep_155 : decode cX9_readsStep 155 = .ok (.aload_n 0, 1) := by decide +kernel
theorem dX9_readsStep_156 : decode cX9_readsStep 156 = .ok (.dup, 1) := by decide +kernel
theorem dX9_readsStep_157 : decode cX9_readsStep 157 = .ok (.getfield 104, 3) := by decide +kernel
theorem dX9_readsStep_160 : decode cX9_readsStep 160 = .ok (.iconst 1, 1) := by decide +kernel
theorem dX9_readsStep_161 : decode cX9_readsStep 161 = .ok (.iadd, 1) := by decide +kernel
theorem dX9_readsStep_162 : decode cX9_readsStep 162 = .ok (.putfield 104, 3) := by decide +kernel
theorem dX9_readsStep_165 : decode cX9_readsStep 165 = .ok (.aload_n 0, 1) := by decide +kernel
theorem dX9_readsStep_166 : decode cX9_readsStep 166 = .ok (.getfield 91, 3) := by decide +kernel
theorem dX9_readsStep_169 : decode cX9_readsStep 169 = .ok (.aload_n 0, 1) := by decide +kernel
theorem dX9_readsStep_170 : decode cX9_readsStep 170 = .ok (.getfield 82, 3) := by decide +kernel
theorem dX9_readsStep_173 : decode cX9_readsStep 173 = .ok (.if_icmp .ne 5, 3) := by decide +kernel
theorem dX9_readsStep_176 : decode cX9_readsStep 176 = .ok (.iconst 1, 1) := by decide +kernel
theorem dX9_readsStep_177 : decode cX9_readsStep 177 = .ok (.ireturn, 1) := by decide +kernel
theorem dX9_readsStep_178 : decode cX9_readsStep 178 = .ok (.aload_n 0, 1) := by decide +kernel
theorem dX9_readsStep_179 : decode cX9_readsStep 179 = .ok (.bipush 44, 2) := by decide +kernel
theorem dX9_readsStep_181 : decode cX9_readsStep 181 = .ok (.invokevirtual 107, 3) := by decide +kernel
theorem dX9_readsStep_184 : decode cX9_readsStep 184 = .ok (.ifCond .eq 36, 3) := by decide +kernel
theorem dX9_readsStep_187 : decode cX9_readsStep 187 = .ok (.aload_n 0, 1) := by decide +kernel
theorem dX9_readsStep_188 : decode cX9_readsStep 188 = .ok (.getfield 91, 3) := by decide +kernel
theorem dX9_readsStep_191 : decode cX9_readsStep 191 = .ok (.iconst 2, 1) := by decide +kernel
theorem dX9_readsStep_192 : decode cX9_readsStep 192 = .ok (.iadd, 1) := by decide +kernel
theorem dX9_readsStep_193 : decode cX9_readsStep 193 = .ok (.aload_n 0, 1) := by decide +kernel
theorem dX9_readsStep_194 : decode cX9_readsStep 194 = .ok (.getfield 82, 3) := by decide +kernel
theorem dX9_readsStep_197 : decode cX9_readsStep 197 = .ok (.if_icmp .ge 23, 3) := by decide +kernel
theorem dX9_readsStep_200 : decode cX9_readsStep 200 = .ok (.aload_n 0, 1) := by decide +kernel
theorem dX9_readsStep_201 : decode cX9_readsStep 201 = .ok (.getfield 19, 3) := by decide +kernel
theorem dX9_readsStep_204 : decode cX9_readsStep 204 = .ok (.aload_n 0, 1) := by decide +kernel
theorem dX9_readsStep_205 : decode cX9_readsStep 205 = .ok (.getfield 91, 3) := by decide +kernel
theorem dX9_readsStep_208 : decode cX9_readsStep 208 = .ok (.iconst 1, 1) := by decide +kernel
theorem dX9_readsStep_209 : decode cX9_readsStep 209 = .ok (.iadd, 1) := by decide +kernel
theorem dX9_readsStep_210 : decode cX9_readsStep 210 = .ok (.iaload, 1) := by decide +kernel
theorem dX9_readsStep_211 : decode cX9_readsStep 211 = .ok (.bipush 32, 2) := by decide +kernel
theorem dX9_readsStep_213 : decode cX9_readsStep 213 = .ok (.if_icmp .ne 7, 3) := by decide +kernel
theorem dX9_readsStep_216 : decode cX9_readsStep 216 = .ok (.iconst 1, 1) := by decide +kernel
theorem dX9_readsStep_217 : decode cX9_readsStep 217 = .ok (.goto 4, 3) := by decide +kernel
theorem dX9_readsStep_220 : decode cX9_readsStep 220 = .ok (.iconst 0, 1) := by decide +kernel
theorem dX9_readsStep_221 : decode cX9_readsStep 221 = .ok (.istore 4, 2) := by decide +kernel
theorem dX9_readsStep_223 : decode cX9_readsStep 223 = .ok (.aload_n 0, 1) := by decide +kernel
theorem dX9_readsStep_224 : decode cX9_readsStep 224 = .ok (.dup, 1) := by decide +kernel
theorem dX9_readsStep_225 : decode cX9_readsStep 225 = .ok (.getfield 91, 3) := by decide +kernel
theorem dX9_readsStep_228 : decode cX9_readsStep 228 = .ok (.iconst 2, 1) := by decide +kernel
theorem dX9_readsStep_229 : decode cX9_readsStep 229 = .ok (.iadd, 1) := by decide +kernel
theorem dX9_readsStep_230 : decode cX9_readsStep 230 = .ok (.putfield 91, 3) := by decide +kernel
theorem dX9_readsStep_233 : decode cX9_readsStep 233 = .ok (.iload 4, 2) := by decide +kernel
theorem dX9_readsStep_235 : decode cX9_readsStep 235 = .ok (.ireturn, 1) := by decide +kernel
theorem dX9_faultOf_0 : decode cX9_faultOf 0 = .ok (.aload_n 0, 1) := by decide +kernel
theorem dX9_faultOf_1 : decode cX9_faultOf 1 = .ok (.iconst 0, 1) := by decide +kernel
theorem dX9_faultOf_2 : decode cX9_faultOf 2 = .ok (.putfield 91, 3) := by decide +kernel
theorem dX9_faultOf_5 : decode cX9_faultOf 5 = .ok (.aload_n 0, 1) := by decide +kernel
theorem dX9_faultOf_6 : decode cX9_faultOf 6 = .ok (.iconst 0, 1) := by decide +kernel
theorem dX9_faultOf_7 : decode cX9_faultOf 7 = .ok (.putfield 104, 3) := by decide +kernel
theorem dX9_faultOf_10 : decode cX9_faultOf 10 = .ok (.aload_n 0, 1) := by decide +kernel
theorem dX9_faultOf_11 : decode cX9_faultOf 11 = .ok (.getfield 91, 3) := by decide +kernel
theorem dX9_faultOf_14 : decode cX9_faultOf 14 = .ok (.aload_n 0, 1) := by decide +kernel
theorem dX9_faultOf_15 : decode cX9_faultOf 15 = .ok (.getfield 82, 3) := by decide +kernel
theorem dX9_faultOf_18 : decode cX9_faultOf 18 = .ok (.if_icmp .ge 20, 3) := by decide +kernel
theorem dX9_faultOf_21 : decode cX9_faultOf 21 = .ok (.aload_n 0, 1) := by decide +kernel
theorem dX9_faultOf_22 : decode cX9_faultOf 22 = .ok (.getfield 91, 3) := by decide +kernel
theorem dX9_faultOf_25 : decode cX9_faultOf 25 = .ok (.istore_n 1, 1) := by decide +kernel
theorem dX9_faultOf_26 : decode cX9_faultOf 26 = .ok (.aload_n 0, 1) := by decide +kernel
theorem dX9_faultOf_27 : decode cX9_faultOf 27 = .ok (.invokevirtual 118, 3) := by decide +kernel
theorem dX9_faultOf_30 : decode cX9_faultOf 30 = .ok (.ifCond .ne 5, 3) := by decide +kernel
theorem dX9_faultOf_33 : decode cX9_faultOf 33 = .ok (.iload_n 1, 1) := by decide +kernel
theorem dX9_faultOf_34 : decode cX9_faultOf 34 = .ok (.ireturn, 1) := by decide +kernel
theorem dX9_faultOf_35 : decode cX9_faultOf 35 = .ok (.goto (-25), 3) := by decide +kernel
theorem dX9_faultOf_38 : decode cX9_faultOf 38 = .ok (.bipush (-4), 2) := by decide +kernel
theorem dX9_faultOf_40 : decode cX9_faultOf 40 = .ok (.ireturn, 1) := by decide +kernel
theorem dX9_fault_0 : decode cX9_fault 0 = .ok (.aload_n 0, 1) := by decide +kernel
theorem dX9_fault_1 : decode cX9_fault 1 = .ok (.invokevirtual 122, 3) := by decide +kernel
theorem dX9_fault_4 : decode cX9_fault 4 = .ok (.ireturn, 1) := by decide +kernel
theorem dX9_load_0 : decode cX9_load 0 = .ok (.aload_n 0, 1) := by decide +kernel
theorem dX9_load_1 : decode cX9_load 1 = .ok (.invokevirtual 122, 3) := by decide +kernel
theorem dX9_load_4 : decode cX9_load 4 = .ok (.bipush (-4), 2) := by decide +kernel
theorem dX9_load_6 : decode cX9_load 6 = .ok (.if_icmp .eq 6, 3) := by decide +kernel
theorem dX9_load_9 : decode cX9_load 9 = .ok (.bipush (-2), 2) := by decide +kernel
theorem dX9_load_11 : decode cX9_load 11 = .ok (.ireturn, 1) := by decide +kernel
theorem dX9_load_12 : decode cX9_load 12 = .ok (.aload_n 0, 1) := by decide +kernel
theorem dX9_load_13 : decode cX9_load 13 = .ok (.invokevirtual 39, 3) := by decide +kernel
theorem dX9_load_16 : decode cX9_load 16 = .ok (.aload_n 0, 1) := by decide +kernel
theorem dX9_load_17 : decode cX9_load 17 = .ok (.getfield 7, 3) := by decide +kernel
theorem dX9_load_20 : decode cX9_load 20 = .ok (.iconst 3, 1) := by decide +kernel
theorem dX9_load_21 : decode cX9_load 21 = .ok (.aload_n 0, 1) := by decide +kernel
theorem dX9_load_22 : decode cX9_load 22 = .ok (.getfield 104, 3) := by decide +kernel
theorem dX9_load_25 : decode cX9_load 25 = .ok (.iastore, 1) := by decide +kernel
theorem dX9_load_26 : decode cX9_load 26 = .ok (.iconst 0, 1) := by decide +kernel
theorem dX9_load_27 : decode cX9_load 27 = .ok (.istore_n 1, 1) := by decide +kernel
theorem dX9_load_28 : decode cX9_load 28 = .ok (.iload_n 1, 1) := by decide +kernel
theorem dX9_load_29 : decode cX9_load 29 = .ok (.iconst 2, 1) := by decide +kernel
theorem dX9_load_30 : decode cX9_load 30 = .ok (.aload_n 0, 1) := by decide +kernel
theorem dX9_load_31 : decode cX9_load 31 = .ok (.getfield 104, 3) := by decide +kernel
theorem dX9_load_34 : decode cX9_load 34 = .ok (.imul, 1) := by decide +kernel
theorem dX9_load_35 : decode cX9_load 35 = .ok (.if_icmp .ge 25, 3) := by decide +kernel
theorem dX9_load_38 : decode cX9_load 38 = .ok (.aload_n 0, 1) := by decide +kernel
theorem dX9_load_39 : decode cX9_load 39 = .ok (.getfield 7, 3) := by decide +kernel
theorem dX9_load_42 : decode cX9_load 42 = .ok (.sipush 188, 3) := by decide +kernel
theorem dX9_load_45 : decode cX9_load 45 = .ok (.iload_n 1, 1) := by decide +kernel
theorem dX9_load_46 : decode cX9_load 46 = .ok (.iadd, 1) := by decide +kernel
theorem dX9_load_47 : decode cX9_load 47 = .ok (.aload_n 0, 1) := by decide +kernel
theorem dX9_load_48 : decode cX9_load 48 = .ok (.getfield 22, 3) := by decide +kernel
theorem dX9_load_51 : decode cX9_load 51 = .ok (.iload_n 1, 1) := by decide +kernel
theorem dX9_load_52 : decode cX9_load 52 = .ok (.iaload, 1) := by decide +kernel
theorem dX9_load_53 : decode cX9_load 53 = .ok (.iastore, 1) := by decide +kernel
theorem dX9_load_54 : decode cX9_load 54 = .ok (.iinc 1 1, 3) := by decide +kernel
theorem dX9_load_57 : decode cX9_load 57 = .ok (.goto (-29), 3) := by decide +kernel
theorem dX9_load_60 : decode cX9_load 60 = .ok (.aload_n 0, 1) := by decide +kernel
theorem dX9_load_61 : decode cX9_load 61 = .ok (.getfield 104, 3) := by decide +kernel
theorem dX9_load_64 : decode cX9_load 64 = .ok (.ireturn, 1) := by decide +kernel
theorem dX9_step_0 : decode cX9_step 0 = .ok (.iload_n 1, 1) := by decide +kernel
theorem dX9_step_1 : decode cX9_step 1 = .ok (.ifCond .lt 13, 3) := by decide +kernel
theorem dX9_step_4 : decode cX9_step 4 = .ok (.iload_n 2, 1) := by decide +kernel
theorem dX9_step_5 : decode cX9_step 5 = .ok (.i2l, 1) := by decide +kernel
theorem dX9_step_6 : decode cX9_step 6 = .ok (.lconst 0, 1) := by decide +kernel
theorem dX9_step_7 : decode cX9_step 7 = .ok (.lconst 1, 1) := by decide +kernel
theorem dX9_step_8 : decode cX9_step 8 = .ok (.invokestatic 33, 3) := by decide +kernel
theorem dX9_step_11 : decode cX9_step 11 = .ok (.ifCond .ne 5, 3) := by decide +kernel
theorem dX9_step_14 : decode cX9_step 14 = .ok (.iconst (-1), 1) := by decide +kernel
theorem dX9_step_15 : decode cX9_step 15 = .ok (.ireturn, 1) := by decide +kernel
theorem dX9_step_16 : decode cX9_step 16 = .ok (.iload_n 1, 1) := by decide +kernel
theorem dX9_step_17 : decode cX9_step 17 = .ok (.aload_n 0, 1) := by decide +kernel
theorem dX9_step_18 : decode cX9_step 18 = .ok (.getfield 7, 3) := by decide +kernel
theorem dX9_step_21 : decode cX9_step 21 = .ok (.iconst 3, 1) := by decide +kernel
theorem dX9_step_22 : decode cX9_step 22 = .ok (.iaload, 1) := by decide +kernel
theorem dX9_step_23 : decode cX9_step 23 = .ok (.if_icmp .ge 20, 3) := by decide +kernel
theorem dX9_step_26 : decode cX9_step 26 = .ok (.aload_n 0, 1) := by decide +kernel
theorem dX9_step_27 : decode cX9_step 27 = .ok (.getfield 7, 3) := by decide +kernel
theorem dX9_step_30 : decode cX9_step 30 = .ok (.sipush 188, 3) := by decide +kernel
theorem dX9_step_33 : decode cX9_step 33 = .ok (.iconst 2, 1) := by decide +kernel
theorem dX9_step_34 : decode cX9_step 34 = .ok (.iload_n 1, 1) := by decide +kernel
theorem dX9_step_35 : decode cX9_step 35 = .ok (.imul, 1) := by decide +kernel
theorem dX9_step_36 : decode cX9_step 36 = .ok (.iadd, 1) := by decide +kernel
theorem dX9_step_37 : decode cX9_step 37 = .ok (.iload_n 2, 1) := by decide +kernel
theorem dX9_step_38 : decode cX9_step 38 = .ok (.iadd, 1) := by decide +kernel
theorem dX9_step_39 : decode cX9_step 39 = .ok (.iaload, 1) := by decide +kernel
theorem dX9_step_40 : decode cX9_step 40 = .ok (.goto 5, 3) := by decide +kernel
theorem dX9_step_43 : decode cX9_step 43 = .ok (.bipush (-4), 2) := by decide +kernel
theorem dX9_step_45 : decode cX9_step 45 = .ok (.ireturn, 1) := by decide +kernel
theorem dX9_writes_0 : decode cX9_writes 0 = .ok (.aload_n 0, 1) := by decide +kernel
theorem dX9_writes_1 : decode cX9_writes 1 = .ok (.getfield 82, 3) := by decide +kernel
theorem dX9_writes_4 : decode cX9_writes 4 = .ok (.bipush 100, 2) := by decide +kernel
theorem dX9_writes_6 : decode cX9_writes 6 = .ok (.if_icmp .ge 23, 3) := by decide +kernel
theorem dX9_writes_9 : decode cX9_writes 9 = .ok (.aload_n 0, 1) := by decide +kernel
theorem dX9_writes_10 : decode cX9_writes 10 = .ok (.getfield 19, 3) := by decide +kernel
theorem dX9_writes_13 : decode cX9_writes 13 = .ok (.aload_n 0, 1) := by decide +kernel
theorem dX9_writes_14 : decode cX9_writes 14 = .ok (.getfield 82, 3) := by decide +kernel
theorem dX9_writes_17 : decode cX9_writes 17 = .ok (.iload_n 1, 1) := by decide +kernel
theorem dX9_writes_18 : decode cX9_writes 18 = .ok (.iastore, 1) := by decide +kernel
theorem dX9_writes_19 : decode cX9_writes 19 = .ok (.aload_n 0, 1) := by decide +kernel
theorem dX9_writes_20 : decode cX9_writes 20 = .ok (.dup, 1) := by decide +kernel
theorem dX9_writes_21 : decode cX9_writes 21 = .ok (.getfield 82, 3) := by decide +kernel
theorem dX9_writes_24 : decode cX9_writes 24 = .ok (.iconst 1, 1) := by decide +kernel
theorem dX9_writes_25 : decode cX9_writes 25 = .ok (.iadd, 1) := by decide +kernel
theorem dX9_writes_26 : decode cX9_writes 26 = .ok (.putfield 82, 3) := by decide +kernel
theorem dX9_writes_29 : decode cX9_writes 29 = .ok (.return_, 1) := by decide +kernel
theorem dX9_write_0 : decode cX9_write 0 = .ok (.aload_n 0, 1) := by decide +kernel
theorem dX9_write_1 : decode cX9_write 1 = .ok (.iconst 0, 1) := by decide +kernel
theorem dX9_write_2 : decode cX9_write 2 = .ok (.putfield 82, 3) := by decide +kernel
theorem dX9_write_5 : decode cX9_write 5 = .ok (.iconst 0, 1) := by decide +kernel
theorem dX9_write_6 : decode cX9_write 6 = .ok (.istore_n 1, 1) := by decide +kernel
theorem dX9_write_7 : decode cX9_write 7 = .ok (.iload_n 1, 1) := by decide +kernel
theorem dX9_write_8 : decode cX9_write 8 = .ok (.aload_n 0, 1) := by decide +kernel
theorem dX9_write_9 : decode cX9_write 9 = .ok (.getfield 7, 3) := by decide +kernel
theorem dX9_write_12 : decode cX9_write 12 = .ok (.iconst 3, 1) := by decide +kernel
theorem dX9_write_13 : decode cX9_write 13 = .ok (.iaload, 1) := by decide +kernel
theorem dX9_write_14 : decode cX9_write 14 = .ok (.if_icmp .ge 141, 3) := by decide +kernel
theorem dX9_write_17 : decode cX9_write 17 = .ok (.aload_n 0, 1) := by decide +kernel
theorem dX9_write_18 : decode cX9_write 18 = .ok (.getfield 7, 3) := by decide +kernel
theorem dX9_write_21 : decode cX9_write 21 = .ok (.sipush 188, 3) := by decide +kernel
theorem dX9_write_24 : decode cX9_write 24 = .ok (.iconst 2, 1) := by decide +kernel
theorem dX9_write_25 : decode cX9_write 25 = .ok (.iload_n 1, 1) := by decide +kernel
theorem dX9_write_26 : decode cX9_write 26 = .ok (.imul, 1) := by decide +kernel
theorem dX9_write_27 : decode cX9_write 27 = .ok (.iadd, 1) := by decide +kernel
theorem dX9_write_28 : decode cX9_write 28 = .ok (.iaload, 1) := by decide +kernel
theorem dX9_write_29 : decode cX9_write 29 = .ok (.istore_n 2, 1) := by decide +kernel
theorem dX9_write_30 : decode cX9_write 30 = .ok (.aload_n 0, 1) := by decide +kernel
theorem dX9_write_31 : decode cX9_write 31 = .ok (.getfield 7, 3) := by decide +kernel
theorem dX9_write_34 : decode cX9_write 34 = .ok (.sipush 188, 3) := by decide +kernel
theorem dX9_write_37 : decode cX9_write 37 = .ok (.iconst 2, 1) := by decide +kernel
theorem dX9_write_38 : decode cX9_write 38 = .ok (.iload_n 1, 1) := by decide +kernel
theorem dX9_write_39 : decode cX9_write 39 = .ok (.imul, 1) := by decide +kernel
theorem dX9_write_40 : decode cX9_write 40 = .ok (.iadd, 1) := by decide +kernel
theorem dX9_write_41 : decode cX9_write 41 = .ok (.iconst 1, 1) := by decide +kernel
theorem dX9_write_42 : decode cX9_write 42 = .ok (.iadd, 1) := by decide +kernel
theorem dX9_write_43 : decode cX9_write 43 = .ok (.iaload, 1) := by decide +kernel
theorem dX9_write_44 : decode cX9_write 44 = .ok (.istore_n 3, 1) := by decide +kernel
theorem dX9_write_45 : decode cX9_write 45 = .ok (.iload_n 1, 1) := by decide +kernel
theorem dX9_write_46 : decode cX9_write 46 = .ok (.ifCond .le 15, 3) := by decide +kernel
theorem dX9_write_49 : decode cX9_write 49 = .ok (.aload_n 0, 1) := by decide +kernel
theorem dX9_write_50 : decode cX9_write 50 = .ok (.bipush 44, 2) := by decide +kernel
theorem dX9_write_52 : decode cX9_write 52 = .ok (.invokevirtual 125, 3) := by decide +kernel
theorem dX9_write_55 : decode cX9_write 55 = .ok (.aload_n 0, 1) := by decide +kernel
theorem dX9_write_56 : decode cX9_write 56 = .ok (.bipush 32, 2) := by decide +kernel
theorem dX9_write_58 : decode cX9_write 58 = .ok (.invokevirtual 125, 3) := by decide +kernel
theorem dX9_write_61 : decode cX9_write 61 = .ok (.iconst 0, 1) := by decide +kernel
theorem dX9_write_62 : decode cX9_write 62 = .ok (.istore 4, 2) := by decide +kernel
theorem dX9_write_64 : decode cX9_write 64 = .ok (.iload 4, 2) := by decide +kernel
theorem dX9_write_66 : decode cX9_write 66 = .ok (.iload_n 2, 1) := by decide +kernel
theorem dX9_write_67 : decode cX9_write 67 = .ok (.invokestatic 94, 3) := by decide +kernel
theorem dX9_write_70 : decode cX9_write 70 = .ok (.if_icmp .ge 19, 3) := by decide +kernel
theorem dX9_write_73 : decode cX9_write 73 = .ok (.aload_n 0, 1) := by decide +kernel
theorem dX9_write_74 : decode cX9_write 74 = .ok (.iload_n 2, 1) := by decide +kernel
theorem dX9_write_75 : decode cX9_write 75 = .ok (.iload 4, 2) := by decide +kernel
theorem dX9_write_77 : decode cX9_write 77 = .ok (.invokestatic 97, 3) := by decide +kernel
theorem dX9_write_80 : decode cX9_write 80 = .ok (.invokevirtual 125, 3) := by decide +kernel
theorem dX9_write_83 : decode cX9_write 83 = .ok (.iinc 4 1, 3) := by decide +kernel
theorem dX9_write_86 : decode cX9_write 86 = .ok (.goto (-22), 3) := by decide +kernel
theorem dX9_write_89 : decode cX9_write 89 = .ok (.aload_n 0, 1) := by decide +kernel
theorem dX9_write_90 : decode cX9_write 90 = .ok (.bipush 32, 2) := by decide +kernel
theorem dX9_write_92 : decode cX9_write 92 = .ok (.invokevirtual 125, 3) := by decide +kernel
theorem dX9_write_95 : decode cX9_write 95 = .ok (.iload_n 3, 1) := by decide +kernel
theorem dX9_write_96 : decode cX9_write 96 = .ok (.bipush 99, 2) := by decide +kernel
theorem dX9_write_98 : decode cX9_write 98 = .ok (.if_icmp .le 8, 3) := by decide +kernel
theorem dX9_write_101 : decode cX9_write 101 = .ok (.bipush 100, 2) := by decide +kernel
theorem dX9_write_103 : decode cX9_write 103 = .ok (.goto 15, 3) := by decide +kernel
theorem dX9_write_106 : decode cX9_write 106 = .ok (.iload_n 3, 1) := by decide +kernel
theorem dX9_write_107 : decode cX9_write 107 = .ok (.bipush 9, 2) := by decide +kernel
theorem dX9_write_109 : decode cX9_write 109 = .ok (.if_icmp .le 8, 3) := by decide +kernel
theorem dX9_write_112 : decode cX9_write 112 = .ok (.bipush 10, 2) := by decide +kernel
theorem dX9_write_114 : decode cX9_write 114 = .ok (.goto 4, 3) := by decide +kernel
theorem dX9_write_117 : decode cX9_write 117 = .ok (.iconst 1, 1) := by decide +kernel
theorem dX9_write_118 : decode cX9_write 118 = .ok (.istore 4, 2) := by decide +kernel
theorem dX9_write_120 : decode cX9_write 120 = .ok (.iload 4, 2) := by decide +kernel
theorem dX9_write_122 : decode cX9_write 122 = .ok (.ifCond .le 27, 3) := by decide +kernel
theorem dX9_write_125 : decode cX9_write 125 = .ok (.aload_n 0, 1) := by decide +kernel
theorem dX9_write_126 : decode cX9_write 126 = .ok (.bipush 48, 2) := by decide +kernel
theorem dX9_write_128 : decode cX9_write 128 = .ok (.iload_n 3, 1) := by decide +kernel
theorem dX9_write_129 : decode cX9_write 129 = .ok (.iload 4, 2) := by decide +kernel
theorem dX9_write_131 : decode cX9_write 131 = .ok (.idiv, 1) := by decide +kernel
theorem dX9_write_132 : decode cX9_write 132 = .ok (.bipush 10, 2) := by decide +kernel
theorem dX9_write_134 : decode cX9_write 134 = .ok (.irem, 1) := by decide +kernel
theorem dX9_write_135 : decode cX9_write 135 = .ok (.iadd, 1) := by decide +kernel
theorem dX9_write_136 : decode cX9_write 136 = .ok (.invokevirtual 125, 3) := by decide +kernel
theorem dX9_write_139 : decode cX9_write 139 = .ok (.iload 4, 2) := by decide +kernel
theorem dX9_write_141 : decode cX9_write 141 = .ok (.bipush 10, 2) := by decide +kernel
theorem dX9_write_143 : decode cX9_write 143 = .ok (.idiv, 1) := by decide +kernel
theorem dX9_write_144 : decode cX9_write 144 = .ok (.istore 4, 2) := by decide +kernel
theorem dX9_write_146 : decode cX9_write 146 = .ok (.goto (-26), 3) := by decide +kernel
theorem dX9_write_149 : decode cX9_write 149 = .ok (.iinc 1 1, 3) := by decide +kernel
theorem dX9_write_152 : decode cX9_write 152 = .ok (.goto (-145), 3) := by decide +kernel
theorem dX9_write_155 : decode cX9_write 155 = .ok (.aload_n 0, 1) := by decide +kernel
theorem dX9_write_156 : decode cX9_write 156 = .ok (.getfield 82, 3) := by decide +kernel
theorem dX9_write_159 : decode cX9_write 159 = .ok (.ireturn, 1) := by decide +kernel
theorem dX9_textAt_0 : decode cX9_textAt 0 = .ok (.iload_n 1, 1) := by decide +kernel
theorem dX9_textAt_1 : decode cX9_textAt 1 = .ok (.ifCond .ge 7, 3) := by decide +kernel
theorem dX9_textAt_4 : decode cX9_textAt 4 = .ok (.iconst (-1), 1) := by decide +kernel
theorem dX9_textAt_5 : decode cX9_textAt 5 = .ok (.goto 22, 3) := by decide +kernel
theorem dX9_textAt_8 : decode cX9_textAt 8 = .ok (.iload_n 1, 1) := by decide +kernel
theorem dX9_textAt_9 : decode cX9_textAt 9 = .ok (.aload_n 0, 1) := by decide +kernel
theorem dX9_textAt_10 : decode cX9_textAt 10 = .ok (.getfield 82, 3) := by decide +kernel
theorem dX9_textAt_13 : decode cX9_textAt 13 = .ok (.if_icmp .ge 12, 3) := by decide +kernel
theorem dX9_textAt_16 : decode cX9_textAt 16 = .ok (.aload_n 0, 1) := by decide +kernel
theorem dX9_textAt_17 : decode cX9_textAt 17 = .ok (.getfield 19, 3) := by decide +kernel
theorem dX9_textAt_20 : decode cX9_textAt 20 = .ok (.iload_n 1, 1) := by decide +kernel
theorem dX9_textAt_21 : decode cX9_textAt 21 = .ok (.iaload, 1) := by decide +kernel
theorem dX9_textAt_22 : decode cX9_textAt 22 = .ok (.goto 5, 3) := by decide +kernel
theorem dX9_textAt_25 : decode cX9_textAt 25 = .ok (.bipush (-4), 2) := by decide +kernel
theorem dX9_textAt_27 : decode cX9_textAt 27 = .ok (.ireturn, 1) := by decide +kernel
theorem dX9_covers_0 : decode cX9_covers 0 = .ok (.bipush 10, 2) := by decide +kernel
theorem dX9_covers_2 : decode cX9_covers 2 = .ok (.iload_n 2, 1) := by decide +kernel
theorem dX9_covers_3 : decode cX9_covers 3 = .ok (.imul, 1) := by decide +kernel
theorem dX9_covers_4 : decode cX9_covers 4 = .ok (.iload_n 1, 1) := by decide +kernel
theorem dX9_covers_5 : decode cX9_covers 5 = .ok (.bipush 50, 2) := by decide +kernel
theorem dX9_covers_7 : decode cX9_covers 7 = .ok (.iadd, 1) := by decide +kernel
theorem dX9_covers_8 : decode cX9_covers 8 = .ok (.if_icmp .ge 18, 3) := by decide +kernel
theorem dX9_covers_11 : decode cX9_covers 11 = .ok (.bipush 10, 2) := by decide +kernel
theorem dX9_covers_13 : decode cX9_covers 13 = .ok (.iload_n 2, 1) := by decide +kernel
theorem dX9_covers_14 : decode cX9_covers 14 = .ok (.imul, 1) := by decide +kernel
theorem dX9_covers_15 : decode cX9_covers 15 = .ok (.bipush 10, 2) := by decide +kernel
theorem dX9_covers_17 : decode cX9_covers 17 = .ok (.iadd, 1) := by decide +kernel
theorem dX9_covers_18 : decode cX9_covers 18 = .ok (.iload_n 1, 1) := by decide +kernel
theorem dX9_covers_19 : decode cX9_covers 19 = .ok (.if_icmp .le 7, 3) := by decide +kernel
theorem dX9_covers_22 : decode cX9_covers 22 = .ok (.iconst 1, 1) := by decide +kernel
theorem dX9_covers_23 : decode cX9_covers 23 = .ok (.goto 4, 3) := by decide +kernel
theorem dX9_covers_26 : decode cX9_covers 26 = .ok (.iconst 0, 1) := by decide +kernel
theorem dX9_covers_27 : decode cX9_covers 27 = .ok (.ireturn, 1) := by decide +kernel
theorem dX9_bearable_0 : decode cX9_bearable 0 = .ok (.iconst 0, 1) := by decide +kernel
theorem dX9_bearable_1 : decode cX9_bearable 1 = .ok (.istore_n 1, 1) := by decide +kernel
theorem dX9_bearable_2 : decode cX9_bearable 2 = .ok (.iconst 0, 1) := by decide +kernel
theorem dX9_bearable_3 : decode cX9_bearable 3 = .ok (.istore_n 2, 1) := by decide +kernel
theorem dX9_bearable_4 : decode cX9_bearable 4 = .ok (.iload_n 2, 1) := by decide +kernel
theorem dX9_bearable_5 : decode cX9_bearable 5 = .ok (.aload_n 0, 1) := by decide +kernel
theorem dX9_bearable_6 : decode cX9_bearable 6 = .ok (.getfield 128, 3) := by decide +kernel
theorem dX9_bearable_9 : decode cX9_bearable 9 = .ok (.if_icmp .ge 58, 3) := by decide +kernel
theorem dX9_bearable_12 : decode cX9_bearable 12 = .ok (.aload_n 0, 1) := by decide +kernel
theorem dX9_bearable_13 : decode cX9_bearable 13 = .ok (.aload_n 0, 1) := by decide +kernel
theorem dX9_bearable_14 : decode cX9_bearable 14 = .ok (.getfield 131, 3) := by decide +kernel
theorem dX9_bearable_17 : decode cX9_bearable 17 = .ok (.iload_n 2, 1) := by decide +kernel
theorem dX9_bearable_18 : decode cX9_bearable 18 = .ok (.invokevirtual 134, 3) := by decide +kernel
theorem dX9_bearable_21 : decode cX9_bearable 21 = .ok (.ifCond .eq 38, 3) := by decide +kernel
theorem dX9_bearable_24 : decode cX9_bearable 24 = .ok (.aload_n 0, 1) := by decide +kernel
theorem dX9_bearable_25 : decode cX9_bearable 25 = .ok (.getfield 7, 3) := by decide +kernel
theorem dX9_bearable_28 : decode cX9_bearable 28 = .ok (.aload_n 0, 1) := by decide +kernel
theorem dX9_bearable_29 : decode cX9_bearable 29 = .ok (.getfield 137, 3) := by decide +kernel
theorem dX9_bearable_32 : decode cX9_bearable 32 = .ok (.bipush 38, 2) := by decide +kernel
theorem dX9_bearable_34 : decode cX9_bearable 34 = .ok (.iadd, 1) := by decide +kernel
theorem dX9_bearable_35 : decode cX9_bearable 35 = .ok (.iload_n 2, 1) := by decide +kernel
theorem dX9_bearable_36 : decode cX9_bearable 36 = .ok (.iadd, 1) := by decide +kernel
theorem dX9_bearable_37 : decode cX9_bearable 37 = .ok (.iaload, 1) := by decide +kernel
theorem dX9_bearable_38 : decode cX9_bearable 38 = .ok (.iload_n 1, 1) := by decide +kernel
theorem dX9_bearable_39 : decode cX9_bearable 39 = .ok (.if_icmp .le 20, 3) := by decide +kernel
theorem dX9_bearable_42 : decode cX9_bearable 42 = .ok (.aload_n 0, 1) := by decide +kernel
theorem dX9_bearable_43 : decode cX9_bearable 43 = .ok (.getfield 7, 3) := by decide +kernel
theorem dX9_bearable_46 : decode cX9_bearable 46 = .ok (.aload_n 0, 1) := by decide +kernel
theorem dX9_bearable_47 : decode cX9_bearable 47 = .ok (.getfield 137, 3) := by decide +kernel
theorem dX9_bearable_50 : decode cX9_bearable 50 = .ok (.bipush 38, 2) := by decide +kernel
theorem dX9_bearable_52 : decode cX9_bearable 52 = .ok (.iadd, 1) := by decide +kernel
theorem dX9_bearable_53 : decode cX9_bearable 53 = .ok (.iload_n 2, 1) := by decide +kernel
theorem dX9_bearable_54 : decode cX9_bearable 54 = .ok (.iadd, 1) := by decide +kernel
theorem dX9_bearable_55 : decode cX9_bearable 55 = .ok (.iaload, 1) := by decide +kernel
theorem dX9_bearable_56 : decode cX9_bearable 56 = .ok (.goto 4, 3) := by decide +kernel
theorem dX9_bearable_59 : decode cX9_bearable 59 = .ok (.iload_n 1, 1) := by decide +kernel
theorem dX9_bearable_60 : decode cX9_bearable 60 = .ok (.istore_n 1, 1) := by decide +kernel
theorem dX9_bearable_61 : decode cX9_bearable 61 = .ok (.iinc 2 1, 3) := by decide +kernel
theorem dX9_bearable_64 : decode cX9_bearable 64 = .ok (.goto (-60), 3) := by decide +kernel
theorem dX9_bearable_67 : decode cX9_bearable 67 = .ok (.aload_n 0, 1) := by decide +kernel
theorem dX9_bearable_68 : decode cX9_bearable 68 = .ok (.getfield 140, 3) := by decide +kernel
theorem dX9_bearable_71 : decode cX9_bearable 71 = .ok (.istore_n 2, 1) := by decide +kernel
theorem dX9_bearable_72 : decode cX9_bearable 72 = .ok (.iload_n 2, 1) := by decide +kernel
theorem dX9_bearable_73 : decode cX9_bearable 73 = .ok (.ifCond .le 22, 3) := by decide +kernel
theorem dX9_bearable_76 : decode cX9_bearable 76 = .ok (.iload_n 1, 1) := by decide +kernel
theorem dX9_bearable_77 : decode cX9_bearable 77 = .ok (.iload_n 2, 1) := by decide +kernel
theorem dX9_bearable_78 : decode cX9_bearable 78 = .ok (.invokestatic 143, 3) := by decide +kernel
theorem dX9_bearable_81 : decode cX9_bearable 81 = .ok (.iadd, 1) := by decide +kernel
theorem dX9_bearable_82 : decode cX9_bearable 82 = .ok (.aload_n 0, 1) := by decide +kernel
theorem dX9_bearable_83 : decode cX9_bearable 83 = .ok (.getfield 146, 3) := by decide +kernel
theorem dX9_bearable_86 : decode cX9_bearable 86 = .ok (.if_icmp .le 9, 3) := by decide +kernel
theorem dX9_bearable_89 : decode cX9_bearable 89 = .ok (.iinc 2 (-1), 3) := by decide +kernel
theorem dX9_bearable_92 : decode cX9_bearable 92 = .ok (.goto (-20), 3) := by decide +kernel
theorem dX9_bearable_95 : decode cX9_bearable 95 = .ok (.iload_n 2, 1) := by decide +kernel
theorem dX9_bearable_96 : decode cX9_bearable 96 = .ok (.ireturn, 1) := by decide +kernel
theorem dX9_wastes_0 : decode cX9_wastes 0 = .ok (.aload_n 0, 1) := by decide +kernel
theorem dX9_wastes_1 : decode cX9_wastes 1 = .ok (.getfield 7, 3) := by decide +kernel
theorem dX9_wastes_4 : decode cX9_wastes 4 = .ok (.bipush 8, 2) := by decide +kernel
theorem dX9_wastes_6 : decode cX9_wastes 6 = .ok (.iload_n 1, 1) := by decide +kernel
theorem dX9_wastes_7 : decode cX9_wastes 7 = .ok (.iadd, 1) := by decide +kernel
theorem dX9_wastes_8 : decode cX9_wastes 8 = .ok (.dup2, 1) := by decide +kernel
theorem dX9_wastes_9 : decode cX9_wastes 9 = .ok (.iaload, 1) := by decide +kernel
theorem dX9_wastes_10 : decode cX9_wastes 10 = .ok (.iload_n 2, 1) := by decide +kernel
theorem dX9_wastes_11 : decode cX9_wastes 11 = .ok (.iadd, 1) := by decide +kernel
theorem dX9_wastes_12 : decode cX9_wastes 12 = .ok (.iastore, 1) := by decide +kernel
theorem dX9_wastes_13 : decode cX9_wastes 13 = .ok (.aload_n 0, 1) := by decide +kernel
theorem dX9_wastes_14 : decode cX9_wastes 14 = .ok (.getfield 7, 3) := by decide +kernel
theorem dX9_wastes_17 : decode cX9_wastes 17 = .ok (.bipush 8, 2) := by decide +kernel
theorem dX9_wastes_19 : decode cX9_wastes 19 = .ok (.dup2, 1) := by decide +kernel
theorem dX9_wastes_20 : decode cX9_wastes 20 = .ok (.iaload, 1) := by decide +kernel
theorem dX9_wastes_21 : decode cX9_wastes 21 = .ok (.iload_n 2, 1) := by decide +kernel
theorem dX9_wastes_22 : decode cX9_wastes 22 = .ok (.iadd, 1) := by decide +kernel
theorem dX9_wastes_23 : decode cX9_wastes 23 = .ok (.iastore, 1) := by decide +kernel
theorem dX9_wastes_24 : decode cX9_wastes 24 = .ok (.aload_n 0, 1) := by decide +kernel
theorem dX9_wastes_25 : decode cX9_wastes 25 = .ok (.getfield 7, 3) := by decide +kernel
theorem dX9_wastes_28 : decode cX9_wastes 28 = .ok (.aload_n 0, 1) := by decide +kernel
theorem dX9_wastes_29 : decode cX9_wastes 29 = .ok (.getfield 137, 3) := by decide +kernel
theorem dX9_wastes_32 : decode cX9_wastes 32 = .ok (.iconst 5, 1) := by decide +kernel
theorem dX9_wastes_33 : decode cX9_wastes 33 = .ok (.iadd, 1) := by decide +kernel
theorem dX9_wastes_34 : decode cX9_wastes 34 = .ok (.dup2, 1) := by decide +kernel
theorem dX9_wastes_35 : decode cX9_wastes 35 = .ok (.iaload, 1) := by decide +kernel
theorem dX9_wastes_36 : decode cX9_wastes 36 = .ok (.iload_n 2, 1) := by decide +kernel
theorem dX9_wastes_37 : decode cX9_wastes 37 = .ok (.iadd, 1) := by decide +kernel
theorem dX9_wastes_38 : decode cX9_wastes 38 = .ok (.iastore, 1) := by decide +kernel
theorem dX9_wastes_39 : decode cX9_wastes 39 = .ok (.return_, 1) := by decide +kernel
theorem dX9_lasts_0 : decode cX9_lasts 0 = .ok (.aload_n 0, 1) := by decide +kernel
theorem dX9_lasts_1 : decode cX9_lasts 1 = .ok (.getfield 7, 3) := by decide +kernel
theorem dX9_lasts_4 : decode cX9_lasts 4 = .ok (.aload_n 0, 1) := by decide +kernel
theorem dX9_lasts_5 : decode cX9_lasts 5 = .ok (.getfield 137, 3) := by decide +kernel
theorem dX9_lasts_8 : decode cX9_lasts 8 = .ok (.bipush 10, 2) := by decide +kernel
theorem dX9_lasts_10 : decode cX9_lasts 10 = .ok (.iadd, 1) := by decide +kernel
theorem dX9_lasts_11 : decode cX9_lasts 11 = .ok (.dup2, 1) := by decide +kernel
theorem dX9_lasts_12 : decode cX9_lasts 12 = .ok (.iaload, 1) := by decide +kernel
theorem dX9_lasts_13 : decode cX9_lasts 13 = .ok (.iload_n 1, 1) := by decide +kernel
theorem dX9_lasts_14 : decode cX9_lasts 14 = .ok (.iadd, 1) := by decide +kernel
theorem dX9_lasts_15 : decode cX9_lasts 15 = .ok (.iastore, 1) := by decide +kernel
theorem dX9_lasts_16 : decode cX9_lasts 16 = .ok (.aload_n 0, 1) := by decide +kernel
theorem dX9_lasts_17 : decode cX9_lasts 17 = .ok (.getfield 7, 3) := by decide +kernel
theorem dX9_lasts_20 : decode cX9_lasts 20 = .ok (.bipush 6, 2) := by decide +kernel
theorem dX9_lasts_22 : decode cX9_lasts 22 = .ok (.dup2, 1) := by decide +kernel
theorem dX9_lasts_23 : decode cX9_lasts 23 = .ok (.iaload, 1) := by decide +kernel
theorem dX9_lasts_24 : decode cX9_lasts 24 = .ok (.iload_n 1, 1) := by decide +kernel
theorem dX9_lasts_25 : decode cX9_lasts 25 = .ok (.iadd, 1) := by decide +kernel
theorem dX9_lasts_26 : decode cX9_lasts 26 = .ok (.iastore, 1) := by decide +kernel
theorem dX9_lasts_27 : decode cX9_lasts 27 = .ok (.return_, 1) := by decide +kernel
theorem dX9_breaks_0 : decode cX9_breaks 0 = .ok (.aload_n 0, 1) := by decide +kernel
theorem dX9_breaks_1 : decode cX9_breaks 1 = .ok (.iconst 0, 1) := by decide +kernel
theorem dX9_breaks_2 : decode cX9_breaks 2 = .ok (.iconst 4, 1) := by decide +kernel
theorem dX9_breaks_3 : decode cX9_breaks 3 = .ok (.iload_n 1, 1) := by decide +kernel
theorem dX9_breaks_4 : decode cX9_breaks 4 = .ok (.iadd, 1) := by decide +kernel
theorem dX9_breaks_5 : decode cX9_breaks 5 = .ok (.invokevirtual 46, 3) := by decide +kernel
theorem dX9_breaks_8 : decode cX9_breaks 8 = .ok (.istore_n 2, 1) := by decide +kernel
theorem dX9_breaks_9 : decode cX9_breaks 9 = .ok (.aload_n 0, 1) := by decide +kernel
theorem dX9_breaks_10 : decode cX9_breaks 10 = .ok (.iconst 3, 1) := by decide +kernel
theorem dX9_breaks_11 : decode cX9_breaks 11 = .ok (.iload_n 2, 1) := by decide +kernel
theorem dX9_breaks_12 : decode cX9_breaks 12 = .ok (.aload_n 0, 1) := by decide +kernel
theorem dX9_breaks_13 : decode cX9_breaks 13 = .ok (.iconst 0, 1) := by decide +kernel
theorem dX9_breaks_14 : decode cX9_breaks 14 = .ok (.iconst 2, 1) := by decide +kernel
theorem dX9_breaks_15 : decode cX9_breaks 15 = .ok (.invokevirtual 46, 3) := by decide +kernel
theorem dX9_breaks_18 : decode cX9_breaks 18 = .ok (.isub, 1) := by decide +kernel
theorem dX9_breaks_19 : decode cX9_breaks 19 = .ok (.invokevirtual 149, 3) := by decide +kernel
theorem dX9_breaks_22 : decode cX9_breaks 22 = .ok (.aload_n 0, 1) := by decide +kernel
theorem dX9_breaks_23 : decode cX9_breaks 23 = .ok (.getfield 7, 3) := by decide +kernel
theorem dX9_breaks_26 : decode cX9_breaks 26 = .ok (.iconst 4, 1) := by decide +kernel
theorem dX9_breaks_27 : decode cX9_breaks 27 = .ok (.iaload, 1) := by decide +kernel
theorem dX9_breaks_28 : decode cX9_breaks 28 = .ok (.aload_n 0, 1) := by decide +kernel
theorem dX9_breaks_29 : decode cX9_breaks 29 = .ok (.iconst 0, 1) := by decide +kernel
theorem dX9_breaks_30 : decode cX9_breaks 30 = .ok (.iconst 0, 1) := by decide +kernel
theorem dX9_breaks_31 : decode cX9_breaks 31 = .ok (.invokevirtual 46, 3) := by decide +kernel
theorem dX9_breaks_34 : decode cX9_breaks 34 = .ok (.iload_n 2, 1) := by decide +kernel
theorem dX9_breaks_35 : decode cX9_breaks 35 = .ok (.isub, 1) := by decide +kernel
theorem dX9_breaks_36 : decode cX9_breaks 36 = .ok (.invokestatic 153, 3) := by decide +kernel
theorem dX9_breaks_39 : decode cX9_breaks 39 = .ok (.istore_n 3, 1) := by decide +kernel
theorem dX9_breaks_40 : decode cX9_breaks 40 = .ok (.aload_n 0, 1) := by decide +kernel
theorem dX9_breaks_41 : decode cX9_breaks 41 = .ok (.iconst 4, 1) := by decide +kernel
theorem dX9_breaks_42 : decode cX9_breaks 42 = .ok (.iload_n 3, 1) := by decide +kernel
theorem dX9_breaks_43 : decode cX9_breaks 43 = .ok (.invokevirtual 149, 3) := by decide +kernel
theorem dX9_breaks_46 : decode cX9_breaks 46 = .ok (.aload_n 0, 1) := by decide +kernel
theorem dX9_breaks_47 : decode cX9_breaks 47 = .ok (.getfield 7, 3) := by decide +kernel
theorem dX9_breaks_50 : decode cX9_breaks 50 = .ok (.bipush 22, 2) := by decide +kernel
theorem dX9_breaks_52 : decode cX9_breaks 52 = .ok (.iload_n 2, 1) := by decide +kernel
theorem dX9_breaks_53 : decode cX9_breaks 53 = .ok (.iload_n 3, 1) := by decide +kernel
theorem dX9_breaks_54 : decode cX9_breaks 54 = .ok (.iadd, 1) := by decide +kernel
theorem dX9_breaks_55 : decode cX9_breaks 55 = .ok (.iastore, 1) := by decide +kernel
theorem dX9_breaks_56 : decode cX9_breaks 56 = .ok (.aload_n 0, 1) := by decide +kernel
theorem dX9_breaks_57 : decode cX9_breaks 57 = .ok (.getfield 7, 3) := by decide +kernel
theorem dX9_breaks_60 : decode cX9_breaks 60 = .ok (.bipush 13, 2) := by decide +kernel
theorem dX9_breaks_62 : decode cX9_breaks 62 = .ok (.dup2, 1) := by decide +kernel
theorem dX9_breaks_63 : decode cX9_breaks 63 = .ok (.iaload, 1) := by decide +kernel
theorem dX9_breaks_64 : decode cX9_breaks 64 = .ok (.iconst 1, 1) := by decide +kernel
theorem dX9_breaks_65 : decode cX9_breaks 65 = .ok (.iadd, 1) := by decide +kernel
theorem dX9_breaks_66 : decode cX9_breaks 66 = .ok (.iastore, 1) := by decide +kernel
theorem dX9_breaks_67 : decode cX9_breaks 67 = .ok (.aload_n 0, 1) := by decide +kernel
theorem dX9_breaks_68 : decode cX9_breaks 68 = .ok (.getfield 7, 3) := by decide +kernel
theorem dX9_breaks_71 : decode cX9_breaks 71 = .ok (.aload_n 0, 1) := by decide +kernel
theorem dX9_breaks_72 : decode cX9_breaks 72 = .ok (.getfield 137, 3) := by decide +kernel
theorem dX9_breaks_75 : decode cX9_breaks 75 = .ok (.bipush 6, 2) := by decide +kernel
theorem dX9_breaks_77 : decode cX9_breaks 77 = .ok (.iadd, 1) := by decide +kernel
theorem dX9_breaks_78 : decode cX9_breaks 78 = .ok (.dup2, 1) := by decide +kernel
theorem dX9_breaks_79 : decode cX9_breaks 79 = .ok (.iaload, 1) := by decide +kernel
theorem dX9_breaks_80 : decode cX9_breaks 80 = .ok (.iconst 1, 1) := by decide +kernel
theorem dX9_breaks_81 : decode cX9_breaks 81 = .ok (.iadd, 1) := by decide +kernel
theorem dX9_breaks_82 : decode cX9_breaks 82 = .ok (.iastore, 1) := by decide +kernel
theorem dX9_breaks_83 : decode cX9_breaks 83 = .ok (.aload_n 0, 1) := by decide +kernel
theorem dX9_breaks_84 : decode cX9_breaks 84 = .ok (.bipush 40, 2) := by decide +kernel
theorem dX9_breaks_86 : decode cX9_breaks 86 = .ok (.invokevirtual 156, 3) := by decide +kernel
theorem dX9_breaks_89 : decode cX9_breaks 89 = .ok (.aload_n 0, 1) := by decide +kernel
theorem dX9_breaks_90 : decode cX9_breaks 90 = .ok (.getfield 7, 3) := by decide +kernel
theorem dX9_breaks_93 : decode cX9_breaks 93 = .ok (.aload_n 0, 1) := by decide +kernel
theorem dX9_breaks_94 : decode cX9_breaks 94 = .ok (.getfield 137, 3) := by decide +kernel
theorem dX9_breaks_97 : decode cX9_breaks 97 = .ok (.bipush 6, 2) := by decide +kernel
theorem dX9_breaks_99 : decode cX9_breaks 99 = .ok (.iadd, 1) := by decide +kernel
theorem dX9_breaks_100 : decode cX9_breaks 100 = .ok (.iaload, 1) := by decide +kernel
theorem dX9_breaks_101 : decode cX9_breaks 101 = .ok (.aload_n 0, 1) := by decide +kernel
theorem dX9_breaks_102 : decode cX9_breaks 102 = .ok (.getfield 7, 3) := by decide +kernel
theorem dX9_breaks_105 : decode cX9_breaks 105 = .ok (.iconst 5, 1) := by decide +kernel
theorem dX9_breaks_106 : decode cX9_breaks 106 = .ok (.iaload, 1) := by decide +kernel
theorem dX9_breaks_107 : decode cX9_breaks 107 = .ok (.if_icmp .le 7, 3) := by decide +kernel
theorem dX9_breaks_110 : decode cX9_breaks 110 = .ok (.iconst 1, 1) := by decide +kernel
theorem dX9_breaks_111 : decode cX9_breaks 111 = .ok (.goto 4, 3) := by decide +kernel
theorem dX9_breaks_114 : decode cX9_breaks 114 = .ok (.iconst 0, 1) := by decide +kernel
theorem dX9_breaks_115 : decode cX9_breaks 115 = .ok (.ireturn, 1) := by decide +kernel
theorem dX9_lays_0 : decode cX9_lays 0 = .ok (.aload_n 0, 1) := by decide +kernel
theorem dX9_lays_1 : decode cX9_lays 1 = .ok (.getfield 7, 3) := by decide +kernel
theorem dX9_lays_4 : decode cX9_lays 4 = .ok (.bipush 22, 2) := by decide +kernel
theorem dX9_lays_6 : decode cX9_lays 6 = .ok (.dup2, 1) := by decide +kernel
theorem dX9_lays_7 : decode cX9_lays 7 = .ok (.iaload, 1) := by decide +kernel
theorem dX9_lays_8 : decode cX9_lays 8 = .ok (.iload_n 2, 1) := by decide +kernel
theorem dX9_lays_9 : decode cX9_lays 9 = .ok (.iadd, 1) := by decide +kernel
theorem dX9_lays_10 : decode cX9_lays 10 = .ok (.iastore, 1) := by decide +kernel
theorem dX9_lays_11 : decode cX9_lays 11 = .ok (.aload_n 0, 1) := by decide +kernel
theorem dX9_lays_12 : decode cX9_lays 12 = .ok (.getfield 7, 3) := by decide +kernel
theorem dX9_lays_15 : decode cX9_lays 15 = .ok (.bipush 8, 2) := by decide +kernel
theorem dX9_lays_17 : decode cX9_lays 17 = .ok (.dup2, 1) := by decide +kernel
theorem dX9_lays_18 : decode cX9_lays 18 = .ok (.iaload, 1) := by decide +kernel
theorem dX9_lays_19 : decode cX9_lays 19 = .ok (.iload_n 2, 1) := by decide +kernel
theorem dX9_lays_20 : decode cX9_lays 20 = .ok (.iadd, 1) := by decide +kernel
theorem dX9_lays_21 : decode cX9_lays 21 = .ok (.iastore, 1) := by decide +kernel
theorem dX9_lays_22 : decode cX9_lays 22 = .ok (.aload_n 0, 1) := by decide +kernel
theorem dX9_lays_23 : decode cX9_lays 23 = .ok (.getfield 7, 3) := by decide +kernel
theorem dX9_lays_26 : decode cX9_lays 26 = .ok (.bipush 9, 2) := by decide +kernel
theorem dX9_lays_28 : decode cX9_lays 28 = .ok (.dup2, 1) := by decide +kernel
theorem dX9_lays_29 : decode cX9_lays 29 = .ok (.iaload, 1) := by decide +kernel
theorem dX9_lays_30 : decode cX9_lays 30 = .ok (.iload_n 2, 1) := by decide +kernel
theorem dX9_lays_31 : decode cX9_lays 31 = .ok (.iadd, 1) := by decide +kernel
theorem dX9_lays_32 : decode cX9_lays 32 = .ok (.iastore, 1) := by decide +kernel
theorem dX9_lays_33 : decode cX9_lays 33 = .ok (.aload_n 0, 1) := by decide +kernel
theorem dX9_lays_34 : decode cX9_lays 34 = .ok (.getfield 7, 3) := by decide +kernel
theorem dX9_lays_37 : decode cX9_lays 37 = .ok (.bipush 15, 2) := by decide +kernel
theorem dX9_lays_39 : decode cX9_lays 39 = .ok (.dup2, 1) := by decide +kernel
theorem dX9_lays_40 : decode cX9_lays 40 = .ok (.iaload, 1) := by decide +kernel
theorem dX9_lays_41 : decode cX9_lays 41 = .ok (.iconst 1, 1) := by decide +kernel
theorem dX9_lays_42 : decode cX9_lays 42 = .ok (.iadd, 1) := by decide +kernel
theorem dX9_lays_43 : decode cX9_lays 43 = .ok (.iastore, 1) := by decide +kernel
theorem dX9_lays_44 : decode cX9_lays 44 = .ok (.aload_n 0, 1) := by decide +kernel
theorem dX9_lays_45 : decode cX9_lays 45 = .ok (.getfield 7, 3) := by decide +kernel
theorem dX9_lays_48 : decode cX9_lays 48 = .ok (.aload_n 0, 1) := by decide +kernel
theorem dX9_lays_49 : decode cX9_lays 49 = .ok (.getfield 137, 3) := by decide +kernel
theorem dX9_lays_52 : decode cX9_lays 52 = .ok (.iconst 2, 1) := by decide +kernel
theorem dX9_lays_53 : decode cX9_lays 53 = .ok (.iadd, 1) := by decide +kernel
theorem dX9_lays_54 : decode cX9_lays 54 = .ok (.dup2, 1) := by decide +kernel
theorem dX9_lays_55 : decode cX9_lays 55 = .ok (.iaload, 1) := by decide +kernel
theorem dX9_lays_56 : decode cX9_lays 56 = .ok (.iconst 1, 1) := by decide +kernel
theorem dX9_lays_57 : decode cX9_lays 57 = .ok (.iadd, 1) := by decide +kernel
theorem dX9_lays_58 : decode cX9_lays 58 = .ok (.iastore, 1) := by decide +kernel
theorem dX9_lays_59 : decode cX9_lays 59 = .ok (.aload_n 0, 1) := by decide +kernel
theorem dX9_lays_60 : decode cX9_lays 60 = .ok (.getfield 7, 3) := by decide +kernel
theorem dX9_lays_63 : decode cX9_lays 63 = .ok (.aload_n 0, 1) := by decide +kernel
theorem dX9_lays_64 : decode cX9_lays 64 = .ok (.getfield 137, 3) := by decide +kernel
theorem dX9_lays_67 : decode cX9_lays 67 = .ok (.iconst 4, 1) := by decide +kernel
theorem dX9_lays_68 : decode cX9_lays 68 = .ok (.iadd, 1) := by decide +kernel
theorem dX9_lays_69 : decode cX9_lays 69 = .ok (.dup2, 1) := by decide +kernel
theorem dX9_lays_70 : decode cX9_lays 70 = .ok (.iaload, 1) := by decide +kernel
theorem dX9_lays_71 : decode cX9_lays 71 = .ok (.iload_n 2, 1) := by decide +kernel
theorem dX9_lays_72 : decode cX9_lays 72 = .ok (.iadd, 1) := by decide +kernel
theorem dX9_lays_73 : decode cX9_lays 73 = .ok (.iastore, 1) := by decide +kernel
theorem dX9_lays_74 : decode cX9_lays 74 = .ok (.aload_n 0, 1) := by decide +kernel
theorem dX9_lays_75 : decode cX9_lays 75 = .ok (.getfield 7, 3) := by decide +kernel
theorem dX9_lays_78 : decode cX9_lays 78 = .ok (.aload_n 0, 1) := by decide +kernel
theorem dX9_lays_79 : decode cX9_lays 79 = .ok (.getfield 137, 3) := by decide +kernel
theorem dX9_lays_82 : decode cX9_lays 82 = .ok (.bipush 11, 2) := by decide +kernel
theorem dX9_lays_84 : decode cX9_lays 84 = .ok (.iadd, 1) := by decide +kernel
theorem dX9_lays_85 : decode cX9_lays 85 = .ok (.dup2, 1) := by decide +kernel
theorem dX9_lays_86 : decode cX9_lays 86 = .ok (.iaload, 1) := by decide +kernel
theorem dX9_lays_87 : decode cX9_lays 87 = .ok (.iload_n 2, 1) := by decide +kernel
theorem dX9_lays_88 : decode cX9_lays 88 = .ok (.aload_n 0, 1) := by decide +kernel
theorem dX9_lays_89 : decode cX9_lays 89 = .ok (.iconst 0, 1) := by decide +kernel
theorem dX9_lays_90 : decode cX9_lays 90 = .ok (.iconst 1, 1) := by decide +kernel
theorem dX9_lays_91 : decode cX9_lays 91 = .ok (.invokevirtual 46, 3) := by decide +kernel
theorem dX9_lays_94 : decode cX9_lays 94 = .ok (.imul, 1) := by decide +kernel
theorem dX9_lays_95 : decode cX9_lays 95 = .ok (.iadd, 1) := by decide +kernel
theorem dX9_lays_96 : decode cX9_lays 96 = .ok (.iastore, 1) := by decide +kernel
theorem dX9_lays_97 : decode cX9_lays 97 = .ok (.aload_n 0, 1) := by decide +kernel
theorem dX9_lays_98 : decode cX9_lays 98 = .ok (.aload_n 0, 1) := by decide +kernel
theorem dX9_lays_99 : decode cX9_lays 99 = .ok (.getfield 159, 3) := by decide +kernel
theorem dX9_lays_102 : decode cX9_lays 102 = .ok (.bipush 40, 2) := by decide +kernel
theorem dX9_lays_104 : decode cX9_lays 104 = .ok (.invokestatic 162, 3) := by decide +kernel
theorem dX9_lays_107 : decode cX9_lays 107 = .ok (.invokevirtual 156, 3) := by decide +kernel
theorem dX9_lays_110 : decode cX9_lays 110 = .ok (.iconst 0, 1) := by decide +kernel
theorem dX9_lays_111 : decode cX9_lays 111 = .ok (.istore_n 3, 1) := by decide +kernel
theorem dX9_lays_112 : decode cX9_lays 112 = .ok (.iload_n 3, 1) := by decide +kernel
theorem dX9_lays_113 : decode cX9_lays 113 = .ok (.aload_n 0, 1) := by decide +kernel
theorem dX9_lays_114 : decode cX9_lays 114 = .ok (.getfield 128, 3) := by decide +kernel
theorem dX9_lays_117 : decode cX9_lays 117 = .ok (.if_icmp .ge 60, 3) := by decide +kernel
theorem dX9_lays_120 : decode cX9_lays 120 = .ok (.aload_n 0, 1) := by decide +kernel
theorem dX9_lays_121 : decode cX9_lays 121 = .ok (.aload_n 0, 1) := by decide +kernel
theorem dX9_lays_122 : decode cX9_lays 122 = .ok (.getfield 131, 3) := by decide +kernel
theorem dX9_lays_125 : decode cX9_lays 125 = .ok (.iload_n 3, 1) := by decide +kernel
theorem dX9_lays_126 : decode cX9_lays 126 = .ok (.invokevirtual 134, 3) := by decide +kernel
theorem dX9_lays_129 : decode cX9_lays 129 = .ok (.ifCond .eq 42, 3) := by decide +kernel
theorem dX9_lays_132 : decode cX9_lays 132 = .ok (.aload_n 0, 1) := by decide +kernel
theorem dX9_lays_133 : decode cX9_lays 133 = .ok (.getfield 7, 3) := by decide +kernel
theorem dX9_lays_136 : decode cX9_lays 136 = .ok (.aload_n 0, 1) := by decide +kernel
theorem dX9_lays_137 : decode cX9_lays 137 = .ok (.getfield 137, 3) := by decide +kernel
theorem dX9_lays_140 : decode cX9_lays 140 = .ok (.bipush 13, 2) := by decide +kernel
theorem dX9_lays_142 : decode cX9_lays 142 = .ok (.iadd, 1) := by decide +kernel
theorem dX9_lays_143 : decode cX9_lays 143 = .ok (.iload_n 3, 1) := by decide +kernel
theorem dX9_lays_144 : decode cX9_lays 144 = .ok (.iadd, 1) := by decide +kernel
theorem dX9_lays_145 : decode cX9_lays 145 = .ok (.dup2, 1) := by decide +kernel
theorem dX9_lays_146 : decode cX9_lays 146 = .ok (.iaload, 1) := by decide +kernel
theorem dX9_lays_147 : decode cX9_lays 147 = .ok (.iconst 1, 1) := by decide +kernel
theorem dX9_lays_148 : decode cX9_lays 148 = .ok (.iadd, 1) := by decide +kernel
theorem dX9_lays_149 : decode cX9_lays 149 = .ok (.iastore, 1) := by decide +kernel
theorem dX9_lays_150 : decode cX9_lays 150 = .ok (.aload_n 0, 1) := by decide +kernel
theorem dX9_lays_151 : decode cX9_lays 151 = .ok (.getfield 7, 3) := by decide +kernel
theorem dX9_lays_154 : decode cX9_lays 154 = .ok (.aload_n 0, 1) := by decide +kernel
theorem dX9_lays_155 : decode cX9_lays 155 = .ok (.getfield 137, 3) := by decide +kernel
theorem dX9_lays_158 : decode cX9_lays 158 = .ok (.bipush 38, 2) := by decide +kernel
theorem dX9_lays_160 : decode cX9_lays 160 = .ok (.iadd, 1) := by decide +kernel
theorem dX9_lays_161 : decode cX9_lays 161 = .ok (.iload_n 3, 1) := by decide +kernel
theorem dX9_lays_162 : decode cX9_lays 162 = .ok (.iadd, 1) := by decide +kernel
theorem dX9_lays_163 : decode cX9_lays 163 = .ok (.dup2, 1) := by decide +kernel
theorem dX9_lays_164 : decode cX9_lays 164 = .ok (.iaload, 1) := by decide +kernel
theorem dX9_lays_165 : decode cX9_lays 165 = .ok (.iload_n 1, 1) := by decide +kernel
theorem dX9_lays_166 : decode cX9_lays 166 = .ok (.invokestatic 143, 3) := by decide +kernel
theorem dX9_lays_169 : decode cX9_lays 169 = .ok (.iadd, 1) := by decide +kernel
theorem dX9_lays_170 : decode cX9_lays 170 = .ok (.iastore, 1) := by decide +kernel
theorem dX9_lays_171 : decode cX9_lays 171 = .ok (.iinc 3 1, 3) := by decide +kernel
theorem dX9_lays_174 : decode cX9_lays 174 = .ok (.goto (-62), 3) := by decide +kernel
theorem dX9_lays_177 : decode cX9_lays 177 = .ok (.return_, 1) := by decide +kernel
theorem dX9_turns_0 : decode cX9_turns 0 = .ok (.aload_n 0, 1) := by decide +kernel
theorem dX9_turns_1 : decode cX9_turns 1 = .ok (.invokevirtual 165, 3) := by decide +kernel
theorem dX9_turns_4 : decode cX9_turns 4 = .ok (.istore_n 1, 1) := by decide +kernel
theorem dX9_turns_5 : decode cX9_turns 5 = .ok (.iload_n 1, 1) := by decide +kernel
theorem dX9_turns_6 : decode cX9_turns 6 = .ok (.ifCond .ne 38, 3) := by decide +kernel
theorem dX9_turns_9 : decode cX9_turns 9 = .ok (.aload_n 0, 1) := by decide +kernel
theorem dX9_turns_10 : decode cX9_turns 10 = .ok (.getfield 140, 3) := by decide +kernel
theorem dX9_turns_13 : decode cX9_turns 13 = .ok (.ifCond .le 31, 3) := by decide +kernel
theorem dX9_turns_16 : decode cX9_turns 16 = .ok (.aload_n 0, 1) := by decide +kernel
theorem dX9_turns_17 : decode cX9_turns 17 = .ok (.getfield 7, 3) := by decide +kernel
theorem dX9_turns_20 : decode cX9_turns 20 = .ok (.bipush 16, 2) := by decide +kernel
theorem dX9_turns_22 : decode cX9_turns 22 = .ok (.dup2, 1) := by decide +kernel
theorem dX9_turns_23 : decode cX9_turns 23 = .ok (.iaload, 1) := by decide +kernel
theorem dX9_turns_24 : decode cX9_turns 24 = .ok (.iconst 1, 1) := by decide +kernel
theorem dX9_turns_25 : decode cX9_turns 25 = .ok (.iadd, 1) := by decide +kernel
theorem dX9_turns_26 : decode cX9_turns 26 = .ok (.iastore, 1) := by decide +kernel
theorem dX9_turns_27 : decode cX9_turns 27 = .ok (.aload_n 0, 1) := by decide +kernel
theorem dX9_turns_28 : decode cX9_turns 28 = .ok (.getfield 7, 3) := by decide +kernel
theorem dX9_turns_31 : decode cX9_turns 31 = .ok (.aload_n 0, 1) := by decide +kernel
theorem dX9_turns_32 : decode cX9_turns 32 = .ok (.getfield 137, 3) := by decide +kernel
theorem dX9_turns_35 : decode cX9_turns 35 = .ok (.iconst 3, 1) := by decide +kernel
theorem dX9_turns_36 : decode cX9_turns 36 = .ok (.iadd, 1) := by decide +kernel
theorem dX9_turns_37 : decode cX9_turns 37 = .ok (.dup2, 1) := by decide +kernel
theorem dX9_turns_38 : decode cX9_turns 38 = .ok (.iaload, 1) := by decide +kernel
theorem dX9_turns_39 : decode cX9_turns 39 = .ok (.iconst 1, 1) := by decide +kernel
theorem dX9_turns_40 : decode cX9_turns 40 = .ok (.iadd, 1) := by decide +kernel
theorem dX9_turns_41 : decode cX9_turns 41 = .ok (.iastore, 1) := by decide +kernel
theorem dX9_turns_42 : decode cX9_turns 42 = .ok (.iconst 0, 1) := by decide +kernel
theorem dX9_turns_43 : decode cX9_turns 43 = .ok (.ireturn, 1) := by decide +kernel
theorem dX9_turns_44 : decode cX9_turns 44 = .ok (.aload_n 0, 1) := by decide +kernel
theorem dX9_turns_45 : decode cX9_turns 45 = .ok (.getfield 159, 3) := by decide +kernel
theorem dX9_turns_48 : decode cX9_turns 48 = .ok (.bipush 100, 2) := by decide +kernel
theorem dX9_turns_50 : decode cX9_turns 50 = .ok (.imul, 1) := by decide +kernel
theorem dX9_turns_51 : decode cX9_turns 51 = .ok (.bipush 100, 2) := by decide +kernel
theorem dX9_turns_53 : decode cX9_turns 53 = .ok (.aload_n 0, 1) := by decide +kernel
theorem dX9_turns_54 : decode cX9_turns 54 = .ok (.getfield 168, 3) := by decide +kernel
theorem dX9_turns_57 : decode cX9_turns 57 = .ok (.iadd, 1) := by decide +kernel
theorem dX9_turns_58 : decode cX9_turns 58 = .ok (.invokestatic 162, 3) := by decide +kernel
theorem dX9_turns_61 : decode cX9_turns 61 = .ok (.istore_n 2, 1) := by decide +kernel
theorem dX9_turns_62 : decode cX9_turns 62 = .ok (.aload_n 0, 1) := by decide +kernel
theorem dX9_turns_63 : decode cX9_turns 63 = .ok (.getfield 7, 3) := by decide +kernel
theorem dX9_turns_66 : decode cX9_turns 66 = .ok (.iconst 0, 1) := by decide +kernel
theorem dX9_turns_67 : decode cX9_turns 67 = .ok (.iaload, 1) := by decide +kernel
theorem dX9_turns_68 : decode cX9_turns 68 = .ok (.ifCond .le 123, 3) := by decide +kernel
theorem dX9_turns_71 : decode cX9_turns 71 = .ok (.aload_n 0, 1) := by decide +kernel
theorem dX9_turns_72 : decode cX9_turns 72 = .ok (.iconst 0, 1) := by decide +kernel
theorem dX9_turns_73 : decode cX9_turns 73 = .ok (.iconst 0, 1) := by decide +kernel
theorem dX9_turns_74 : decode cX9_turns 74 = .ok (.invokevirtual 46, 3) := by decide +kernel
theorem dX9_turns_77 : decode cX9_turns 77 = .ok (.aload_n 0, 1) := by decide +kernel
theorem dX9_turns_78 : decode cX9_turns 78 = .ok (.iconst 0, 1) := by decide +kernel
theorem dX9_turns_79 : decode cX9_turns 79 = .ok (.iconst 2, 1) := by decide +kernel
theorem dX9_turns_80 : decode cX9_turns 80 = .ok (.invokevirtual 46, 3) := by decide +kernel
theorem dX9_turns_83 : decode cX9_turns 83 = .ok (.isub, 1) := by decide +kernel
theorem dX9_turns_84 : decode cX9_turns 84 = .ok (.istore_n 3, 1) := by decide +kernel
theorem dX9_turns_85 : decode cX9_turns 85 = .ok (.aload_n 0, 1) := by decide +kernel
theorem dX9_turns_86 : decode cX9_turns 86 = .ok (.iconst 0, 1) := by decide +kernel
theorem dX9_turns_87 : decode cX9_turns 87 = .ok (.iload_n 1, 1) := by decide +kernel
theorem dX9_turns_88 : decode cX9_turns 88 = .ok (.invokevirtual 54, 3) := by decide +kernel
theorem dX9_turns_91 : decode cX9_turns 91 = .ok (.istore 4, 2) := by decide +kernel
theorem dX9_turns_93 : decode cX9_turns 93 = .ok (.iload_n 3, 1) := by decide +kernel
theorem dX9_turns_94 : decode cX9_turns 94 = .ok (.iload_n 2, 1) := by decide +kernel
theorem dX9_turns_95 : decode cX9_turns 95 = .ok (.if_icmp .ge 49, 3) := by decide +kernel
theorem dX9_turns_98 : decode cX9_turns 98 = .ok (.aload_n 0, 1) := by decide +kernel
theorem dX9_turns_99 : decode cX9_turns 99 = .ok (.iconst 2, 1) := by decide +kernel
theorem dX9_turns_100 : decode cX9_turns 100 = .ok (.iload_n 3, 1) := by decide +kernel
theorem dX9_turns_101 : decode cX9_turns 101 = .ok (.invokevirtual 149, 3) := by decide +kernel
theorem dX9_turns_104 : decode cX9_turns 104 = .ok (.aload_n 0, 1) := by decide +kernel
theorem dX9_turns_105 : decode cX9_turns 105 = .ok (.invokevirtual 171, 3) := by decide +kernel
theorem dX9_turns_108 : decode cX9_turns 108 = .ok (.aload_n 0, 1) := by decide +kernel
theorem dX9_turns_109 : decode cX9_turns 109 = .ok (.getfield 7, 3) := by decide +kernel
theorem dX9_turns_112 : decode cX9_turns 112 = .ok (.bipush 14, 2) := by decide +kernel
theorem dX9_turns_114 : decode cX9_turns 114 = .ok (.dup2, 1) := by decide +kernel
theorem dX9_turns_115 : decode cX9_turns 115 = .ok (.iaload, 1) := by decide +kernel
theorem dX9_turns_116 : decode cX9_turns 116 = .ok (.iconst 1, 1) := by decide +kernel
theorem dX9_turns_117 : decode cX9_turns 117 = .ok (.iadd, 1) := by decide +kernel
theorem dX9_turns_118 : decode cX9_turns 118 = .ok (.iastore, 1) := by decide +kernel
theorem dX9_turns_119 : decode cX9_turns 119 = .ok (.aload_n 0, 1) := by decide +kernel
theorem dX9_turns_120 : decode cX9_turns 120 = .ok (.getfield 7, 3) := by decide +kernel
theorem dX9_turns_123 : decode cX9_turns 123 = .ok (.aload_n 0, 1) := by decide +kernel
theorem dX9_turns_124 : decode cX9_turns 124 = .ok (.getfield 137, 3) := by decide +kernel
theorem dX9_turns_127 : decode cX9_turns 127 = .ok (.bipush 7, 2) := by decide +kernel
theorem dX9_turns_129 : decode cX9_turns 129 = .ok (.iadd, 1) := by decide +kernel
theorem dX9_turns_130 : decode cX9_turns 130 = .ok (.dup2, 1) := by decide +kernel
theorem dX9_turns_131 : decode cX9_turns 131 = .ok (.iaload, 1) := by decide +kernel
theorem dX9_turns_132 : decode cX9_turns 132 = .ok (.iconst 1, 1) := by decide +kernel
theorem dX9_turns_133 : decode cX9_turns 133 = .ok (.iadd, 1) := by decide +kernel
theorem dX9_turns_134 : decode cX9_turns 134 = .ok (.iastore, 1) := by decide +kernel
theorem dX9_turns_135 : decode cX9_turns 135 = .ok (.aload_n 0, 1) := by decide +kernel
theorem dX9_turns_136 : decode cX9_turns 136 = .ok (.bipush 60, 2) := by decide +kernel
theorem dX9_turns_138 : decode cX9_turns 138 = .ok (.invokevirtual 156, 3) := by decide +kernel
theorem dX9_turns_141 : decode cX9_turns 141 = .ok (.goto 47, 3) := by decide +kernel
theorem dX9_turns_144 : decode cX9_turns 144 = .ok (.iload 4, 2) := by decide +kernel
theorem dX9_turns_146 : decode cX9_turns 146 = .ok (.ifCond .lt 34, 3) := by decide +kernel
theorem dX9_turns_149 : decode cX9_turns 149 = .ok (.aload_n 0, 1) := by decide +kernel
theorem dX9_turns_150 : decode cX9_turns 150 = .ok (.iconst 0, 1) := by decide +kernel
theorem dX9_turns_151 : decode cX9_turns 151 = .ok (.iconst 4, 1) := by decide +kernel
theorem dX9_turns_152 : decode cX9_turns 152 = .ok (.iload 4, 2) := by decide +kernel
theorem dX9_turns_154 : decode cX9_turns 154 = .ok (.iadd, 1) := by decide +kernel
theorem dX9_turns_155 : decode cX9_turns 155 = .ok (.invokevirtual 46, 3) := by decide +kernel
theorem dX9_turns_158 : decode cX9_turns 158 = .ok (.aload_n 0, 1) := by decide +kernel
theorem dX9_turns_159 : decode cX9_turns 159 = .ok (.iconst 0, 1) := by decide +kernel
theorem dX9_turns_160 : decode cX9_turns 160 = .ok (.iconst 2, 1) := by decide +kernel
theorem dX9_turns_161 : decode cX9_turns 161 = .ok (.invokevirtual 46, 3) := by decide +kernel
theorem dX9_turns_164 : decode cX9_turns 164 = .ok (.iload_n 2, 1) := by decide +kernel
theorem dX9_turns_165 : decode cX9_turns 165 = .ok (.iadd, 1) := by decide +kernel
theorem dX9_turns_166 : decode cX9_turns 166 = .ok (.if_icmp .gt 14, 3) := by decide +kernel
theorem dX9_turns_169 : decode cX9_turns 169 = .ok (.aload_n 0, 1) := by decide +kernel
theorem dX9_turns_170 : decode cX9_turns 170 = .ok (.iload 4, 2) := by decide +kernel
theorem dX9_turns_172 : decode cX9_turns 172 = .ok (.invokevirtual 174, 3) := by decide +kernel
theorem dX9_turns_175 : decode cX9_turns 175 = .ok (.ifCond .eq 13, 3) := by decide +kernel
theorem dX9_turns_178 : decode cX9_turns 178 = .ok (.iconst 2, 1) := by decide +kernel
theorem dX9_turns_179 : decode cX9_turns 179 = .ok (.ireturn, 1) := by decide +kernel
theorem dX9_turns_180 : decode cX9_turns 180 = .ok (.aload_n 0, 1) := by decide +kernel
theorem dX9_turns_181 : decode cX9_turns 181 = .ok (.iload_n 1, 1) := by decide +kernel
theorem dX9_turns_182 : decode cX9_turns 182 = .ok (.iload_n 2, 1) := by decide +kernel
theorem dX9_turns_183 : decode cX9_turns 183 = .ok (.invokevirtual 177, 3) := by decide +kernel
theorem dX9_turns_186 : decode cX9_turns 186 = .ok (.iconst 0, 1) := by decide +kernel
theorem dX9_turns_187 : decode cX9_turns 187 = .ok (.ireturn, 1) := by decide +kernel
theorem dX9_turns_188 : decode cX9_turns 188 = .ok (.goto (-126), 3) := by decide +kernel
theorem dX9_turns_191 : decode cX9_turns 191 = .ok (.iconst 1, 1) := by decide +kernel
theorem dX9_turns_192 : decode cX9_turns 192 = .ok (.ireturn, 1) := by decide +kernel
theorem dX9_does_0 : decode cX9_does 0 = .ok (.iconst 0, 1) := by decide +kernel
theorem dX9_does_1 : decode cX9_does 1 = .ok (.istore_n 3, 1) := by decide +kernel
theorem dX9_does_2 : decode cX9_does 2 = .ok (.iload_n 1, 1) := by decide +kernel
theorem dX9_does_3 : decode cX9_does 3 = .ok (.tableswitch 145 0 3 #[29, 56, 96, 137], 29) := by decide +kernel
theorem dX9_does_32 : decode cX9_does 32 = .ok (.iconst 0, 1) := by decide +kernel
theorem dX9_does_33 : decode cX9_does 33 = .ok (.istore 4, 2) := by decide +kernel
theorem dX9_does_35 : decode cX9_does 35 = .ok (.iload 4, 2) := by decide +kernel
theorem dX9_does_37 : decode cX9_does 37 = .ok (.iload_n 2, 1) := by decide +kernel
theorem dX9_does_38 : decode cX9_does 38 = .ok (.if_icmp .ge 18, 3) := by decide +kernel
theorem dX9_does_41 : decode cX9_does 41 = .ok (.iload_n 3, 1) := by decide +kernel
theorem dX9_does_42 : decode cX9_does 42 = .ok (.ifCond .ne 14, 3) := by decide +kernel
theorem dX9_does_45 : decode cX9_does 45 = .ok (.aload_n 0, 1) := by decide +kernel
theorem dX9_does_46 : decode cX9_does 46 = .ok (.invokevirtual 180, 3) := by decide +kernel
theorem dX9_does_49 : decode cX9_does 49 = .ok (.istore_n 3, 1) := by decide +kernel
theorem dX9_does_50 : decode cX9_does 50 = .ok (.iinc 4 1, 3) := by decide +kernel
theorem dX9_does_53 : decode cX9_does 53 = .ok (.goto (-18), 3) := by decide +kernel
theorem dX9_does_56 : decode cX9_does 56 = .ok (.goto 97, 3) := by decide +kernel
theorem dX9_does_59 : decode cX9_does 59 = .ok (.aload_n 0, 1) := by decide +kernel
theorem dX9_does_60 : decode cX9_does 60 = .ok (.getfield 131, 3) := by decide +kernel
theorem dX9_does_63 : decode cX9_does 63 = .ok (.aload_n 0, 1) := by decide +kernel
theorem dX9_does_64 : decode cX9_does 64 = .ok (.getfield 183, 3) := by decide +kernel
theorem dX9_does_67 : decode cX9_does 67 = .ok (.if_icmp .ge 86, 3) := by decide +kernel
theorem dX9_does_70 : decode cX9_does 70 = .ok (.iload_n 3, 1) := by decide +kernel
theorem dX9_does_71 : decode cX9_does 71 = .ok (.ifCond .ne 82, 3) := by decide +kernel
theorem dX9_does_74 : decode cX9_does 74 = .ok (.aload_n 0, 1) := by decide +kernel
theorem dX9_does_75 : decode cX9_does 75 = .ok (.aload_n 0, 1) := by decide +kernel
theorem dX9_does_76 : decode cX9_does 76 = .ok (.getfield 131, 3) := by decide +kernel
theorem dX9_does_79 : decode cX9_does 79 = .ok (.iload_n 2, 1) := by decide +kernel
theorem dX9_does_80 : decode cX9_does 80 = .ok (.iadd, 1) := by decide +kernel
theorem dX9_does_81 : decode cX9_does 81 = .ok (.aload_n 0, 1) := by decide +kernel
theorem dX9_does_82 : decode cX9_does 82 = .ok (.getfield 183, 3) := by decide +kernel
theorem dX9_does_85 : decode cX9_does 85 = .ok (.invokestatic 153, 3) := by decide +kernel
theorem dX9_does_88 : decode cX9_does 88 = .ok (.putfield 131, 3) := by decide +kernel
theorem dX9_does_91 : decode cX9_does 91 = .ok (.aload_n 0, 1) := by decide +kernel
theorem dX9_does_92 : decode cX9_does 92 = .ok (.invokevirtual 180, 3) := by decide +kernel
theorem dX9_does_95 : decode cX9_does 95 = .ok (.istore_n 3, 1) := by decide +kernel
theorem dX9_does_96 : decode cX9_does 96 = .ok (.goto (-37), 3) := by decide +kernel
theorem dX9_does_99 : decode cX9_does 99 = .ok (.aload_n 0, 1) := by decide +kernel
theorem dX9_does_100 : decode cX9_does 100 = .ok (.getfield 131, 3) := by decide +kernel
theorem dX9_does_103 : decode cX9_does 103 = .ok (.ifCond .le 50, 3) := by decide +kernel
theorem dX9_does_106 : decode cX9_does 106 = .ok (.iload_n 3, 1) := by decide +kernel
theorem dX9_does_107 : decode cX9_does 107 = .ok (.ifCond .ne 46, 3) := by decide +kernel
theorem dX9_does_110 : decode cX9_does 110 = .ok (.aload_n 0, 1) := by decide +kernel
theorem dX9_does_111 : decode cX9_does 111 = .ok (.aload_n 0, 1) := by decide +kernel
theorem dX9_does_112 : decode cX9_does 112 = .ok (.getfield 131, 3) := by decide +kernel
theorem dX9_does_115 : decode cX9_does 115 = .ok (.iload_n 2, 1) := by decide +kernel
theorem dX9_does_116 : decode cX9_does 116 = .ok (.if_icmp .le 12, 3) := by decide +kernel
theorem dX9_does_119 : decode cX9_does 119 = .ok (.aload_n 0, 1) := by decide +kernel
theorem dX9_does_120 : decode cX9_does 120 = .ok (.getfield 131, 3) := by decide +kernel
theorem dX9_does_123 : decode cX9_does 123 = .ok (.iload_n 2, 1) := by decide +kernel
theorem dX9_does_124 : decode cX9_does 124 = .ok (.isub, 1) := by decide +kernel
theorem dX9_does_125 : decode cX9_does 125 = .ok (.goto 4, 3) := by decide +kernel
theorem dX9_does_128 : decode cX9_does 128 = .ok (.iconst 0, 1) := by decide +kernel
theorem dX9_does_129 : decode cX9_does 129 = .ok (.putfield 131, 3) := by decide +kernel
theorem dX9_does_132 : decode cX9_does 132 = .ok (.aload_n 0, 1) := by decide +kernel
theorem dX9_does_133 : decode cX9_does 133 = .ok (.invokevirtual 180, 3) := by decide +kernel
theorem dX9_does_136 : decode cX9_does 136 = .ok (.istore_n 3, 1) := by decide +kernel
theorem dX9_does_137 : decode cX9_does 137 = .ok (.goto (-38), 3) := by decide +kernel
theorem dX9_does_140 : decode cX9_does 140 = .ok (.aload_n 0, 1) := by decide +kernel
theorem dX9_does_141 : decode cX9_does 141 = .ok (.iload_n 2, 1) := by decide +kernel
theorem dX9_does_142 : decode cX9_does 142 = .ok (.putfield 140, 3) := by decide +kernel
theorem dX9_does_145 : decode cX9_does 145 = .ok (.goto 8, 3) := by decide +kernel
theorem dX9_does_148 : decode cX9_does 148 = .ok (.aload_n 0, 1) := by decide +kernel
theorem dX9_does_149 : decode cX9_does 149 = .ok (.iload_n 2, 1) := by decide +kernel
theorem dX9_does_150 : decode cX9_does 150 = .ok (.putfield 168, 3) := by decide +kernel
theorem dX9_does_153 : decode cX9_does 153 = .ok (.iload_n 3, 1) := by decide +kernel
theorem dX9_does_154 : decode cX9_does 154 = .ok (.ireturn, 1) := by decide +kernel
theorem dX9_begins_0 : decode cX9_begins 0 = .ok (.aload_n 0, 1) := by decide +kernel
theorem dX9_begins_1 : decode cX9_begins 1 = .ok (.iconst 2, 1) := by decide +kernel
theorem dX9_begins_2 : decode cX9_begins 2 = .ok (.aload_n 0, 1) := by decide +kernel
theorem dX9_begins_3 : decode cX9_begins 3 = .ok (.iload_n 1, 1) := by decide +kernel
theorem dX9_begins_4 : decode cX9_begins 4 = .ok (.iconst 1, 1) := by decide +kernel
theorem dX9_begins_5 : decode cX9_begins 5 = .ok (.invokevirtual 69, 3) := by decide +kernel
theorem dX9_begins_8 : decode cX9_begins 8 = .ok (.aload_n 0, 1) := by decide +kernel
theorem dX9_begins_9 : decode cX9_begins 9 = .ok (.iload_n 1, 1) := by decide +kernel
theorem dX9_begins_10 : decode cX9_begins 10 = .ok (.iconst 2, 1) := by decide +kernel
theorem dX9_begins_11 : decode cX9_begins 11 = .ok (.invokevirtual 69, 3) := by decide +kernel
theorem dX9_begins_14 : decode cX9_begins 14 = .ok (.iadd, 1) := by decide +kernel
theorem dX9_begins_15 : decode cX9_begins 15 = .ok (.imul, 1) := by decide +kernel
theorem dX9_begins_16 : decode cX9_begins 16 = .ok (.putfield 159, 3) := by decide +kernel
theorem dX9_begins_19 : decode cX9_begins 19 = .ok (.aload_n 0, 1) := by decide +kernel
theorem dX9_begins_20 : decode cX9_begins 20 = .ok (.aload_n 0, 1) := by decide +kernel
theorem dX9_begins_21 : decode cX9_begins 21 = .ok (.iload_n 1, 1) := by decide +kernel
theorem dX9_begins_22 : decode cX9_begins 22 = .ok (.iconst 3, 1) := by decide +kernel
theorem dX9_begins_23 : decode cX9_begins 23 = .ok (.invokevirtual 69, 3) := by decide +kernel
theorem dX9_begins_26 : decode cX9_begins 26 = .ok (.bipush 10, 2) := by decide +kernel
theorem dX9_begins_28 : decode cX9_begins 28 = .ok (.invokestatic 162, 3) := by decide +kernel
theorem dX9_begins_31 : decode cX9_begins 31 = .ok (.putfield 128, 3) := by decide +kernel
theorem dX9_begins_34 : decode cX9_begins 34 = .ok (.aload_n 0, 1) := by decide +kernel
theorem dX9_begins_35 : decode cX9_begins 35 = .ok (.aload_n 0, 1) := by decide +kernel
theorem dX9_begins_36 : decode cX9_begins 36 = .ok (.iload_n 1, 1) := by decide +kernel
theorem dX9_begins_37 : decode cX9_begins 37 = .ok (.iconst 3, 1) := by decide +kernel
theorem dX9_begins_38 : decode cX9_begins 38 = .ok (.invokevirtual 69, 3) := by decide +kernel
theorem dX9_begins_41 : decode cX9_begins 41 = .ok (.bipush 50, 2) := by decide +kernel
theorem dX9_begins_43 : decode cX9_begins 43 = .ok (.if_icmp .le 15, 3) := by decide +kernel
theorem dX9_begins_46 : decode cX9_begins 46 = .ok (.aload_n 0, 1) := by decide +kernel
theorem dX9_begins_47 : decode cX9_begins 47 = .ok (.iload_n 1, 1) := by decide +kernel
theorem dX9_begins_48 : decode cX9_begins 48 = .ok (.iconst 3, 1) := by decide +kernel
theorem dX9_begins_49 : decode cX9_begins 49 = .ok (.invokevirtual 69, 3) := by decide +kernel
theorem dX9_begins_52 : decode cX9_begins 52 = .ok (.bipush 50, 2) := by decide +kernel
theorem dX9_begins_54 : decode cX9_begins 54 = .ok (.isub, 1) := by decide +kernel
theorem dX9_begins_55 : decode cX9_begins 55 = .ok (.goto 4, 3) := by decide +kernel
theorem dX9_begins_58 : decode cX9_begins 58 = .ok (.iconst 0, 1) := by decide +kernel
theorem dX9_begins_59 : decode cX9_begins 59 = .ok (.putfield 183, 3) := by decide +kernel
theorem dX9_begins_62 : decode cX9_begins 62 = .ok (.aload_n 0, 1) := by decide +kernel
theorem dX9_begins_63 : decode cX9_begins 63 = .ok (.aload_n 0, 1) := by decide +kernel
theorem dX9_begins_64 : decode cX9_begins 64 = .ok (.iload_n 1, 1) := by decide +kernel
theorem dX9_begins_65 : decode cX9_begins 65 = .ok (.iconst 4, 1) := by decide +kernel
theorem dX9_begins_66 : decode cX9_begins 66 = .ok (.invokevirtual 69, 3) := by decide +kernel
theorem dX9_begins_69 : decode cX9_begins 69 = .ok (.putfield 146, 3) := by decide +kernel
theorem dX9_begins_72 : decode cX9_begins 72 = .ok (.aload_n 0, 1) := by decide +kernel
theorem dX9_begins_73 : decode cX9_begins 73 = .ok (.iconst 0, 1) := by decide +kernel
theorem dX9_begins_74 : decode cX9_begins 74 = .ok (.putfield 131, 3) := by decide +kernel
theorem dX9_begins_77 : decode cX9_begins 77 = .ok (.aload_n 0, 1) := by decide +kernel
theorem dX9_begins_78 : decode cX9_begins 78 = .ok (.bipush 40, 2) := by decide +kernel
theorem dX9_begins_80 : decode cX9_begins 80 = .ok (.putfield 140, 3) := by decide +kernel
theorem dX9_begins_83 : decode cX9_begins 83 = .ok (.aload_n 0, 1) := by decide +kernel
theorem dX9_begins_84 : decode cX9_begins 84 = .ok (.bipush 100, 2) := by decide +kernel
theorem dX9_begins_86 : decode cX9_begins 86 = .ok (.putfield 168, 3) := by decide +kernel
theorem dX9_begins_89 : decode cX9_begins 89 = .ok (.return_, 1) := by decide +kernel
theorem dX9_wraps_0 : decode cX9_wraps 0 = .ok (.aload_n 0, 1) := by decide +kernel
theorem dX9_wraps_1 : decode cX9_wraps 1 = .ok (.iconst 0, 1) := by decide +kernel
theorem dX9_wraps_2 : decode cX9_wraps 2 = .ok (.invokevirtual 76, 3) := by decide +kernel
theorem dX9_wraps_5 : decode cX9_wraps 5 = .ok (.istore_n 1, 1) := by decide +kernel
theorem dX9_wraps_6 : decode cX9_wraps 6 = .ok (.aload_n 0, 1) := by decide +kernel
theorem dX9_wraps_7 : decode cX9_wraps 7 = .ok (.iload_n 1, 1) := by decide +kernel
theorem dX9_wraps_8 : decode cX9_wraps 8 = .ok (.invokevirtual 186, 3) := by decide +kernel
theorem dX9_wraps_11 : decode cX9_wraps 11 = .ok (.aload_n 0, 1) := by decide +kernel
theorem dX9_wraps_12 : decode cX9_wraps 12 = .ok (.sipush 212, 3) := by decide +kernel
theorem dX9_wraps_15 : decode cX9_wraps 15 = .ok (.bipush 64, 2) := by decide +kernel
theorem dX9_wraps_17 : decode cX9_wraps 17 = .ok (.aload_n 0, 1) := by decide +kernel
theorem dX9_wraps_18 : decode cX9_wraps 18 = .ok (.getfield 7, 3) := by decide +kernel
theorem dX9_wraps_21 : decode cX9_wraps 21 = .ok (.bipush 7, 2) := by decide +kernel
theorem dX9_wraps_23 : decode cX9_wraps 23 = .ok (.iaload, 1) := by decide +kernel
theorem dX9_wraps_24 : decode cX9_wraps 24 = .ok (.bipush 6, 2) := by decide +kernel
theorem dX9_wraps_26 : decode cX9_wraps 26 = .ok (.irem, 1) := by decide +kernel
theorem dX9_wraps_27 : decode cX9_wraps 27 = .ok (.imul, 1) := by decide +kernel
theorem dX9_wraps_28 : decode cX9_wraps 28 = .ok (.iadd, 1) := by decide +kernel
theorem dX9_wraps_29 : decode cX9_wraps 29 = .ok (.putfield 137, 3) := by decide +kernel
theorem dX9_wraps_32 : decode cX9_wraps 32 = .ok (.iconst 0, 1) := by decide +kernel
theorem dX9_wraps_33 : decode cX9_wraps 33 = .ok (.istore_n 2, 1) := by decide +kernel
theorem dX9_wraps_34 : decode cX9_wraps 34 = .ok (.iload_n 2, 1) := by decide +kernel
theorem dX9_wraps_35 : decode cX9_wraps 35 = .ok (.bipush 64, 2) := by decide +kernel
theorem dX9_wraps_37 : decode cX9_wraps 37 = .ok (.if_icmp .ge 21, 3) := by decide +kernel
theorem dX9_wraps_40 : decode cX9_wraps 40 = .ok (.aload_n 0, 1) := by decide +kernel
theorem dX9_wraps_41 : decode cX9_wraps 41 = .ok (.getfield 7, 3) := by decide +kernel
theorem dX9_wraps_44 : decode cX9_wraps 44 = .ok (.aload_n 0, 1) := by decide +kernel
theorem dX9_wraps_45 : decode cX9_wraps 45 = .ok (.getfield 137, 3) := by decide +kernel
theorem dX9_wraps_48 : decode cX9_wraps 48 = .ok (.iload_n 2, 1) := by decide +kernel
theorem dX9_wraps_49 : decode cX9_wraps 49 = .ok (.iadd, 1) := by decide +kernel
theorem dX9_wraps_50 : decode cX9_wraps 50 = .ok (.iconst 0, 1) := by decide +kernel
theorem dX9_wraps_51 : decode cX9_wraps 51 = .ok (.iastore, 1) := by decide +kernel
theorem dX9_wraps_52 : decode cX9_wraps 52 = .ok (.iinc 2 1, 3) := by decide +kernel
theorem dX9_wraps_55 : decode cX9_wraps 55 = .ok (.goto (-21), 3) := by decide +kernel
theorem dX9_wraps_58 : decode cX9_wraps 58 = .ok (.aload_n 0, 1) := by decide +kernel
theorem dX9_wraps_59 : decode cX9_wraps 59 = .ok (.getfield 7, 3) := by decide +kernel
theorem dX9_wraps_62 : decode cX9_wraps 62 = .ok (.aload_n 0, 1) := by decide +kernel
theorem dX9_wraps_63 : decode cX9_wraps 63 = .ok (.getfield 137, 3) := by decide +kernel
theorem dX9_wraps_66 : decode cX9_wraps 66 = .ok (.aload_n 0, 1) := by decide +kernel
theorem dX9_wraps_67 : decode cX9_wraps 67 = .ok (.iload_n 1, 1) := by decide +kernel
theorem dX9_wraps_68 : decode cX9_wraps 68 = .ok (.iconst 0, 1) := by decide +kernel
theorem dX9_wraps_69 : decode cX9_wraps 69 = .ok (.invokevirtual 69, 3) := by decide +kernel
theorem dX9_wraps_72 : decode cX9_wraps 72 = .ok (.iastore, 1) := by decide +kernel
theorem dX9_wraps_73 : decode cX9_wraps 73 = .ok (.aload_n 0, 1) := by decide +kernel
theorem dX9_wraps_74 : decode cX9_wraps 74 = .ok (.getfield 7, 3) := by decide +kernel
theorem dX9_wraps_77 : decode cX9_wraps 77 = .ok (.aload_n 0, 1) := by decide +kernel
theorem dX9_wraps_78 : decode cX9_wraps 78 = .ok (.getfield 137, 3) := by decide +kernel
theorem dX9_wraps_81 : decode cX9_wraps 81 = .ok (.bipush 12, 2) := by decide +kernel
theorem dX9_wraps_83 : decode cX9_wraps 83 = .ok (.iadd, 1) := by decide +kernel
theorem dX9_wraps_84 : decode cX9_wraps 84 = .ok (.aload_n 0, 1) := by decide +kernel
theorem dX9_wraps_85 : decode cX9_wraps 85 = .ok (.getfield 128, 3) := by decide +kernel
theorem dX9_wraps_88 : decode cX9_wraps 88 = .ok (.iastore, 1) := by decide +kernel
theorem dX9_wraps_89 : decode cX9_wraps 89 = .ok (.aload_n 0, 1) := by decide +kernel
theorem dX9_wraps_90 : decode cX9_wraps 90 = .ok (.iload_n 1, 1) := by decide +kernel
theorem dX9_wraps_91 : decode cX9_wraps 91 = .ok (.invokevirtual 72, 3) := by decide +kernel
theorem dX9_wraps_94 : decode cX9_wraps 94 = .ok (.iconst 0, 1) := by decide +kernel
theorem dX9_wraps_95 : decode cX9_wraps 95 = .ok (.istore_n 2, 1) := by decide +kernel
theorem dX9_wraps_96 : decode cX9_wraps 96 = .ok (.iconst 0, 1) := by decide +kernel
theorem dX9_wraps_97 : decode cX9_wraps 97 = .ok (.istore_n 3, 1) := by decide +kernel
theorem dX9_wraps_98 : decode cX9_wraps 98 = .ok (.iload_n 3, 1) := by decide +kernel
theorem dX9_wraps_99 : decode cX9_wraps 99 = .ok (.aload_n 0, 1) := by decide +kernel
theorem dX9_wraps_100 : decode cX9_wraps 100 = .ok (.getfield 7, 3) := by decide +kernel
theorem dX9_wraps_103 : decode cX9_wraps 103 = .ok (.iconst 3, 1) := by decide +kernel
theorem dX9_wraps_104 : decode cX9_wraps 104 = .ok (.iaload, 1) := by decide +kernel
theorem dX9_wraps_105 : decode cX9_wraps 105 = .ok (.if_icmp .ge 44, 3) := by decide +kernel
theorem dX9_wraps_108 : decode cX9_wraps 108 = .ok (.iload_n 2, 1) := by decide +kernel
theorem dX9_wraps_109 : decode cX9_wraps 109 = .ok (.ifCond .ne 40, 3) := by decide +kernel
theorem dX9_wraps_112 : decode cX9_wraps 112 = .ok (.aload_n 0, 1) := by decide +kernel
theorem dX9_wraps_113 : decode cX9_wraps 113 = .ok (.aload_n 0, 1) := by decide +kernel
theorem dX9_wraps_114 : decode cX9_wraps 114 = .ok (.getfield 7, 3) := by decide +kernel
theorem dX9_wraps_117 : decode cX9_wraps 117 = .ok (.sipush 188, 3) := by decide +kernel
theorem dX9_wraps_120 : decode cX9_wraps 120 = .ok (.iconst 2, 1) := by decide +kernel
theorem dX9_wraps_121 : decode cX9_wraps 121 = .ok (.iload_n 3, 1) := by decide +kernel
theorem dX9_wraps_122 : decode cX9_wraps 122 = .ok (.imul, 1) := by decide +kernel
theorem dX9_wraps_123 : decode cX9_wraps 123 = .ok (.iadd, 1) := by decide +kernel
theorem dX9_wraps_124 : decode cX9_wraps 124 = .ok (.iaload, 1) := by decide +kernel
theorem dX9_wraps_125 : decode cX9_wraps 125 = .ok (.aload_n 0, 1) := by decide +kernel
theorem dX9_wraps_126 : decode cX9_wraps 126 = .ok (.getfield 7, 3) := by decide +kernel
theorem dX9_wraps_129 : decode cX9_wraps 129 = .ok (.sipush 188, 3) := by decide +kernel
theorem dX9_wraps_132 : decode cX9_wraps 132 = .ok (.iconst 2, 1) := by decide +kernel
theorem dX9_wraps_133 : decode cX9_wraps 133 = .ok (.iload_n 3, 1) := by decide +kernel
theorem dX9_wraps_134 : decode cX9_wraps 134 = .ok (.imul, 1) := by decide +kernel
theorem dX9_wraps_135 : decode cX9_wraps 135 = .ok (.iadd, 1) := by decide +kernel
theorem dX9_wraps_136 : decode cX9_wraps 136 = .ok (.iconst 1, 1) := by decide +kernel
theorem dX9_wraps_137 : decode cX9_wraps 137 = .ok (.iadd, 1) := by decide +kernel
theorem dX9_wraps_138 : decode cX9_wraps 138 = .ok (.iaload, 1) := by decide +kernel
theorem dX9_wraps_139 : decode cX9_wraps 139 = .ok (.invokevirtual 189, 3) := by decide +kernel
theorem dX9_wraps_142 : decode cX9_wraps 142 = .ok (.istore_n 2, 1) := by decide +kernel
theorem dX9_wraps_143 : decode cX9_wraps 143 = .ok (.iinc 3 1, 3) := by decide +kernel
theorem dX9_wraps_146 : decode cX9_wraps 146 = .ok (.goto (-48), 3) := by decide +kernel
theorem dX9_wraps_149 : decode cX9_wraps 149 = .ok (.aload_n 0, 1) := by decide +kernel
theorem dX9_wraps_150 : decode cX9_wraps 150 = .ok (.getfield 7, 3) := by decide +kernel
theorem dX9_wraps_153 : decode cX9_wraps 153 = .ok (.aload_n 0, 1) := by decide +kernel
theorem dX9_wraps_154 : decode cX9_wraps 154 = .ok (.getfield 137, 3) := by decide +kernel
theorem dX9_wraps_157 : decode cX9_wraps 157 = .ok (.iconst 1, 1) := by decide +kernel
theorem dX9_wraps_158 : decode cX9_wraps 158 = .ok (.iadd, 1) := by decide +kernel
theorem dX9_wraps_159 : decode cX9_wraps 159 = .ok (.iload_n 2, 1) := by decide +kernel
theorem dX9_wraps_160 : decode cX9_wraps 160 = .ok (.iastore, 1) := by decide +kernel
theorem dX9_wraps_161 : decode cX9_wraps 161 = .ok (.aload_n 0, 1) := by decide +kernel
theorem dX9_wraps_162 : decode cX9_wraps 162 = .ok (.getfield 7, 3) := by decide +kernel
theorem dX9_wraps_165 : decode cX9_wraps 165 = .ok (.aload_n 0, 1) := by decide +kernel
theorem dX9_wraps_166 : decode cX9_wraps 166 = .ok (.getfield 137, 3) := by decide +kernel
theorem dX9_wraps_169 : decode cX9_wraps 169 = .ok (.bipush 8, 2) := by decide +kernel
theorem dX9_wraps_171 : decode cX9_wraps 171 = .ok (.iadd, 1) := by decide +kernel
theorem dX9_wraps_172 : decode cX9_wraps 172 = .ok (.aload_n 0, 1) := by decide +kernel
theorem dX9_wraps_173 : decode cX9_wraps 173 = .ok (.getfield 7, 3) := by decide +kernel
theorem dX9_wraps_176 : decode cX9_wraps 176 = .ok (.aload_n 0, 1) := by decide +kernel
theorem dX9_wraps_177 : decode cX9_wraps 177 = .ok (.getfield 137, 3) := by decide +kernel
theorem dX9_wraps_180 : decode cX9_wraps 180 = .ok (.bipush 13, 2) := by decide +kernel
theorem dX9_wraps_182 : decode cX9_wraps 182 = .ok (.iadd, 1) := by decide +kernel
theorem dX9_wraps_183 : decode cX9_wraps 183 = .ok (.iaload, 1) := by decide +kernel
theorem dX9_wraps_184 : decode cX9_wraps 184 = .ok (.iastore, 1) := by decide +kernel
theorem dX9_wraps_185 : decode cX9_wraps 185 = .ok (.iconst 0, 1) := by decide +kernel
theorem dX9_wraps_186 : decode cX9_wraps 186 = .ok (.istore_n 3, 1) := by decide +kernel
theorem dX9_wraps_187 : decode cX9_wraps 187 = .ok (.iload_n 3, 1) := by decide +kernel
theorem dX9_wraps_188 : decode cX9_wraps 188 = .ok (.aload_n 0, 1) := by decide +kernel
theorem dX9_wraps_189 : decode cX9_wraps 189 = .ok (.getfield 128, 3) := by decide +kernel
theorem dX9_wraps_192 : decode cX9_wraps 192 = .ok (.if_icmp .ge 120, 3) := by decide +kernel
theorem dX9_wraps_195 : decode cX9_wraps 195 = .ok (.aload_n 0, 1) := by decide +kernel
theorem dX9_wraps_196 : decode cX9_wraps 196 = .ok (.getfield 7, 3) := by decide +kernel
theorem dX9_wraps_199 : decode cX9_wraps 199 = .ok (.aload_n 0, 1) := by decide +kernel
theorem dX9_wraps_200 : decode cX9_wraps 200 = .ok (.getfield 137, 3) := by decide +kernel
theorem dX9_wraps_203 : decode cX9_wraps 203 = .ok (.bipush 8, 2) := by decide +kernel
theorem dX9_wraps_205 : decode cX9_wraps 205 = .ok (.iadd, 1) := by decide +kernel
theorem dX9_wraps_206 : decode cX9_wraps 206 = .ok (.aload_n 0, 1) := by decide +kernel
theorem dX9_wraps_207 : decode cX9_wraps 207 = .ok (.getfield 7, 3) := by decide +kernel
theorem dX9_wraps_210 : decode cX9_wraps 210 = .ok (.aload_n 0, 1) := by decide +kernel
theorem dX9_wraps_211 : decode cX9_wraps 211 = .ok (.getfield 137, 3) := by decide +kernel
theorem dX9_wraps_214 : decode cX9_wraps 214 = .ok (.bipush 8, 2) := by decide +kernel
theorem dX9_wraps_216 : decode cX9_wraps 216 = .ok (.iadd, 1) := by decide +kernel
theorem dX9_wraps_217 : decode cX9_wraps 217 = .ok (.iaload, 1) := by decide +kernel
theorem dX9_wraps_218 : decode cX9_wraps 218 = .ok (.aload_n 0, 1) := by decide +kernel
theorem dX9_wraps_219 : decode cX9_wraps 219 = .ok (.getfield 7, 3) := by decide +kernel
theorem dX9_wraps_222 : decode cX9_wraps 222 = .ok (.aload_n 0, 1) := by decide +kernel
theorem dX9_wraps_223 : decode cX9_wraps 223 = .ok (.getfield 137, 3) := by decide +kernel
theorem dX9_wraps_226 : decode cX9_wraps 226 = .ok (.bipush 13, 2) := by decide +kernel
theorem dX9_wraps_228 : decode cX9_wraps 228 = .ok (.iadd, 1) := by decide +kernel
theorem dX9_wraps_229 : decode cX9_wraps 229 = .ok (.iload_n 3, 1) := by decide +kernel
theorem dX9_wraps_230 : decode cX9_wraps 230 = .ok (.iadd, 1) := by decide +kernel
theorem dX9_wraps_231 : decode cX9_wraps 231 = .ok (.iaload, 1) := by decide +kernel
theorem dX9_wraps_232 : decode cX9_wraps 232 = .ok (.invokestatic 153, 3) := by decide +kernel
theorem dX9_wraps_235 : decode cX9_wraps 235 = .ok (.iastore, 1) := by decide +kernel
theorem dX9_wraps_236 : decode cX9_wraps 236 = .ok (.aload_n 0, 1) := by decide +kernel
theorem dX9_wraps_237 : decode cX9_wraps 237 = .ok (.getfield 7, 3) := by decide +kernel
theorem dX9_wraps_240 : decode cX9_wraps 240 = .ok (.aload_n 0, 1) := by decide +kernel
theorem dX9_wraps_241 : decode cX9_wraps 241 = .ok (.getfield 137, 3) := by decide +kernel
theorem dX9_wraps_244 : decode cX9_wraps 244 = .ok (.bipush 9, 2) := by decide +kernel
theorem dX9_wraps_246 : decode cX9_wraps 246 = .ok (.iadd, 1) := by decide +kernel
theorem dX9_wraps_247 : decode cX9_wraps 247 = .ok (.aload_n 0, 1) := by decide +kernel
theorem dX9_wraps_248 : decode cX9_wraps 248 = .ok (.getfield 7, 3) := by decide +kernel
theorem dX9_wraps_251 : decode cX9_wraps 251 = .ok (.aload_n 0, 1) := by decide +kernel
theorem dX9_wraps_252 : decode cX9_wraps 252 = .ok (.getfield 137, 3) := by decide +kernel
theorem dX9_wraps_255 : decode cX9_wraps 255 = .ok (.bipush 38, 2) := by decide +kernel
theorem dX9_wraps_257 : decode cX9_wraps 257 = .ok (.iadd, 1) := by decide +kernel
theorem dX9_wraps_258 : decode cX9_wraps 258 = .ok (.iload_n 3, 1) := by decide +kernel
theorem dX9_wraps_259 : decode cX9_wraps 259 = .ok (.iadd, 1) := by decide +kernel
theorem dX9_wraps_260 : decode cX9_wraps 260 = .ok (.iaload, 1) := by decide +kernel
theorem dX9_wraps_261 : decode cX9_wraps 261 = .ok (.aload_n 0, 1) := by decide +kernel
theorem dX9_wraps_262 : decode cX9_wraps 262 = .ok (.getfield 7, 3) := by decide +kernel
theorem dX9_wraps_265 : decode cX9_wraps 265 = .ok (.aload_n 0, 1) := by decide +kernel
theorem dX9_wraps_266 : decode cX9_wraps 266 = .ok (.getfield 137, 3) := by decide +kernel
theorem dX9_wraps_269 : decode cX9_wraps 269 = .ok (.bipush 9, 2) := by decide +kernel
theorem dX9_wraps_271 : decode cX9_wraps 271 = .ok (.iadd, 1) := by decide +kernel
theorem dX9_wraps_272 : decode cX9_wraps 272 = .ok (.iaload, 1) := by decide +kernel
theorem dX9_wraps_273 : decode cX9_wraps 273 = .ok (.if_icmp .le 20, 3) := by decide +kernel
theorem dX9_wraps_276 : decode cX9_wraps 276 = .ok (.aload_n 0, 1) := by decide +kernel
theorem dX9_wraps_277 : decode cX9_wraps 277 = .ok (.getfield 7, 3) := by decide +kernel
theorem dX9_wraps_280 : decode cX9_wraps 280 = .ok (.aload_n 0, 1) := by decide +kernel
theorem dX9_wraps_281 : decode cX9_wraps 281 = .ok (.getfield 137, 3) := by decide +kernel
theorem dX9_wraps_284 : decode cX9_wraps 284 = .ok (.bipush 38, 2) := by decide +kernel
theorem dX9_wraps_286 : decode cX9_wraps 286 = .ok (.iadd, 1) := by decide +kernel
theorem dX9_wraps_287 : decode cX9_wraps 287 = .ok (.iload_n 3, 1) := by decide +kernel
theorem dX9_wraps_288 : decode cX9_wraps 288 = .ok (.iadd, 1) := by decide +kernel
theorem dX9_wraps_289 : decode cX9_wraps 289 = .ok (.iaload, 1) := by decide +kernel
theorem dX9_wraps_290 : decode cX9_wraps 290 = .ok (.goto 15, 3) := by decide +kernel
theorem dX9_wraps_293 : decode cX9_wraps 293 = .ok (.aload_n 0, 1) := by decide +kernel
theorem dX9_wraps_294 : decode cX9_wraps 294 = .ok (.getfield 7, 3) := by decide +kernel
theorem dX9_wraps_297 : decode cX9_wraps 297 = .ok (.aload_n 0, 1) := by decide +kernel
theorem dX9_wraps_298 : decode cX9_wraps 298 = .ok (.getfield 137, 3) := by decide +kernel
theorem dX9_wraps_301 : decode cX9_wraps 301 = .ok (.bipush 9, 2) := by decide +kernel
theorem dX9_wraps_303 : decode cX9_wraps 303 = .ok (.iadd, 1) := by decide +kernel
theorem dX9_wraps_304 : decode cX9_wraps 304 = .ok (.iaload, 1) := by decide +kernel
theorem dX9_wraps_305 : decode cX9_wraps 305 = .ok (.iastore, 1) := by decide +kernel
theorem dX9_wraps_306 : decode cX9_wraps 306 = .ok (.iinc 3 1, 3) := by decide +kernel
theorem dX9_wraps_309 : decode cX9_wraps 309 = .ok (.goto (-122), 3) := by decide +kernel
theorem dX9_wraps_312 : decode cX9_wraps 312 = .ok (.aload_n 0, 1) := by decide +kernel
theorem dX9_wraps_313 : decode cX9_wraps 313 = .ok (.getfield 7, 3) := by decide +kernel
theorem dX9_wraps_316 : decode cX9_wraps 316 = .ok (.bipush 17, 2) := by decide +kernel
theorem dX9_wraps_318 : decode cX9_wraps 318 = .ok (.dup2, 1) := by decide +kernel
theorem dX9_wraps_319 : decode cX9_wraps 319 = .ok (.iaload, 1) := by decide +kernel
theorem dX9_wraps_320 : decode cX9_wraps 320 = .ok (.iload_n 2, 1) := by decide +kernel
theorem dX9_wraps_321 : decode cX9_wraps 321 = .ok (.ifCond .le 7, 3) := by decide +kernel
theorem dX9_wraps_324 : decode cX9_wraps 324 = .ok (.iconst 1, 1) := by decide +kernel
theorem dX9_wraps_325 : decode cX9_wraps 325 = .ok (.goto 4, 3) := by decide +kernel
theorem dX9_wraps_328 : decode cX9_wraps 328 = .ok (.iconst 0, 1) := by decide +kernel
theorem dX9_wraps_329 : decode cX9_wraps 329 = .ok (.iadd, 1) := by decide +kernel
theorem dX9_wraps_330 : decode cX9_wraps 330 = .ok (.iastore, 1) := by decide +kernel
theorem dX9_wraps_331 : decode cX9_wraps 331 = .ok (.aload_n 0, 1) := by decide +kernel
theorem dX9_wraps_332 : decode cX9_wraps 332 = .ok (.getfield 7, 3) := by decide +kernel
theorem dX9_wraps_335 : decode cX9_wraps 335 = .ok (.bipush 18, 2) := by decide +kernel
theorem dX9_wraps_337 : decode cX9_wraps 337 = .ok (.dup2, 1) := by decide +kernel
theorem dX9_wraps_338 : decode cX9_wraps 338 = .ok (.iaload, 1) := by decide +kernel
theorem dX9_wraps_339 : decode cX9_wraps 339 = .ok (.aload_n 0, 1) := by decide +kernel
theorem dX9_wraps_340 : decode cX9_wraps 340 = .ok (.getfield 7, 3) := by decide +kernel
theorem dX9_wraps_343 : decode cX9_wraps 343 = .ok (.aload_n 0, 1) := by decide +kernel
theorem dX9_wraps_344 : decode cX9_wraps 344 = .ok (.getfield 137, 3) := by decide +kernel
theorem dX9_wraps_347 : decode cX9_wraps 347 = .ok (.bipush 11, 2) := by decide +kernel
theorem dX9_wraps_349 : decode cX9_wraps 349 = .ok (.iadd, 1) := by decide +kernel
theorem dX9_wraps_350 : decode cX9_wraps 350 = .ok (.iaload, 1) := by decide +kernel
theorem dX9_wraps_351 : decode cX9_wraps 351 = .ok (.iadd, 1) := by decide +kernel
theorem dX9_wraps_352 : decode cX9_wraps 352 = .ok (.iastore, 1) := by decide +kernel
theorem dX9_wraps_353 : decode cX9_wraps 353 = .ok (.aload_n 0, 1) := by decide +kernel
theorem dX9_wraps_354 : decode cX9_wraps 354 = .ok (.getfield 7, 3) := by decide +kernel
theorem dX9_wraps_357 : decode cX9_wraps 357 = .ok (.bipush 19, 2) := by decide +kernel
theorem dX9_wraps_359 : decode cX9_wraps 359 = .ok (.dup2, 1) := by decide +kernel
theorem dX9_wraps_360 : decode cX9_wraps 360 = .ok (.iaload, 1) := by decide +kernel
theorem dX9_wraps_361 : decode cX9_wraps 361 = .ok (.aload_n 0, 1) := by decide +kernel
theorem dX9_wraps_362 : decode cX9_wraps 362 = .ok (.getfield 7, 3) := by decide +kernel
theorem dX9_wraps_365 : decode cX9_wraps 365 = .ok (.bipush 18, 2) := by decide +kernel
theorem dX9_wraps_367 : decode cX9_wraps 367 = .ok (.iaload, 1) := by decide +kernel
theorem dX9_wraps_368 : decode cX9_wraps 368 = .ok (.ldc 192, 2) := by decide +kernel
theorem dX9_wraps_370 : decode cX9_wraps 370 = .ok (.idiv, 1) := by decide +kernel
theorem dX9_wraps_371 : decode cX9_wraps 371 = .ok (.iadd, 1) := by decide +kernel
theorem dX9_wraps_372 : decode cX9_wraps 372 = .ok (.iastore, 1) := by decide +kernel
theorem dX9_wraps_373 : decode cX9_wraps 373 = .ok (.aload_n 0, 1) := by decide +kernel
theorem dX9_wraps_374 : decode cX9_wraps 374 = .ok (.getfield 7, 3) := by decide +kernel
theorem dX9_wraps_377 : decode cX9_wraps 377 = .ok (.bipush 18, 2) := by decide +kernel
theorem dX9_wraps_379 : decode cX9_wraps 379 = .ok (.dup2, 1) := by decide +kernel
theorem dX9_wraps_380 : decode cX9_wraps 380 = .ok (.iaload, 1) := by decide +kernel
theorem dX9_wraps_381 : decode cX9_wraps 381 = .ok (.ldc 192, 2) := by decide +kernel
theorem dX9_wraps_383 : decode cX9_wraps 383 = .ok (.irem, 1) := by decide +kernel
theorem dX9_wraps_384 : decode cX9_wraps 384 = .ok (.iastore, 1) := by decide +kernel
theorem dX9_wraps_385 : decode cX9_wraps 385 = .ok (.aload_n 0, 1) := by decide +kernel
theorem dX9_wraps_386 : decode cX9_wraps 386 = .ok (.getfield 7, 3) := by decide +kernel
theorem dX9_wraps_389 : decode cX9_wraps 389 = .ok (.bipush 7, 2) := by decide +kernel
theorem dX9_wraps_391 : decode cX9_wraps 391 = .ok (.dup2, 1) := by decide +kernel
theorem dX9_wraps_392 : decode cX9_wraps 392 = .ok (.iaload, 1) := by decide +kernel
theorem dX9_wraps_393 : decode cX9_wraps 393 = .ok (.iconst 1, 1) := by decide +kernel
theorem dX9_wraps_394 : decode cX9_wraps 394 = .ok (.iadd, 1) := by decide +kernel
theorem dX9_wraps_395 : decode cX9_wraps 395 = .ok (.iastore, 1) := by decide +kernel
theorem dX9_wraps_396 : decode cX9_wraps 396 = .ok (.iload_n 2, 1) := by decide +kernel
theorem dX9_wraps_397 : decode cX9_wraps 397 = .ok (.ireturn, 1) := by decide +kernel
theorem dX9_wrap_0 : decode cX9_wrap 0 = .ok (.aload_n 0, 1) := by decide +kernel
theorem dX9_wrap_1 : decode cX9_wrap 1 = .ok (.getfield 7, 3) := by decide +kernel
theorem dX9_wrap_4 : decode cX9_wrap 4 = .ok (.iconst 1, 1) := by decide +kernel
theorem dX9_wrap_5 : decode cX9_wrap 5 = .ok (.iaload, 1) := by decide +kernel
theorem dX9_wrap_6 : decode cX9_wrap 6 = .ok (.ifCond .ne 6, 3) := by decide +kernel
theorem dX9_wrap_9 : decode cX9_wrap 9 = .ok (.bipush (-2), 2) := by decide +kernel
theorem dX9_wrap_11 : decode cX9_wrap 11 = .ok (.ireturn, 1) := by decide +kernel
theorem dX9_wrap_12 : decode cX9_wrap 12 = .ok (.aload_n 0, 1) := by decide +kernel
theorem dX9_wrap_13 : decode cX9_wrap 13 = .ok (.invokevirtual 39, 3) := by decide +kernel
theorem dX9_wrap_16 : decode cX9_wrap 16 = .ok (.aload_n 0, 1) := by decide +kernel
theorem dX9_wrap_17 : decode cX9_wrap 17 = .ok (.invokevirtual 193, 3) := by decide +kernel
theorem dX9_wrap_20 : decode cX9_wrap 20 = .ok (.ireturn, 1) := by decide +kernel
theorem dX9_ifWrap_0 : decode cX9_ifWrap 0 = .ok (.iload_n 1, 1) := by decide +kernel
theorem dX9_ifWrap_1 : decode cX9_ifWrap 1 = .ok (.i2l, 1) := by decide +kernel
theorem dX9_ifWrap_2 : decode cX9_ifWrap 2 = .ok (.lconst 0, 1) := by decide +kernel
theorem dX9_ifWrap_3 : decode cX9_ifWrap 3 = .ok (.ldc2_w 196, 3) := by decide +kernel
theorem dX9_ifWrap_6 : decode cX9_ifWrap 6 = .ok (.invokestatic 33, 3) := by decide +kernel
theorem dX9_ifWrap_9 : decode cX9_ifWrap 9 = .ok (.ifCond .ne 5, 3) := by decide +kernel
theorem dX9_ifWrap_12 : decode cX9_ifWrap 12 = .ok (.iconst (-1), 1) := by decide +kernel
theorem dX9_ifWrap_13 : decode cX9_ifWrap 13 = .ok (.ireturn, 1) := by decide +kernel
theorem dX9_ifWrap_14 : decode cX9_ifWrap 14 = .ok (.aload_n 0, 1) := by decide +kernel
theorem dX9_ifWrap_15 : decode cX9_ifWrap 15 = .ok (.getfield 7, 3) := by decide +kernel
theorem dX9_ifWrap_18 : decode cX9_ifWrap 18 = .ok (.iconst 1, 1) := by decide +kernel
theorem dX9_ifWrap_19 : decode cX9_ifWrap 19 = .ok (.iaload, 1) := by decide +kernel
theorem dX9_ifWrap_20 : decode cX9_ifWrap 20 = .ok (.ifCond .ne 6, 3) := by decide +kernel
theorem dX9_ifWrap_23 : decode cX9_ifWrap 23 = .ok (.bipush (-2), 2) := by decide +kernel
theorem dX9_ifWrap_25 : decode cX9_ifWrap 25 = .ok (.ireturn, 1) := by decide +kernel
theorem dX9_ifWrap_26 : decode cX9_ifWrap 26 = .ok (.aload_n 0, 1) := by decide +kernel
theorem dX9_ifWrap_27 : decode cX9_ifWrap 27 = .ok (.invokevirtual 198, 3) := by decide +kernel
theorem dX9_ifWrap_30 : decode cX9_ifWrap 30 = .ok (.aload_n 0, 1) := by decide +kernel
theorem dX9_ifWrap_31 : decode cX9_ifWrap 31 = .ok (.invokevirtual 193, 3) := by decide +kernel
theorem dX9_ifWrap_34 : decode cX9_ifWrap 34 = .ok (.pop, 1) := by decide +kernel
theorem dX9_ifWrap_35 : decode cX9_ifWrap 35 = .ok (.aload_n 0, 1) := by decide +kernel
theorem dX9_ifWrap_36 : decode cX9_ifWrap 36 = .ok (.getfield 7, 3) := by decide +kernel
theorem dX9_ifWrap_39 : decode cX9_ifWrap 39 = .ok (.aload_n 0, 1) := by decide +kernel
theorem dX9_ifWrap_40 : decode cX9_ifWrap 40 = .ok (.getfield 137, 3) := by decide +kernel
theorem dX9_ifWrap_43 : decode cX9_ifWrap 43 = .ok (.iconst 1, 1) := by decide +kernel
theorem dX9_ifWrap_44 : decode cX9_ifWrap 44 = .ok (.iadd, 1) := by decide +kernel
theorem dX9_ifWrap_45 : decode cX9_ifWrap 45 = .ok (.iload_n 1, 1) := by decide +kernel
theorem dX9_ifWrap_46 : decode cX9_ifWrap 46 = .ok (.iadd, 1) := by decide +kernel
theorem dX9_ifWrap_47 : decode cX9_ifWrap 47 = .ok (.iaload, 1) := by decide +kernel
theorem dX9_ifWrap_48 : decode cX9_ifWrap 48 = .ok (.istore_n 2, 1) := by decide +kernel
theorem dX9_ifWrap_49 : decode cX9_ifWrap 49 = .ok (.aload_n 0, 1) := by decide +kernel
theorem dX9_ifWrap_50 : decode cX9_ifWrap 50 = .ok (.invokevirtual 201, 3) := by decide +kernel
theorem dX9_ifWrap_53 : decode cX9_ifWrap 53 = .ok (.iload_n 2, 1) := by decide +kernel
theorem dX9_ifWrap_54 : decode cX9_ifWrap 54 = .ok (.ireturn, 1) := by decide +kernel
theorem dX9_keptAt_0 : decode cX9_keptAt 0 = .ok (.iload_n 1, 1) := by decide +kernel
theorem dX9_keptAt_1 : decode cX9_keptAt 1 = .ok (.aload_n 0, 1) := by decide +kernel
theorem dX9_keptAt_2 : decode cX9_keptAt 2 = .ok (.getfield 7, 3) := by decide +kernel
theorem dX9_keptAt_5 : decode cX9_keptAt 5 = .ok (.bipush 7, 2) := by decide +kernel
theorem dX9_keptAt_7 : decode cX9_keptAt 7 = .ok (.iaload, 1) := by decide +kernel
theorem dX9_keptAt_8 : decode cX9_keptAt 8 = .ok (.bipush 6, 2) := by decide +kernel
theorem dX9_keptAt_10 : decode cX9_keptAt 10 = .ok (.invokestatic 153, 3) := by decide +kernel
theorem dX9_keptAt_13 : decode cX9_keptAt 13 = .ok (.if_icmp .ge 27, 3) := by decide +kernel
theorem dX9_keptAt_16 : decode cX9_keptAt 16 = .ok (.sipush 212, 3) := by decide +kernel
theorem dX9_keptAt_19 : decode cX9_keptAt 19 = .ok (.bipush 64, 2) := by decide +kernel
theorem dX9_keptAt_21 : decode cX9_keptAt 21 = .ok (.aload_n 0, 1) := by decide +kernel
theorem dX9_keptAt_22 : decode cX9_keptAt 22 = .ok (.getfield 7, 3) := by decide +kernel
theorem dX9_keptAt_25 : decode cX9_keptAt 25 = .ok (.bipush 7, 2) := by decide +kernel
theorem dX9_keptAt_27 : decode cX9_keptAt 27 = .ok (.iaload, 1) := by decide +kernel
theorem dX9_keptAt_28 : decode cX9_keptAt 28 = .ok (.iconst 1, 1) := by decide +kernel
theorem dX9_keptAt_29 : decode cX9_keptAt 29 = .ok (.isub, 1) := by decide +kernel
theorem dX9_keptAt_30 : decode cX9_keptAt 30 = .ok (.iload_n 1, 1) := by decide +kernel
theorem dX9_keptAt_31 : decode cX9_keptAt 31 = .ok (.isub, 1) := by decide +kernel
theorem dX9_keptAt_32 : decode cX9_keptAt 32 = .ok (.bipush 6, 2) := by decide +kernel
theorem dX9_keptAt_34 : decode cX9_keptAt 34 = .ok (.irem, 1) := by decide +kernel
theorem dX9_keptAt_35 : decode cX9_keptAt 35 = .ok (.imul, 1) := by decide +kernel
theorem dX9_keptAt_36 : decode cX9_keptAt 36 = .ok (.iadd, 1) := by decide +kernel
theorem dX9_keptAt_37 : decode cX9_keptAt 37 = .ok (.goto 4, 3) := by decide +kernel
theorem dX9_keptAt_40 : decode cX9_keptAt 40 = .ok (.iconst (-1), 1) := by decide +kernel
theorem dX9_keptAt_41 : decode cX9_keptAt 41 = .ok (.ireturn, 1) := by decide +kernel
theorem dX9_done_0 : decode cX9_done 0 = .ok (.iload_n 1, 1) := by decide +kernel
theorem dX9_done_1 : decode cX9_done 1 = .ok (.ifCond .lt 15, 3) := by decide +kernel
theorem dX9_done_4 : decode cX9_done 4 = .ok (.iload_n 2, 1) := by decide +kernel
theorem dX9_done_5 : decode cX9_done 5 = .ok (.i2l, 1) := by decide +kernel
theorem dX9_done_6 : decode cX9_done 6 = .ok (.lconst 0, 1) := by decide +kernel
theorem dX9_done_7 : decode cX9_done 7 = .ok (.ldc2_w 204, 3) := by decide +kernel
theorem dX9_done_10 : decode cX9_done 10 = .ok (.invokestatic 33, 3) := by decide +kernel
theorem dX9_done_13 : decode cX9_done 13 = .ok (.ifCond .ne 5, 3) := by decide +kernel
theorem dX9_done_16 : decode cX9_done 16 = .ok (.iconst (-1), 1) := by decide +kernel
theorem dX9_done_17 : decode cX9_done 17 = .ok (.ireturn, 1) := by decide +kernel
theorem dX9_done_18 : decode cX9_done 18 = .ok (.aload_n 0, 1) := by decide +kernel
theorem dX9_done_19 : decode cX9_done 19 = .ok (.iload_n 1, 1) := by decide +kernel
theorem dX9_done_20 : decode cX9_done 20 = .ok (.invokevirtual 206, 3) := by decide +kernel
theorem dX9_done_23 : decode cX9_done 23 = .ok (.istore_n 3, 1) := by decide +kernel
theorem dX9_done_24 : decode cX9_done 24 = .ok (.iload_n 3, 1) := by decide +kernel
theorem dX9_done_25 : decode cX9_done 25 = .ok (.ifCond .ge 8, 3) := by decide +kernel
theorem dX9_done_28 : decode cX9_done 28 = .ok (.bipush (-4), 2) := by decide +kernel
theorem dX9_done_30 : decode cX9_done 30 = .ok (.goto 11, 3) := by decide +kernel
theorem dX9_done_33 : decode cX9_done 33 = .ok (.aload_n 0, 1) := by decide +kernel
theorem dX9_done_34 : decode cX9_done 34 = .ok (.getfield 7, 3) := by decide +kernel
theorem dX9_done_37 : decode cX9_done 37 = .ok (.iload_n 3, 1) := by decide +kernel
theorem dX9_done_38 : decode cX9_done 38 = .ok (.iload_n 2, 1) := by decide +kernel
theorem dX9_done_39 : decode cX9_done 39 = .ok (.iadd, 1) := by decide +kernel
theorem dX9_done_40 : decode cX9_done 40 = .ok (.iaload, 1) := by decide +kernel
theorem dX9_done_41 : decode cX9_done 41 = .ok (.ireturn, 1) := by decide +kernel
theorem dX9_zone_0 : decode cX9_zone 0 = .ok (.iload_n 1, 1) := by decide +kernel
theorem dX9_zone_1 : decode cX9_zone 1 = .ok (.ifCond .lt 17, 3) := by decide +kernel
theorem dX9_zone_4 : decode cX9_zone 4 = .ok (.iload_n 2, 1) := by decide +kernel
theorem dX9_zone_5 : decode cX9_zone 5 = .ok (.ifCond .lt 13, 3) := by decide +kernel
theorem dX9_zone_8 : decode cX9_zone 8 = .ok (.iload_n 3, 1) := by decide +kernel
theorem dX9_zone_9 : decode cX9_zone 9 = .ok (.i2l, 1) := by decide +kernel
theorem dX9_zone_10 : decode cX9_zone 10 = .ok (.lconst 0, 1) := by decide +kernel
theorem dX9_zone_11 : decode cX9_zone 11 = .ok (.lconst 1, 1) := by decide +kernel
theorem dX9_zone_12 : decode cX9_zone 12 = .ok (.invokestatic 33, 3) := by decide +kernel
theorem dX9_zone_15 : decode cX9_zone 15 = .ok (.ifCond .ne 5, 3) := by decide +kernel
theorem dX9_zone_18 : decode cX9_zone 18 = .ok (.iconst (-1), 1) := by decide +kernel
theorem dX9_zone_19 : decode cX9_zone 19 = .ok (.ireturn, 1) := by decide +kernel
theorem dX9_zone_20 : decode cX9_zone 20 = .ok (.aload_n 0, 1) := by decide +kernel
theorem dX9_zone_21 : decode cX9_zone 21 = .ok (.iload_n 1, 1) := by decide +kernel
theorem dX9_zone_22 : decode cX9_zone 22 = .ok (.invokevirtual 206, 3) := by decide +kernel
theorem dX9_zone_25 : decode cX9_zone 25 = .ok (.istore 4, 2) := by decide +kernel
theorem dX9_zone_27 : decode cX9_zone 27 = .ok (.iload 4, 2) := by decide +kernel
theorem dX9_zone_29 : decode cX9_zone 29 = .ok (.ifCond .lt 17, 3) := by decide +kernel
theorem dX9_zone_32 : decode cX9_zone 32 = .ok (.iload_n 2, 1) := by decide +kernel
theorem dX9_zone_33 : decode cX9_zone 33 = .ok (.aload_n 0, 1) := by decide +kernel
theorem dX9_zone_34 : decode cX9_zone 34 = .ok (.getfield 7, 3) := by decide +kernel
theorem dX9_zone_37 : decode cX9_zone 37 = .ok (.iload 4, 2) := by decide +kernel
theorem dX9_zone_39 : decode cX9_zone 39 = .ok (.bipush 12, 2) := by decide +kernel
theorem dX9_zone_41 : decode cX9_zone 41 = .ok (.iadd, 1) := by decide +kernel
theorem dX9_zone_42 : decode cX9_zone 42 = .ok (.iaload, 1) := by decide +kernel
theorem dX9_zone_43 : decode cX9_zone 43 = .ok (.if_icmp .lt 8, 3) := by decide +kernel
theorem dX9_zone_46 : decode cX9_zone 46 = .ok (.bipush (-4), 2) := by decide +kernel
theorem dX9_zone_48 : decode cX9_zone 48 = .ok (.goto 24, 3) := by decide +kernel
theorem dX9_zone_51 : decode cX9_zone 51 = .ok (.aload_n 0, 1) := by decide +kernel
theorem dX9_zone_52 : decode cX9_zone 52 = .ok (.getfield 7, 3) := by decide +kernel
theorem dX9_zone_55 : decode cX9_zone 55 = .ok (.iload 4, 2) := by decide +kernel
theorem dX9_zone_57 : decode cX9_zone 57 = .ok (.iload_n 3, 1) := by decide +kernel
theorem dX9_zone_58 : decode cX9_zone 58 = .ok (.ifCond .ne 8, 3) := by decide +kernel
theorem dX9_zone_61 : decode cX9_zone 61 = .ok (.bipush 13, 2) := by decide +kernel
theorem dX9_zone_63 : decode cX9_zone 63 = .ok (.goto 5, 3) := by decide +kernel
theorem dX9_zone_66 : decode cX9_zone 66 = .ok (.bipush 38, 2) := by decide +kernel
theorem dX9_zone_68 : decode cX9_zone 68 = .ok (.iadd, 1) := by decide +kernel
theorem dX9_zone_69 : decode cX9_zone 69 = .ok (.iload_n 2, 1) := by decide +kernel
theorem dX9_zone_70 : decode cX9_zone 70 = .ok (.iadd, 1) := by decide +kernel
theorem dX9_zone_71 : decode cX9_zone 71 = .ok (.iaload, 1) := by decide +kernel
theorem dX9_zone_72 : decode cX9_zone 72 = .ok (.ireturn, 1) := by decide +kernel
theorem dX9_total_0 : decode cX9_total 0 = .ok (.iload_n 1, 1) := by decide +kernel
theorem dX9_total_1 : decode cX9_total 1 = .ok (.i2l, 1) := by decide +kernel
theorem dX9_total_2 : decode cX9_total 2 = .ok (.lconst 0, 1) := by decide +kernel
theorem dX9_total_3 : decode cX9_total 3 = .ok (.ldc2_w 196, 3) := by decide +kernel
theorem dX9_total_6 : decode cX9_total 6 = .ok (.invokestatic 33, 3) := by decide +kernel
theorem dX9_total_9 : decode cX9_total 9 = .ok (.ifCond .eq 15, 3) := by decide +kernel
theorem dX9_total_12 : decode cX9_total 12 = .ok (.aload_n 0, 1) := by decide +kernel
theorem dX9_total_13 : decode cX9_total 13 = .ok (.getfield 7, 3) := by decide +kernel
theorem dX9_total_16 : decode cX9_total 16 = .ok (.bipush 8, 2) := by decide +kernel
theorem dX9_total_18 : decode cX9_total 18 = .ok (.iload_n 1, 1) := by decide +kernel
theorem dX9_total_19 : decode cX9_total 19 = .ok (.iadd, 1) := by decide +kernel
theorem dX9_total_20 : decode cX9_total 20 = .ok (.iaload, 1) := by decide +kernel
theorem dX9_total_21 : decode cX9_total 21 = .ok (.goto 4, 3) := by decide +kernel
theorem dX9_total_24 : decode cX9_total 24 = .ok (.iconst (-1), 1) := by decide +kernel
theorem dX9_total_25 : decode cX9_total 25 = .ok (.ireturn, 1) := by decide +kernel
theorem dX9_weight_0 : decode cX9_weight 0 = .ok (.ldc2_w 209, 3) := by decide +kernel
theorem dX9_weight_3 : decode cX9_weight 3 = .ok (.aload_n 0, 1) := by decide +kernel
theorem dX9_weight_4 : decode cX9_weight 4 = .ok (.getfield 7, 3) := by decide +kernel
theorem dX9_weight_7 : decode cX9_weight 7 = .ok (.bipush 19, 2) := by decide +kernel
theorem dX9_weight_9 : decode cX9_weight 9 = .ok (.iaload, 1) := by decide +kernel
theorem dX9_weight_10 : decode cX9_weight 10 = .ok (.i2l, 1) := by decide +kernel
theorem dX9_weight_11 : decode cX9_weight 11 = .ok (.lmul, 1) := by decide +kernel
theorem dX9_weight_12 : decode cX9_weight 12 = .ok (.aload_n 0, 1) := by decide +kernel
theorem dX9_weight_13 : decode cX9_weight 13 = .ok (.getfield 7, 3) := by decide +kernel
theorem dX9_weight_16 : decode cX9_weight 16 = .ok (.bipush 18, 2) := by decide +kernel
theorem dX9_weight_18 : decode cX9_weight 18 = .ok (.iaload, 1) := by decide +kernel
theorem dX9_weight_19 : decode cX9_weight 19 = .ok (.i2l, 1) := by decide +kernel
theorem dX9_weight_20 : decode cX9_weight 20 = .ok (.ladd, 1) := by decide +kernel
theorem dX9_weight_21 : decode cX9_weight 21 = .ok (.lreturn, 1) := by decide +kernel
theorem dX9_plans_0 : decode cX9_plans 0 = .ok (.iconst 0, 1) := by decide +kernel
theorem dX9_plans_1 : decode cX9_plans 1 = .ok (.istore 4, 2) := by decide +kernel
theorem dX9_plans_3 : decode cX9_plans 3 = .ok (.iload_n 1, 1) := by decide +kernel
theorem dX9_plans_4 : decode cX9_plans 4 = .ok (.tableswitch 157 0 2 #[28, 50, 103], 28) := by decide +kernel
theorem dX9_plans_32 : decode cX9_plans 32 = .ok (.aload_n 0, 1) := by decide +kernel
theorem dX9_plans_33 : decode cX9_plans 33 = .ok (.aload_n 0, 1) := by decide +kernel
theorem dX9_plans_34 : decode cX9_plans 34 = .ok (.getfield 131, 3) := by decide +kernel
theorem dX9_plans_37 : decode cX9_plans 37 = .ok (.iload_n 3, 1) := by decide +kernel
theorem dX9_plans_38 : decode cX9_plans 38 = .ok (.invokevirtual 134, 3) := by decide +kernel
theorem dX9_plans_41 : decode cX9_plans 41 = .ok (.ifCond .eq 7, 3) := by decide +kernel
theorem dX9_plans_44 : decode cX9_plans 44 = .ok (.iload_n 2, 1) := by decide +kernel
theorem dX9_plans_45 : decode cX9_plans 45 = .ok (.goto 4, 3) := by decide +kernel
theorem dX9_plans_48 : decode cX9_plans 48 = .ok (.iconst 0, 1) := by decide +kernel
theorem dX9_plans_49 : decode cX9_plans 49 = .ok (.istore 4, 2) := by decide +kernel
theorem dX9_plans_51 : decode cX9_plans 51 = .ok (.goto 110, 3) := by decide +kernel
theorem dX9_plans_54 : decode cX9_plans 54 = .ok (.aload_n 0, 1) := by decide +kernel
theorem dX9_plans_55 : decode cX9_plans 55 = .ok (.getfield 131, 3) := by decide +kernel
theorem dX9_plans_58 : decode cX9_plans 58 = .ok (.aload_n 0, 1) := by decide +kernel
theorem dX9_plans_59 : decode cX9_plans 59 = .ok (.getfield 183, 3) := by decide +kernel
theorem dX9_plans_62 : decode cX9_plans 62 = .ok (.if_icmp .ge 99, 3) := by decide +kernel
theorem dX9_plans_65 : decode cX9_plans 65 = .ok (.aload_n 0, 1) := by decide +kernel
theorem dX9_plans_66 : decode cX9_plans 66 = .ok (.aload_n 0, 1) := by decide +kernel
theorem dX9_plans_67 : decode cX9_plans 67 = .ok (.getfield 131, 3) := by decide +kernel
theorem dX9_plans_70 : decode cX9_plans 70 = .ok (.iload_n 2, 1) := by decide +kernel
theorem dX9_plans_71 : decode cX9_plans 71 = .ok (.iadd, 1) := by decide +kernel
theorem dX9_plans_72 : decode cX9_plans 72 = .ok (.aload_n 0, 1) := by decide +kernel
theorem dX9_plans_73 : decode cX9_plans 73 = .ok (.getfield 183, 3) := by decide +kernel
theorem dX9_plans_76 : decode cX9_plans 76 = .ok (.invokestatic 153, 3) := by decide +kernel
theorem dX9_plans_79 : decode cX9_plans 79 = .ok (.putfield 131, 3) := by decide +kernel
theorem dX9_plans_82 : decode cX9_plans 82 = .ok (.iload 4, 2) := by decide +kernel
theorem dX9_plans_84 : decode cX9_plans 84 = .ok (.aload_n 0, 1) := by decide +kernel
theorem dX9_plans_85 : decode cX9_plans 85 = .ok (.aload_n 0, 1) := by decide +kernel
theorem dX9_plans_86 : decode cX9_plans 86 = .ok (.getfield 131, 3) := by decide +kernel
theorem dX9_plans_89 : decode cX9_plans 89 = .ok (.iload_n 3, 1) := by decide +kernel
theorem dX9_plans_90 : decode cX9_plans 90 = .ok (.invokevirtual 134, 3) := by decide +kernel
theorem dX9_plans_93 : decode cX9_plans 93 = .ok (.ifCond .eq 7, 3) := by decide +kernel
theorem dX9_plans_96 : decode cX9_plans 96 = .ok (.iconst 1, 1) := by decide +kernel
theorem dX9_plans_97 : decode cX9_plans 97 = .ok (.goto 4, 3) := by decide +kernel
theorem dX9_plans_100 : decode cX9_plans 100 = .ok (.iconst 0, 1) := by decide +kernel
theorem dX9_plans_101 : decode cX9_plans 101 = .ok (.iadd, 1) := by decide +kernel
theorem dX9_plans_102 : decode cX9_plans 102 = .ok (.istore 4, 2) := by decide +kernel
theorem dX9_plans_104 : decode cX9_plans 104 = .ok (.goto (-50), 3) := by decide +kernel
theorem dX9_plans_107 : decode cX9_plans 107 = .ok (.aload_n 0, 1) := by decide +kernel
theorem dX9_plans_108 : decode cX9_plans 108 = .ok (.getfield 131, 3) := by decide +kernel
theorem dX9_plans_111 : decode cX9_plans 111 = .ok (.ifCond .le 50, 3) := by decide +kernel
theorem dX9_plans_114 : decode cX9_plans 114 = .ok (.aload_n 0, 1) := by decide +kernel
theorem dX9_plans_115 : decode cX9_plans 115 = .ok (.aload_n 0, 1) := by decide +kernel
theorem dX9_plans_116 : decode cX9_plans 116 = .ok (.getfield 131, 3) := by decide +kernel
theorem dX9_plans_119 : decode cX9_plans 119 = .ok (.iload_n 2, 1) := by decide +kernel
theorem dX9_plans_120 : decode cX9_plans 120 = .ok (.if_icmp .le 12, 3) := by decide +kernel
theorem dX9_plans_123 : decode cX9_plans 123 = .ok (.aload_n 0, 1) := by decide +kernel
theorem dX9_plans_124 : decode cX9_plans 124 = .ok (.getfield 131, 3) := by decide +kernel
theorem dX9_plans_127 : decode cX9_plans 127 = .ok (.iload_n 2, 1) := by decide +kernel
theorem dX9_plans_128 : decode cX9_plans 128 = .ok (.isub, 1) := by decide +kernel
theorem dX9_plans_129 : decode cX9_plans 129 = .ok (.goto 4, 3) := by decide +kernel
theorem dX9_plans_132 : decode cX9_plans 132 = .ok (.iconst 0, 1) := by decide +kernel
theorem dX9_plans_133 : decode cX9_plans 133 = .ok (.putfield 131, 3) := by decide +kernel
theorem dX9_plans_136 : decode cX9_plans 136 = .ok (.iload 4, 2) := by decide +kernel
theorem dX9_plans_138 : decode cX9_plans 138 = .ok (.aload_n 0, 1) := by decide +kernel
theorem dX9_plans_139 : decode cX9_plans 139 = .ok (.aload_n 0, 1) := by decide +kernel
theorem dX9_plans_140 : decode cX9_plans 140 = .ok (.getfield 131, 3) := by decide +kernel
theorem dX9_plans_143 : decode cX9_plans 143 = .ok (.iload_n 3, 1) := by decide +kernel
theorem dX9_plans_144 : decode cX9_plans 144 = .ok (.invokevirtual 134, 3) := by decide +kernel
theorem dX9_plans_147 : decode cX9_plans 147 = .ok (.ifCond .eq 7, 3) := by decide +kernel
theorem dX9_plans_150 : decode cX9_plans 150 = .ok (.iconst 1, 1) := by decide +kernel
theorem dX9_plans_151 : decode cX9_plans 151 = .ok (.goto 4, 3) := by decide +kernel
theorem dX9_plans_154 : decode cX9_plans 154 = .ok (.iconst 0, 1) := by decide +kernel
theorem dX9_plans_155 : decode cX9_plans 155 = .ok (.iadd, 1) := by decide +kernel
theorem dX9_plans_156 : decode cX9_plans 156 = .ok (.istore 4, 2) := by decide +kernel
theorem dX9_plans_158 : decode cX9_plans 158 = .ok (.goto (-51), 3) := by decide +kernel
theorem dX9_plans_161 : decode cX9_plans 161 = .ok (.iload 4, 2) := by decide +kernel
theorem dX9_plans_163 : decode cX9_plans 163 = .ok (.ireturn, 1) := by decide +kernel
theorem dX9_planned_0 : decode cX9_planned 0 = .ok (.iload_n 1, 1) := by decide +kernel
theorem dX9_planned_1 : decode cX9_planned 1 = .ok (.ifCond .ge 5, 3) := by decide +kernel
theorem dX9_planned_4 : decode cX9_planned 4 = .ok (.iconst (-1), 1) := by decide +kernel
theorem dX9_planned_5 : decode cX9_planned 5 = .ok (.ireturn, 1) := by decide +kernel
theorem dX9_planned_6 : decode cX9_planned 6 = .ok (.aload_n 0, 1) := by decide +kernel
theorem dX9_planned_7 : decode cX9_planned 7 = .ok (.getfield 7, 3) := by decide +kernel
theorem dX9_planned_10 : decode cX9_planned 10 = .ok (.iconst 1, 1) := by decide +kernel
theorem dX9_planned_11 : decode cX9_planned 11 = .ok (.iaload, 1) := by decide +kernel
theorem dX9_planned_12 : decode cX9_planned 12 = .ok (.ifCond .ne 6, 3) := by decide +kernel
theorem dX9_planned_15 : decode cX9_planned 15 = .ok (.bipush (-2), 2) := by decide +kernel
theorem dX9_planned_17 : decode cX9_planned 17 = .ok (.ireturn, 1) := by decide +kernel
theorem dX9_planned_18 : decode cX9_planned 18 = .ok (.aload_n 0, 1) := by decide +kernel
theorem dX9_planned_19 : decode cX9_planned 19 = .ok (.aload_n 0, 1) := by decide +kernel
theorem dX9_planned_20 : decode cX9_planned 20 = .ok (.iconst 0, 1) := by decide +kernel
theorem dX9_planned_21 : decode cX9_planned 21 = .ok (.invokevirtual 76, 3) := by decide +kernel
theorem dX9_planned_24 : decode cX9_planned 24 = .ok (.invokevirtual 186, 3) := by decide +kernel
theorem dX9_planned_27 : decode cX9_planned 27 = .ok (.iload_n 1, 1) := by decide +kernel
theorem dX9_planned_28 : decode cX9_planned 28 = .ok (.aload_n 0, 1) := by decide +kernel
theorem dX9_planned_29 : decode cX9_planned 29 = .ok (.getfield 128, 3) := by decide +kernel
theorem dX9_planned_32 : decode cX9_planned 32 = .ok (.if_icmp .lt 6, 3) := by decide +kernel
theorem dX9_planned_35 : decode cX9_planned 35 = .ok (.bipush (-4), 2) := by decide +kernel
theorem dX9_planned_37 : decode cX9_planned 37 = .ok (.ireturn, 1) := by decide +kernel
theorem dX9_planned_38 : decode cX9_planned 38 = .ok (.iconst 0, 1) := by decide +kernel
theorem dX9_planned_39 : decode cX9_planned 39 = .ok (.istore_n 2, 1) := by decide +kernel
theorem dX9_planned_40 : decode cX9_planned 40 = .ok (.iconst 0, 1) := by decide +kernel
theorem dX9_planned_41 : decode cX9_planned 41 = .ok (.istore_n 3, 1) := by decide +kernel
theorem dX9_planned_42 : decode cX9_planned 42 = .ok (.iload_n 3, 1) := by decide +kernel
theorem dX9_planned_43 : decode cX9_planned 43 = .ok (.aload_n 0, 1) := by decide +kernel
theorem dX9_planned_44 : decode cX9_planned 44 = .ok (.getfield 7, 3) := by decide +kernel
theorem dX9_planned_47 : decode cX9_planned 47 = .ok (.iconst 3, 1) := by decide +kernel
theorem dX9_planned_48 : decode cX9_planned 48 = .ok (.iaload, 1) := by decide +kernel
theorem dX9_planned_49 : decode cX9_planned 49 = .ok (.if_icmp .ge 43, 3) := by decide +kernel
theorem dX9_planned_52 : decode cX9_planned 52 = .ok (.iload_n 2, 1) := by decide +kernel
theorem dX9_planned_53 : decode cX9_planned 53 = .ok (.aload_n 0, 1) := by decide +kernel
theorem dX9_planned_54 : decode cX9_planned 54 = .ok (.aload_n 0, 1) := by decide +kernel
theorem dX9_planned_55 : decode cX9_planned 55 = .ok (.getfield 7, 3) := by decide +kernel
theorem dX9_planned_58 : decode cX9_planned 58 = .ok (.sipush 188, 3) := by decide +kernel
theorem dX9_planned_61 : decode cX9_planned 61 = .ok (.iconst 2, 1) := by decide +kernel
theorem dX9_planned_62 : decode cX9_planned 62 = .ok (.iload_n 3, 1) := by decide +kernel
theorem dX9_planned_63 : decode cX9_planned 63 = .ok (.imul, 1) := by decide +kernel
theorem dX9_planned_64 : decode cX9_planned 64 = .ok (.iadd, 1) := by decide +kernel
theorem dX9_planned_65 : decode cX9_planned 65 = .ok (.iaload, 1) := by decide +kernel
theorem dX9_planned_66 : decode cX9_planned 66 = .ok (.aload_n 0, 1) := by decide +kernel
theorem dX9_planned_67 : decode cX9_planned 67 = .ok (.getfield 7, 3) := by decide +kernel
theorem dX9_planned_70 : decode cX9_planned 70 = .ok (.sipush 188, 3) := by decide +kernel
theorem dX9_planned_73 : decode cX9_planned 73 = .ok (.iconst 2, 1) := by decide +kernel
theorem dX9_planned_74 : decode cX9_planned 74 = .ok (.iload_n 3, 1) := by decide +kernel
theorem dX9_planned_75 : decode cX9_planned 75 = .ok (.imul, 1) := by decide +kernel
theorem dX9_planned_76 : decode cX9_planned 76 = .ok (.iadd, 1) := by decide +kernel
theorem dX9_planned_77 : decode cX9_planned 77 = .ok (.iconst 1, 1) := by decide +kernel
theorem dX9_planned_78 : decode cX9_planned 78 = .ok (.iadd, 1) := by decide +kernel
theorem dX9_planned_79 : decode cX9_planned 79 = .ok (.iaload, 1) := by decide +kernel
theorem dX9_planned_80 : decode cX9_planned 80 = .ok (.iload_n 1, 1) := by decide +kernel
theorem dX9_planned_81 : decode cX9_planned 81 = .ok (.invokevirtual 211, 3) := by decide +kernel
theorem dX9_planned_84 : decode cX9_planned 84 = .ok (.iadd, 1) := by decide +kernel
theorem dX9_planned_85 : decode cX9_planned 85 = .ok (.istore_n 2, 1) := by decide +kernel
theorem dX9_planned_86 : decode cX9_planned 86 = .ok (.iinc 3 1, 3) := by decide +kernel
theorem dX9_planned_89 : decode cX9_planned 89 = .ok (.goto (-47), 3) := by decide +kernel
theorem dX9_planned_92 : decode cX9_planned 92 = .ok (.iload_n 2, 1) := by decide +kernel
theorem dX9_planned_93 : decode cX9_planned 93 = .ok (.ireturn, 1) := by decide +kernel
theorem dX9_riseFor_0 : decode cX9_riseFor 0 = .ok (.iload_n 1, 1) := by decide +kernel
theorem dX9_riseFor_1 : decode cX9_riseFor 1 = .ok (.i2l, 1) := by decide +kernel
theorem dX9_riseFor_2 : decode cX9_riseFor 2 = .ok (.lconst 1, 1) := by decide +kernel
theorem dX9_riseFor_3 : decode cX9_riseFor 3 = .ok (.ldc2_w 37, 3) := by decide +kernel
theorem dX9_riseFor_6 : decode cX9_riseFor 6 = .ok (.invokestatic 33, 3) := by decide +kernel
theorem dX9_riseFor_9 : decode cX9_riseFor 9 = .ok (.ifCond .ne 5, 3) := by decide +kernel
theorem dX9_riseFor_12 : decode cX9_riseFor 12 = .ok (.iconst (-1), 1) := by decide +kernel
theorem dX9_riseFor_13 : decode cX9_riseFor 13 = .ok (.ireturn, 1) := by decide +kernel
theorem dX9_riseFor_14 : decode cX9_riseFor 14 = .ok (.aload_n 0, 1) := by decide +kernel
theorem dX9_riseFor_15 : decode cX9_riseFor 15 = .ok (.getfield 7, 3) := by decide +kernel
theorem dX9_riseFor_18 : decode cX9_riseFor 18 = .ok (.iconst 1, 1) := by decide +kernel
theorem dX9_riseFor_19 : decode cX9_riseFor 19 = .ok (.iaload, 1) := by decide +kernel
theorem dX9_riseFor_20 : decode cX9_riseFor 20 = .ok (.ifCond .ne 6, 3) := by decide +kernel
theorem dX9_riseFor_23 : decode cX9_riseFor 23 = .ok (.bipush (-2), 2) := by decide +kernel
theorem dX9_riseFor_25 : decode cX9_riseFor 25 = .ok (.ireturn, 1) := by decide +kernel
theorem dX9_riseFor_26 : decode cX9_riseFor 26 = .ok (.aload_n 0, 1) := by decide +kernel
theorem dX9_riseFor_27 : decode cX9_riseFor 27 = .ok (.aload_n 0, 1) := by decide +kernel
theorem dX9_riseFor_28 : decode cX9_riseFor 28 = .ok (.iconst 0, 1) := by decide +kernel
theorem dX9_riseFor_29 : decode cX9_riseFor 29 = .ok (.invokevirtual 76, 3) := by decide +kernel
theorem dX9_riseFor_32 : decode cX9_riseFor 32 = .ok (.invokevirtual 186, 3) := by decide +kernel
theorem dX9_riseFor_35 : decode cX9_riseFor 35 = .ok (.bipush 100, 2) := by decide +kernel
theorem dX9_riseFor_37 : decode cX9_riseFor 37 = .ok (.istore_n 2, 1) := by decide +kernel
theorem dX9_riseFor_38 : decode cX9_riseFor 38 = .ok (.iload_n 2, 1) := by decide +kernel
theorem dX9_riseFor_39 : decode cX9_riseFor 39 = .ok (.ifCond .le 71, 3) := by decide +kernel
theorem dX9_riseFor_42 : decode cX9_riseFor 42 = .ok (.iconst 1, 1) := by decide +kernel
theorem dX9_riseFor_43 : decode cX9_riseFor 43 = .ok (.istore_n 3, 1) := by decide +kernel
theorem dX9_riseFor_44 : decode cX9_riseFor 44 = .ok (.iconst 0, 1) := by decide +kernel
theorem dX9_riseFor_45 : decode cX9_riseFor 45 = .ok (.istore 4, 2) := by decide +kernel
theorem dX9_riseFor_47 : decode cX9_riseFor 47 = .ok (.iload 4, 2) := by decide +kernel
theorem dX9_riseFor_49 : decode cX9_riseFor 49 = .ok (.aload_n 0, 1) := by decide +kernel
theorem dX9_riseFor_50 : decode cX9_riseFor 50 = .ok (.getfield 128, 3) := by decide +kernel
theorem dX9_riseFor_53 : decode cX9_riseFor 53 = .ok (.if_icmp .ge 45, 3) := by decide +kernel
theorem dX9_riseFor_56 : decode cX9_riseFor 56 = .ok (.iload_n 3, 1) := by decide +kernel
theorem dX9_riseFor_57 : decode cX9_riseFor 57 = .ok (.ifCond .eq 41, 3) := by decide +kernel
theorem dX9_riseFor_60 : decode cX9_riseFor 60 = .ok (.aload_n 0, 1) := by decide +kernel
theorem dX9_riseFor_61 : decode cX9_riseFor 61 = .ok (.iconst 0, 1) := by decide +kernel
theorem dX9_riseFor_62 : decode cX9_riseFor 62 = .ok (.putfield 131, 3) := by decide +kernel
theorem dX9_riseFor_65 : decode cX9_riseFor 65 = .ok (.aload_n 0, 1) := by decide +kernel
theorem dX9_riseFor_66 : decode cX9_riseFor 66 = .ok (.iconst 0, 1) := by decide +kernel
theorem dX9_riseFor_67 : decode cX9_riseFor 67 = .ok (.iconst 1, 1) := by decide +kernel
theorem dX9_riseFor_68 : decode cX9_riseFor 68 = .ok (.iload 4, 2) := by decide +kernel
theorem dX9_riseFor_70 : decode cX9_riseFor 70 = .ok (.invokevirtual 211, 3) := by decide +kernel
theorem dX9_riseFor_73 : decode cX9_riseFor 73 = .ok (.aload_n 0, 1) := by decide +kernel
theorem dX9_riseFor_74 : decode cX9_riseFor 74 = .ok (.iconst 1, 1) := by decide +kernel
theorem dX9_riseFor_75 : decode cX9_riseFor 75 = .ok (.iload_n 2, 1) := by decide +kernel
theorem dX9_riseFor_76 : decode cX9_riseFor 76 = .ok (.iload 4, 2) := by decide +kernel
theorem dX9_riseFor_78 : decode cX9_riseFor 78 = .ok (.invokevirtual 211, 3) := by decide +kernel
theorem dX9_riseFor_81 : decode cX9_riseFor 81 = .ok (.iadd, 1) := by decide +kernel
theorem dX9_riseFor_82 : decode cX9_riseFor 82 = .ok (.iload_n 1, 1) := by decide +kernel
theorem dX9_riseFor_83 : decode cX9_riseFor 83 = .ok (.if_icmp .lt 7, 3) := by decide +kernel
theorem dX9_riseFor_86 : decode cX9_riseFor 86 = .ok (.iconst 1, 1) := by decide +kernel
theorem dX9_riseFor_87 : decode cX9_riseFor 87 = .ok (.goto 4, 3) := by decide +kernel
theorem dX9_riseFor_90 : decode cX9_riseFor 90 = .ok (.iconst 0, 1) := by decide +kernel
theorem dX9_riseFor_91 : decode cX9_riseFor 91 = .ok (.istore_n 3, 1) := by decide +kernel
theorem dX9_riseFor_92 : decode cX9_riseFor 92 = .ok (.iinc 4 1, 3) := by decide +kernel
theorem dX9_riseFor_95 : decode cX9_riseFor 95 = .ok (.goto (-48), 3) := by decide +kernel
theorem dX9_riseFor_98 : decode cX9_riseFor 98 = .ok (.iload_n 3, 1) := by decide +kernel
theorem dX9_riseFor_99 : decode cX9_riseFor 99 = .ok (.ifCond .eq 5, 3) := by decide +kernel
theorem dX9_riseFor_102 : decode cX9_riseFor 102 = .ok (.iload_n 2, 1) := by decide +kernel
theorem dX9_riseFor_103 : decode cX9_riseFor 103 = .ok (.ireturn, 1) := by decide +kernel
theorem dX9_riseFor_104 : decode cX9_riseFor 104 = .ok (.iinc 2 (-1), 3) := by decide +kernel
theorem dX9_riseFor_107 : decode cX9_riseFor 107 = .ok (.goto (-69), 3) := by decide +kernel
theorem dX9_riseFor_110 : decode cX9_riseFor 110 = .ok (.bipush (-4), 2) := by decide +kernel
theorem dX9_riseFor_112 : decode cX9_riseFor 112 = .ok (.ireturn, 1) := by decide +kernel
theorem dX9_tensionFor_0 : decode cX9_tensionFor 0 = .ok (.iload_n 1, 1) := by decide +kernel
theorem dX9_tensionFor_1 : decode cX9_tensionFor 1 = .ok (.i2l, 1) := by decide +kernel
theorem dX9_tensionFor_2 : decode cX9_tensionFor 2 = .ok (.lconst 1, 1) := by decide +kernel
theorem dX9_tensionFor_3 : decode cX9_tensionFor 3 = .ok (.ldc2_w 80, 3) := by decide +kernel
theorem dX9_tensionFor_6 : decode cX9_tensionFor 6 = .ok (.invokestatic 33, 3) := by decide +kernel
theorem dX9_tensionFor_9 : decode cX9_tensionFor 9 = .ok (.ifCond .ne 5, 3) := by decide +kernel
theorem dX9_tensionFor_12 : decode cX9_tensionFor 12 = .ok (.iconst (-1), 1) := by decide +kernel
theorem dX9_tensionFor_13 : decode cX9_tensionFor 13 = .ok (.ireturn, 1) := by decide +kernel
theorem dX9_tensionFor_14 : decode cX9_tensionFor 14 = .ok (.aload_n 0, 1) := by decide +kernel
theorem dX9_tensionFor_15 : decode cX9_tensionFor 15 = .ok (.getfield 7, 3) := by decide +kernel
theorem dX9_tensionFor_18 : decode cX9_tensionFor 18 = .ok (.iconst 1, 1) := by decide +kernel
theorem dX9_tensionFor_19 : decode cX9_tensionFor 19 = .ok (.iaload, 1) := by decide +kernel
theorem dX9_tensionFor_20 : decode cX9_tensionFor 20 = .ok (.ifCond .ne 6, 3) := by decide +kernel
theorem dX9_tensionFor_23 : decode cX9_tensionFor 23 = .ok (.bipush (-2), 2) := by decide +kernel
theorem dX9_tensionFor_25 : decode cX9_tensionFor 25 = .ok (.ireturn, 1) := by decide +kernel
theorem dX9_tensionFor_26 : decode cX9_tensionFor 26 = .ok (.aload_n 0, 1) := by decide +kernel
theorem dX9_tensionFor_27 : decode cX9_tensionFor 27 = .ok (.aload_n 0, 1) := by decide +kernel
theorem dX9_tensionFor_28 : decode cX9_tensionFor 28 = .ok (.iconst 0, 1) := by decide +kernel
theorem dX9_tensionFor_29 : decode cX9_tensionFor 29 = .ok (.invokevirtual 76, 3) := by decide +kernel
theorem dX9_tensionFor_32 : decode cX9_tensionFor 32 = .ok (.invokevirtual 186, 3) := by decide +kernel
theorem dX9_tensionFor_35 : decode cX9_tensionFor 35 = .ok (.sipush 199, 3) := by decide +kernel
theorem dX9_tensionFor_38 : decode cX9_tensionFor 38 = .ok (.istore_n 2, 1) := by decide +kernel
theorem dX9_tensionFor_39 : decode cX9_tensionFor 39 = .ok (.iload_n 1, 1) := by decide +kernel
theorem dX9_tensionFor_40 : decode cX9_tensionFor 40 = .ok (.iload_n 2, 1) := by decide +kernel
theorem dX9_tensionFor_41 : decode cX9_tensionFor 41 = .ok (.invokestatic 143, 3) := by decide +kernel
theorem dX9_tensionFor_44 : decode cX9_tensionFor 44 = .ok (.imul, 1) := by decide +kernel
theorem dX9_tensionFor_45 : decode cX9_tensionFor 45 = .ok (.aload_n 0, 1) := by decide +kernel
theorem dX9_tensionFor_46 : decode cX9_tensionFor 46 = .ok (.getfield 146, 3) := by decide +kernel
theorem dX9_tensionFor_49 : decode cX9_tensionFor 49 = .ok (.if_icmp .le 9, 3) := by decide +kernel
theorem dX9_tensionFor_52 : decode cX9_tensionFor 52 = .ok (.iinc 2 (-1), 3) := by decide +kernel
theorem dX9_tensionFor_55 : decode cX9_tensionFor 55 = .ok (.goto (-16), 3) := by decide +kernel
theorem dX9_tensionFor_58 : decode cX9_tensionFor 58 = .ok (.iload_n 2, 1) := by decide +kernel
theorem dX9_tensionFor_59 : decode cX9_tensionFor 59 = .ok (.ireturn, 1) := by decide +kernel
theorem dX9_supply_0 : decode cX9_supply 0 = .ok (.aload_n 0, 1) := by decide +kernel
theorem dX9_supply_1 : decode cX9_supply 1 = .ok (.invokevirtual 198, 3) := by decide +kernel
theorem dX9_supply_4 : decode cX9_supply 4 = .ok (.iconst 0, 1) := by decide +kernel
theorem dX9_supply_5 : decode cX9_supply 5 = .ok (.istore_n 1, 1) := by decide +kernel
theorem dX9_supply_6 : decode cX9_supply 6 = .ok (.iconst 1, 1) := by decide +kernel
theorem dX9_supply_7 : decode cX9_supply 7 = .ok (.istore_n 2, 1) := by decide +kernel
theorem dX9_supply_8 : decode cX9_supply 8 = .ok (.iload_n 2, 1) := by decide +kernel
theorem dX9_supply_9 : decode cX9_supply 9 = .ok (.ifCond .eq 40, 3) := by decide +kernel
theorem dX9_supply_12 : decode cX9_supply 12 = .ok (.aload_n 0, 1) := by decide +kernel
theorem dX9_supply_13 : decode cX9_supply 13 = .ok (.getfield 7, 3) := by decide +kernel
theorem dX9_supply_16 : decode cX9_supply 16 = .ok (.iconst 1, 1) := by decide +kernel
theorem dX9_supply_17 : decode cX9_supply 17 = .ok (.iaload, 1) := by decide +kernel
theorem dX9_supply_18 : decode cX9_supply 18 = .ok (.ifCond .le 31, 3) := by decide +kernel
theorem dX9_supply_21 : decode cX9_supply 21 = .ok (.aload_n 0, 1) := by decide +kernel
theorem dX9_supply_22 : decode cX9_supply 22 = .ok (.invokevirtual 193, 3) := by decide +kernel
theorem dX9_supply_25 : decode cX9_supply 25 = .ok (.ifCond .ne 7, 3) := by decide +kernel
theorem dX9_supply_28 : decode cX9_supply 28 = .ok (.iconst 1, 1) := by decide +kernel
theorem dX9_supply_29 : decode cX9_supply 29 = .ok (.goto 4, 3) := by decide +kernel
theorem dX9_supply_32 : decode cX9_supply 32 = .ok (.iconst 0, 1) := by decide +kernel
theorem dX9_supply_33 : decode cX9_supply 33 = .ok (.istore_n 2, 1) := by decide +kernel
theorem dX9_supply_34 : decode cX9_supply 34 = .ok (.iload_n 1, 1) := by decide +kernel
theorem dX9_supply_35 : decode cX9_supply 35 = .ok (.iload_n 2, 1) := by decide +kernel
theorem dX9_supply_36 : decode cX9_supply 36 = .ok (.ifCond .eq 7, 3) := by decide +kernel
theorem dX9_supply_39 : decode cX9_supply 39 = .ok (.iconst 1, 1) := by decide +kernel
theorem dX9_supply_40 : decode cX9_supply 40 = .ok (.goto 4, 3) := by decide +kernel
theorem dX9_supply_43 : decode cX9_supply 43 = .ok (.iconst 0, 1) := by decide +kernel
theorem dX9_supply_44 : decode cX9_supply 44 = .ok (.iadd, 1) := by decide +kernel
theorem dX9_supply_45 : decode cX9_supply 45 = .ok (.istore_n 1, 1) := by decide +kernel
theorem dX9_supply_46 : decode cX9_supply 46 = .ok (.goto (-38), 3) := by decide +kernel
theorem dX9_supply_49 : decode cX9_supply 49 = .ok (.aload_n 0, 1) := by decide +kernel
theorem dX9_supply_50 : decode cX9_supply 50 = .ok (.invokevirtual 201, 3) := by decide +kernel
theorem dX9_supply_53 : decode cX9_supply 53 = .ok (.iload_n 1, 1) := by decide +kernel
theorem dX9_supply_54 : decode cX9_supply 54 = .ok (.ireturn, 1) := by decide +kernel
theorem dJ9_max_7cf53_0 : decode cJ9_max_7cf53 0 = .ok (.iload_n 0, 1) := by decide +kernel
theorem dJ9_max_7cf53_1 : decode cJ9_max_7cf53 1 = .ok (.iload_n 1, 1) := by decide +kernel
theorem dJ9_max_7cf53_2 : decode cJ9_max_7cf53 2 = .ok (.if_icmp .lt 7, 3) := by decide +kernel
theorem dJ9_max_7cf53_5 : decode cJ9_max_7cf53 5 = .ok (.iload_n 0, 1) := by decide +kernel
theorem dJ9_max_7cf53_6 : decode cJ9_max_7cf53 6 = .ok (.goto 4, 3) := by decide +kernel
theorem dJ9_max_7cf53_9 : decode cJ9_max_7cf53 9 = .ok (.iload_n 1, 1) := by decide +kernel
theorem dJ9_max_7cf53_10 : decode cJ9_max_7cf53 10 = .ok (.ireturn, 1) := by decide +kernel
theorem dJ9_min_7cf53_0 : decode cJ9_min_7cf53 0 = .ok (.iload_n 0, 1) := by decide +kernel
theorem dJ9_min_7cf53_1 : decode cJ9_min_7cf53 1 = .ok (.iload_n 1, 1) := by decide +kernel
theorem dJ9_min_7cf53_2 : decode cJ9_min_7cf53 2 = .ok (.if_icmp .gt 7, 3) := by decide +kernel
theorem dJ9_min_7cf53_5 : decode cJ9_min_7cf53 5 = .ok (.iload_n 0, 1) := by decide +kernel
theorem dJ9_min_7cf53_6 : decode cJ9_min_7cf53 6 = .ok (.goto 4, 3) := by decide +kernel
theorem dJ9_min_7cf53_9 : decode cJ9_min_7cf53 9 = .ok (.iload_n 1, 1) := by decide +kernel
theorem dJ9_min_7cf53_10 : decode cJ9_min_7cf53 10 = .ok (.ireturn, 1) := by decide +kernel
theorem dJ0_length_8abf5_0 : decode cJ0_length_8abf5 0 = .ok (.aload_n 0, 1) := by decide +kernel
theorem dJ0_length_8abf5_1 : decode cJ0_length_8abf5 1 = .ok (.getfield 9, 3) := by decide +kernel
theorem dJ0_length_8abf5_4 : decode cJ0_length_8abf5 4 = .ok (.arraylength, 1) := by decide +kernel
theorem dJ0_length_8abf5_5 : decode cJ0_length_8abf5 5 = .ok (.aload_n 0, 1) := by decide +kernel
theorem dJ0_length_8abf5_6 : decode cJ0_length_8abf5 6 = .ok (.invokevirtual 335, 3) := by decide +kernel
theorem dJ0_length_8abf5_9 : decode cJ0_length_8abf5 9 = .ok (.ishr, 1) := by decide +kernel
theorem dJ0_length_8abf5_10 : decode cJ0_length_8abf5 10 = .ok (.ireturn, 1) := by decide +kernel
theorem dJ0_charAt_5068e_0 : decode cJ0_charAt_5068e 0 = .ok (.aload_n 0, 1) := by decide +kernel
theorem dJ0_charAt_5068e_1 : decode cJ0_charAt_5068e 1 = .ok (.invokevirtual 492, 3) := by decide +kernel
theorem dJ0_charAt_5068e_4 : decode cJ0_charAt_5068e 4 = .ok (.ifCond .eq 12, 3) := by decide +kernel
theorem dJ0_charAt_5068e_7 : decode cJ0_charAt_5068e 7 = .ok (.aload_n 0, 1) := by decide +kernel
theorem dJ0_charAt_5068e_8 : decode cJ0_charAt_5068e 8 = .ok (.getfield 9, 3) := by decide +kernel
theorem dJ0_charAt_5068e_11 : decode cJ0_charAt_5068e 11 = .ok (.iload_n 1, 1) := by decide +kernel
theorem dJ0_charAt_5068e_12 : decode cJ0_charAt_5068e 12 = .ok (.invokestatic 495, 3) := by decide +kernel
theorem dJ0_charAt_5068e_15 : decode cJ0_charAt_5068e 15 = .ok (.ireturn, 1) := by decide +kernel
theorem dJ0_charAt_5068e_16 : decode cJ0_charAt_5068e 16 = .ok (.aload_n 0, 1) := by decide +kernel
theorem dJ0_charAt_5068e_17 : decode cJ0_charAt_5068e 17 = .ok (.getfield 9, 3) := by decide +kernel
theorem dJ0_charAt_5068e_20 : decode cJ0_charAt_5068e 20 = .ok (.iload_n 1, 1) := by decide +kernel
theorem dJ0_charAt_5068e_21 : decode cJ0_charAt_5068e 21 = .ok (.invokestatic 498, 3) := by decide +kernel
theorem dJ0_charAt_5068e_24 : decode cJ0_charAt_5068e 24 = .ok (.ireturn, 1) := by decide +kernel
theorem dJ0_coder_7d493_0 : decode cJ0_coder_7d493 0 = .ok (.getstatic 38, 3) := by decide +kernel
theorem dJ0_coder_7d493_3 : decode cJ0_coder_7d493 3 = .ok (.ifCond .eq 10, 3) := by decide +kernel
theorem dJ0_coder_7d493_6 : decode cJ0_coder_7d493 6 = .ok (.aload_n 0, 1) := by decide +kernel
theorem dJ0_coder_7d493_7 : decode cJ0_coder_7d493 7 = .ok (.getfield 15, 3) := by decide +kernel
theorem dJ0_coder_7d493_10 : decode cJ0_coder_7d493 10 = .ok (.goto 4, 3) := by decide +kernel
theorem dJ0_coder_7d493_13 : decode cJ0_coder_7d493 13 = .ok (.iconst 1, 1) := by decide +kernel
theorem dJ0_coder_7d493_14 : decode cJ0_coder_7d493 14 = .ok (.ireturn, 1) := by decide +kernel
theorem dJ0_isLatin1_aae02_0 : decode cJ0_isLatin1_aae02 0 = .ok (.getstatic 38, 3) := by decide +kernel
theorem dJ0_isLatin1_aae02_3 : decode cJ0_isLatin1_aae02 3 = .ok (.ifCond .eq 14, 3) := by decide +kernel
theorem dJ0_isLatin1_aae02_6 : decode cJ0_isLatin1_aae02 6 = .ok (.aload_n 0, 1) := by decide +kernel
theorem dJ0_isLatin1_aae02_7 : decode cJ0_isLatin1_aae02 7 = .ok (.getfield 15, 3) := by decide +kernel
theorem dJ0_isLatin1_aae02_10 : decode cJ0_isLatin1_aae02 10 = .ok (.ifCond .ne 7, 3) := by decide +kernel
theorem dJ0_isLatin1_aae02_13 : decode cJ0_isLatin1_aae02 13 = .ok (.iconst 1, 1) := by decide +kernel
theorem dJ0_isLatin1_aae02_14 : decode cJ0_isLatin1_aae02 14 = .ok (.goto 4, 3) := by decide +kernel
theorem dJ0_isLatin1_aae02_17 : decode cJ0_isLatin1_aae02 17 = .ok (.iconst 0, 1) := by decide +kernel
theorem dJ0_isLatin1_aae02_18 : decode cJ0_isLatin1_aae02 18 = .ok (.ireturn, 1) := by decide +kernel
theorem dJ0_checkIndex_df160_0 : decode cJ0_checkIndex_df160 0 = .ok (.iload_n 0, 1) := by decide +kernel
theorem dJ0_checkIndex_df160_1 : decode cJ0_checkIndex_df160 1 = .ok (.iload_n 1, 1) := by decide +kernel
theorem dJ0_checkIndex_df160_2 : decode cJ0_checkIndex_df160 2 = .ok (.getstatic 1053, 3) := by decide +kernel
theorem dJ0_checkIndex_df160_5 : decode cJ0_checkIndex_df160 5 = .ok (.invokestatic 1059, 3) := by decide +kernel
theorem dJ0_checkIndex_df160_8 : decode cJ0_checkIndex_df160 8 = .ok (.pop, 1) := by decide +kernel
theorem dJ0_checkIndex_df160_9 : decode cJ0_checkIndex_df160 9 = .ok (.return_, 1) := by decide +kernel
theorem dJ1_charAt_3b067_0 : decode cJ1_charAt_3b067 0 = .ok (.iload_n 1, 1) := by decide +kernel
theorem dJ1_charAt_3b067_1 : decode cJ1_charAt_3b067 1 = .ok (.aload_n 0, 1) := by decide +kernel
theorem dJ1_charAt_3b067_2 : decode cJ1_charAt_3b067 2 = .ok (.arraylength, 1) := by decide +kernel
theorem dJ1_charAt_3b067_3 : decode cJ1_charAt_3b067 3 = .ok (.invokestatic 9, 3) := by decide +kernel
theorem dJ1_charAt_3b067_6 : decode cJ1_charAt_3b067 6 = .ok (.aload_n 0, 1) := by decide +kernel
theorem dJ1_charAt_3b067_7 : decode cJ1_charAt_3b067 7 = .ok (.iload_n 1, 1) := by decide +kernel
theorem dJ1_charAt_3b067_8 : decode cJ1_charAt_3b067 8 = .ok (.baload, 1) := by decide +kernel
theorem dJ1_charAt_3b067_9 : decode cJ1_charAt_3b067 9 = .ok (.sipush 255, 3) := by decide +kernel
theorem dJ1_charAt_3b067_12 : decode cJ1_charAt_3b067 12 = .ok (.iand, 1) := by decide +kernel
theorem dJ1_charAt_3b067_13 : decode cJ1_charAt_3b067 13 = .ok (.i2c, 1) := by decide +kernel
theorem dJ1_charAt_3b067_14 : decode cJ1_charAt_3b067 14 = .ok (.ireturn, 1) := by decide +kernel
theorem dJ2_getChar_3b067_0 : decode cJ2_getChar_3b067 0 = .ok (.getstatic 44, 3) := by decide +kernel
theorem dJ2_getChar_3b067_3 : decode cJ2_getChar_3b067 3 = .ok (.ifCond .ne 25, 3) := by decide +kernel
theorem dJ2_getChar_3b067_6 : decode cJ2_getChar_3b067 6 = .ok (.iload_n 1, 1) := by decide +kernel
theorem dJ2_getChar_3b067_7 : decode cJ2_getChar_3b067 7 = .ok (.ifCond .lt 11, 3) := by decide +kernel
theorem dJ2_getChar_3b067_10 : decode cJ2_getChar_3b067 10 = .ok (.iload_n 1, 1) := by decide +kernel
theorem dJ2_getChar_3b067_11 : decode cJ2_getChar_3b067 11 = .ok (.aload_n 0, 1) := by decide +kernel
theorem dJ2_getChar_3b067_12 : decode cJ2_getChar_3b067 12 = .ok (.invokestatic 48, 3) := by decide +kernel
theorem dJ2_getChar_3b067_15 : decode cJ2_getChar_3b067 15 = .ok (.if_icmp .lt 13, 3) := by decide +kernel
theorem dJ2_getChar_3b067_18 : decode cJ2_getChar_3b067 18 = .ok (.new 52, 3) := by decide +kernel
theorem dJ2_getChar_3b067_21 : decode cJ2_getChar_3b067 21 = .ok (.dup, 1) := by decide +kernel
theorem dJ2_getChar_3b067_22 : decode cJ2_getChar_3b067 22 = .ok (.ldc 54, 2) := by decide +kernel
theorem dJ2_getChar_3b067_24 : decode cJ2_getChar_3b067 24 = .ok (.invokespecial 56, 3) := by decide +kernel
theorem dJ2_getChar_3b067_27 : decode cJ2_getChar_3b067 27 = .ok (.athrow, 1) := by decide +kernel
theorem dJ2_getChar_3b067_28 : decode cJ2_getChar_3b067 28 = .ok (.iload_n 1, 1) := by decide +kernel
theorem dJ2_getChar_3b067_29 : decode cJ2_getChar_3b067 29 = .ok (.iconst 1, 1) := by decide +kernel
theorem dJ2_getChar_3b067_30 : decode cJ2_getChar_3b067 30 = .ok (.ishl, 1) := by decide +kernel
theorem dJ2_getChar_3b067_31 : decode cJ2_getChar_3b067 31 = .ok (.istore_n 1, 1) := by decide +kernel
theorem dJ2_getChar_3b067_32 : decode cJ2_getChar_3b067 32 = .ok (.aload_n 0, 1) := by decide +kernel
theorem dJ2_getChar_3b067_33 : decode cJ2_getChar_3b067 33 = .ok (.iload_n 1, 1) := by decide +kernel
theorem dJ2_getChar_3b067_34 : decode cJ2_getChar_3b067 34 = .ok (.iinc 1 1, 3) := by decide +kernel
theorem dJ2_getChar_3b067_37 : decode cJ2_getChar_3b067 37 = .ok (.baload, 1) := by decide +kernel
theorem dJ2_getChar_3b067_38 : decode cJ2_getChar_3b067 38 = .ok (.sipush 255, 3) := by decide +kernel
theorem dJ2_getChar_3b067_41 : decode cJ2_getChar_3b067 41 = .ok (.iand, 1) := by decide +kernel
theorem dJ2_getChar_3b067_42 : decode cJ2_getChar_3b067 42 = .ok (.getstatic 59, 3) := by decide +kernel
theorem dJ2_getChar_3b067_45 : decode cJ2_getChar_3b067 45 = .ok (.ishl, 1) := by decide +kernel
theorem dJ2_getChar_3b067_46 : decode cJ2_getChar_3b067 46 = .ok (.aload_n 0, 1) := by decide +kernel
theorem dJ2_getChar_3b067_47 : decode cJ2_getChar_3b067 47 = .ok (.iload_n 1, 1) := by decide +kernel
theorem dJ2_getChar_3b067_48 : decode cJ2_getChar_3b067 48 = .ok (.baload, 1) := by decide +kernel
theorem dJ2_getChar_3b067_49 : decode cJ2_getChar_3b067 49 = .ok (.sipush 255, 3) := by decide +kernel
theorem dJ2_getChar_3b067_52 : decode cJ2_getChar_3b067 52 = .ok (.iand, 1) := by decide +kernel
theorem dJ2_getChar_3b067_53 : decode cJ2_getChar_3b067 53 = .ok (.getstatic 63, 3) := by decide +kernel
theorem dJ2_getChar_3b067_56 : decode cJ2_getChar_3b067 56 = .ok (.ishl, 1) := by decide +kernel
theorem dJ2_getChar_3b067_57 : decode cJ2_getChar_3b067 57 = .ok (.ior, 1) := by decide +kernel
theorem dJ2_getChar_3b067_58 : decode cJ2_getChar_3b067 58 = .ok (.i2c, 1) := by decide +kernel
theorem dJ2_getChar_3b067_59 : decode cJ2_getChar_3b067 59 = .ok (.ireturn, 1) := by decide +kernel
theorem dJ2_length_9d52b_0 : decode cJ2_length_9d52b 0 = .ok (.aload_n 0, 1) := by decide +kernel
theorem dJ2_length_9d52b_1 : decode cJ2_length_9d52b 1 = .ok (.arraylength, 1) := by decide +kernel
theorem dJ2_length_9d52b_2 : decode cJ2_length_9d52b 2 = .ok (.iconst 1, 1) := by decide +kernel
theorem dJ2_length_9d52b_3 : decode cJ2_length_9d52b 3 = .ok (.ishr, 1) := by decide +kernel
theorem dJ2_length_9d52b_4 : decode cJ2_length_9d52b 4 = .ok (.ireturn, 1) := by decide +kernel
theorem dJ2_charAt_3b067_0 : decode cJ2_charAt_3b067 0 = .ok (.iload_n 1, 1) := by decide +kernel
theorem dJ2_charAt_3b067_1 : decode cJ2_charAt_3b067 1 = .ok (.aload_n 0, 1) := by decide +kernel
theorem dJ2_charAt_3b067_2 : decode cJ2_charAt_3b067 2 = .ok (.invokestatic 67, 3) := by decide +kernel
theorem dJ2_charAt_3b067_5 : decode cJ2_charAt_3b067 5 = .ok (.aload_n 0, 1) := by decide +kernel
theorem dJ2_charAt_3b067_6 : decode cJ2_charAt_3b067 6 = .ok (.iload_n 1, 1) := by decide +kernel
theorem dJ2_charAt_3b067_7 : decode cJ2_charAt_3b067 7 = .ok (.invokestatic 71, 3) := by decide +kernel
theorem dJ2_charAt_3b067_10 : decode cJ2_charAt_3b067 10 = .ok (.ireturn, 1) := by decide +kernel
theorem dJ2_checkIndex_2214a_0 : decode cJ2_checkIndex_2214a 0 = .ok (.iload_n 0, 1) := by decide +kernel
theorem dJ2_checkIndex_2214a_1 : decode cJ2_checkIndex_2214a 1 = .ok (.aload_n 1, 1) := by decide +kernel
theorem dJ2_checkIndex_2214a_2 : decode cJ2_checkIndex_2214a 2 = .ok (.invokestatic 48, 3) := by decide +kernel
theorem dJ2_checkIndex_2214a_5 : decode cJ2_checkIndex_2214a 5 = .ok (.invokestatic 414, 3) := by decide +kernel
theorem dJ2_checkIndex_2214a_8 : decode cJ2_checkIndex_2214a 8 = .ok (.return_, 1) := by decide +kernel
theorem dJ3_checkIndex_8e157_0 : decode cJ3_checkIndex_8e157 0 = .ok (.iload_n 0, 1) := by decide +kernel
theorem dJ3_checkIndex_8e157_1 : decode cJ3_checkIndex_8e157 1 = .ok (.ifCond .lt 8, 3) := by decide +kernel
theorem dJ3_checkIndex_8e157_4 : decode cJ3_checkIndex_8e157 4 = .ok (.iload_n 0, 1) := by decide +kernel
theorem dJ3_checkIndex_8e157_5 : decode cJ3_checkIndex_8e157 5 = .ok (.iload_n 1, 1) := by decide +kernel
theorem dJ3_checkIndex_8e157_6 : decode cJ3_checkIndex_8e157 6 = .ok (.if_icmp .lt 10, 3) := by decide +kernel
theorem dJ3_checkIndex_8e157_9 : decode cJ3_checkIndex_8e157 9 = .ok (.aload_n 2, 1) := by decide +kernel
theorem dJ3_checkIndex_8e157_10 : decode cJ3_checkIndex_8e157 10 = .ok (.iload_n 0, 1) := by decide +kernel
theorem dJ3_checkIndex_8e157_11 : decode cJ3_checkIndex_8e157 11 = .ok (.iload_n 1, 1) := by decide +kernel
theorem dJ3_checkIndex_8e157_12 : decode cJ3_checkIndex_8e157 12 = .ok (.invokestatic 95, 3) := by decide +kernel
theorem dJ3_checkIndex_8e157_15 : decode cJ3_checkIndex_8e157 15 = .ok (.athrow, 1) := by decide +kernel
theorem dJ3_checkIndex_8e157_16 : decode cJ3_checkIndex_8e157 16 = .ok (.iload_n 0, 1) := by decide +kernel
theorem dJ3_checkIndex_8e157_17 : decode cJ3_checkIndex_8e157 17 = .ok (.ireturn, 1) := by decide +kernel
theorem dL_law_0 : decode cL_law 0 = .ok (.new 7, 3) := by decide +kernel
theorem dL_law_3 : decode cL_law 3 = .ok (.dup, 1) := by decide +kernel
theorem dL_law_4 : decode cL_law 4 = .ok (.invokespecial 9, 3) := by decide +kernel
theorem dL_law_7 : decode cL_law 7 = .ok (.astore_n 1, 1) := by decide +kernel
theorem dL_law_8 : decode cL_law 8 = .ok (.new 10, 3) := by decide +kernel
theorem dL_law_11 : decode cL_law 11 = .ok (.dup, 1) := by decide +kernel
theorem dL_law_12 : decode cL_law 12 = .ok (.invokespecial 12, 3) := by decide +kernel
theorem dL_law_15 : decode cL_law 15 = .ok (.astore_n 2, 1) := by decide +kernel
theorem dL_law_16 : decode cL_law 16 = .ok (.iconst 0, 1) := by decide +kernel
theorem dL_law_17 : decode cL_law 17 = .ok (.istore_n 3, 1) := by decide +kernel
theorem dL_law_18 : decode cL_law 18 = .ok (.iload_n 3, 1) := by decide +kernel
theorem dL_law_19 : decode cL_law 19 = .ok (.aload_n 0, 1) := by decide +kernel
theorem dL_law_20 : decode cL_law 20 = .ok (.arraylength, 1) := by decide +kernel
theorem dL_law_21 : decode cL_law 21 = .ok (.bipush 6, 2) := by decide +kernel
theorem dL_law_23 : decode cL_law 23 = .ok (.isub, 1) := by decide +kernel
theorem dL_law_24 : decode cL_law 24 = .ok (.if_icmp .gt 793, 3) := by decide +kernel
theorem dL_law_27 : decode cL_law 27 = .ok (.aload_n 0, 1) := by decide +kernel
theorem dL_law_28 : decode cL_law 28 = .ok (.iload_n 3, 1) := by decide +kernel
theorem dL_law_29 : decode cL_law 29 = .ok (.iaload, 1) := by decide +kernel
theorem dL_law_30 : decode cL_law 30 = .ok (.bipush 31, 2) := by decide +kernel
theorem dL_law_32 : decode cL_law 32 = .ok (.iand, 1) := by decide +kernel
theorem dL_law_33 : decode cL_law 33 = .ok (.tableswitch 778 0 25 #[119, 152, 195, 228, 291, 314, 347, 380, 393, 416, 439, 452, 465, 478, 511, 524, 547, 560, 583, 616, 659, 682, 696, 719, 742, 765], 119) := by decide +kernel
theorem dL_law_152 : decode cL_law 152 = .ok (.aload_n 1, 1) := by decide +kernel
theorem dL_law_153 : decode cL_law 153 = .ok (.aload_n 0, 1) := by decide +kernel
theorem dL_law_154 : decode cL_law 154 = .ok (.iload_n 3, 1) := by decide +kernel
theorem dL_law_155 : decode cL_law 155 = .ok (.iconst 1, 1) := by decide +kernel
theorem dL_law_156 : decode cL_law 156 = .ok (.iadd, 1) := by decide +kernel
theorem dL_law_157 : decode cL_law 157 = .ok (.iaload, 1) := by decide +kernel
theorem dL_law_158 : decode cL_law 158 = .ok (.aload_n 0, 1) := by decide +kernel
theorem dL_law_159 : decode cL_law 159 = .ok (.iload_n 3, 1) := by decide +kernel
theorem dL_law_160 : decode cL_law 160 = .ok (.iconst 2, 1) := by decide +kernel
theorem dL_law_161 : decode cL_law 161 = .ok (.iadd, 1) := by decide +kernel
theorem dL_law_162 : decode cL_law 162 = .ok (.iaload, 1) := by decide +kernel
theorem dL_law_163 : decode cL_law 163 = .ok (.invokevirtual 13, 3) := by decide +kernel
theorem dL_law_166 : decode cL_law 166 = .ok (.aload_n 2, 1) := by decide +kernel
theorem dL_law_167 : decode cL_law 167 = .ok (.aload_n 0, 1) := by decide +kernel
theorem dL_law_168 : decode cL_law 168 = .ok (.iload_n 3, 1) := by decide +kernel
theorem dL_law_169 : decode cL_law 169 = .ok (.iconst 1, 1) := by decide +kernel
theorem dL_law_170 : decode cL_law 170 = .ok (.iadd, 1) := by decide +kernel
theorem dL_law_171 : decode cL_law 171 = .ok (.iaload, 1) := by decide +kernel
theorem dL_law_172 : decode cL_law 172 = .ok (.aload_n 0, 1) := by decide +kernel
theorem dL_law_173 : decode cL_law 173 = .ok (.iload_n 3, 1) := by decide +kernel
theorem dL_law_174 : decode cL_law 174 = .ok (.iconst 2, 1) := by decide +kernel
theorem dL_law_175 : decode cL_law 175 = .ok (.iadd, 1) := by decide +kernel
theorem dL_law_176 : decode cL_law 176 = .ok (.iaload, 1) := by decide +kernel
theorem dL_law_177 : decode cL_law 177 = .ok (.invokevirtual 17, 3) := by decide +kernel
theorem dL_law_180 : decode cL_law 180 = .ok (.if_icmp .eq 631, 3) := by decide +kernel
theorem dL_law_183 : decode cL_law 183 = .ok (.iconst 0, 1) := by decide +kernel
theorem dL_law_184 : decode cL_law 184 = .ok (.ireturn, 1) := by decide +kernel
theorem dL_law_185 : decode cL_law 185 = .ok (.aload_n 1, 1) := by decide +kernel
theorem dL_law_186 : decode cL_law 186 = .ok (.aload_n 0, 1) := by decide +kernel
theorem dL_law_187 : decode cL_law 187 = .ok (.iload_n 3, 1) := by decide +kernel
theorem dL_law_188 : decode cL_law 188 = .ok (.iconst 1, 1) := by decide +kernel
theorem dL_law_189 : decode cL_law 189 = .ok (.iadd, 1) := by decide +kernel
theorem dL_law_190 : decode cL_law 190 = .ok (.iaload, 1) := by decide +kernel
theorem dL_law_191 : decode cL_law 191 = .ok (.aload_n 0, 1) := by decide +kernel
theorem dL_law_192 : decode cL_law 192 = .ok (.iload_n 3, 1) := by decide +kernel
theorem dL_law_193 : decode cL_law 193 = .ok (.iconst 2, 1) := by decide +kernel
theorem dL_law_194 : decode cL_law 194 = .ok (.iadd, 1) := by decide +kernel
theorem dL_law_195 : decode cL_law 195 = .ok (.iaload, 1) := by decide +kernel
theorem dL_law_196 : decode cL_law 196 = .ok (.aload_n 0, 1) := by decide +kernel
theorem dL_law_197 : decode cL_law 197 = .ok (.iload_n 3, 1) := by decide +kernel
theorem dL_law_198 : decode cL_law 198 = .ok (.iconst 3, 1) := by decide +kernel
theorem dL_law_199 : decode cL_law 199 = .ok (.iadd, 1) := by decide +kernel
theorem dL_law_200 : decode cL_law 200 = .ok (.iaload, 1) := by decide +kernel
theorem dL_law_201 : decode cL_law 201 = .ok (.invokevirtual 18, 3) := by decide +kernel
theorem dL_law_204 : decode cL_law 204 = .ok (.aload_n 2, 1) := by decide +kernel
theorem dL_law_205 : decode cL_law 205 = .ok (.aload_n 0, 1) := by decide +kernel
theorem dL_law_206 : decode cL_law 206 = .ok (.iload_n 3, 1) := by decide +kernel
theorem dL_law_207 : decode cL_law 207 = .ok (.iconst 1, 1) := by decide +kernel
theorem dL_law_208 : decode cL_law 208 = .ok (.iadd, 1) := by decide +kernel
theorem dL_law_209 : decode cL_law 209 = .ok (.iaload, 1) := by decide +kernel
theorem dL_law_210 : decode cL_law 210 = .ok (.aload_n 0, 1) := by decide +kernel
theorem dL_law_211 : decode cL_law 211 = .ok (.iload_n 3, 1) := by decide +kernel
theorem dL_law_212 : decode cL_law 212 = .ok (.iconst 2, 1) := by decide +kernel
theorem dL_law_213 : decode cL_law 213 = .ok (.iadd, 1) := by decide +kernel
theorem dL_law_214 : decode cL_law 214 = .ok (.iaload, 1) := by decide +kernel
theorem dL_law_215 : decode cL_law 215 = .ok (.aload_n 0, 1) := by decide +kernel
theorem dL_law_216 : decode cL_law 216 = .ok (.iload_n 3, 1) := by decide +kernel
theorem dL_law_217 : decode cL_law 217 = .ok (.iconst 3, 1) := by decide +kernel
theorem dL_law_218 : decode cL_law 218 = .ok (.iadd, 1) := by decide +kernel
theorem dL_law_219 : decode cL_law 219 = .ok (.iaload, 1) := by decide +kernel
theorem dL_law_220 : decode cL_law 220 = .ok (.invokevirtual 22, 3) := by decide +kernel
theorem dL_law_223 : decode cL_law 223 = .ok (.if_icmp .eq 588, 3) := by decide +kernel
theorem dL_law_226 : decode cL_law 226 = .ok (.iconst 0, 1) := by decide +kernel
theorem dL_law_227 : decode cL_law 227 = .ok (.ireturn, 1) := by decide +kernel
theorem dL_law_228 : decode cL_law 228 = .ok (.aload_n 1, 1) := by decide +kernel
theorem dL_law_229 : decode cL_law 229 = .ok (.aload_n 0, 1) := by decide +kernel
theorem dL_law_230 : decode cL_law 230 = .ok (.iload_n 3, 1) := by decide +kernel
theorem dL_law_231 : decode cL_law 231 = .ok (.iconst 1, 1) := by decide +kernel
theorem dL_law_232 : decode cL_law 232 = .ok (.iadd, 1) := by decide +kernel
theorem dL_law_233 : decode cL_law 233 = .ok (.iaload, 1) := by decide +kernel
theorem dL_law_234 : decode cL_law 234 = .ok (.aload_n 0, 1) := by decide +kernel
theorem dL_law_235 : decode cL_law 235 = .ok (.iload_n 3, 1) := by decide +kernel
theorem dL_law_236 : decode cL_law 236 = .ok (.iconst 2, 1) := by decide +kernel
theorem dL_law_237 : decode cL_law 237 = .ok (.iadd, 1) := by decide +kernel
theorem dL_law_238 : decode cL_law 238 = .ok (.iaload, 1) := by decide +kernel
theorem dL_law_239 : decode cL_law 239 = .ok (.invokevirtual 23, 3) := by decide +kernel
theorem dL_law_242 : decode cL_law 242 = .ok (.aload_n 2, 1) := by decide +kernel
theorem dL_law_243 : decode cL_law 243 = .ok (.aload_n 0, 1) := by decide +kernel
theorem dL_law_244 : decode cL_law 244 = .ok (.iload_n 3, 1) := by decide +kernel
theorem dL_law_245 : decode cL_law 245 = .ok (.iconst 1, 1) := by decide +kernel
theorem dL_law_246 : decode cL_law 246 = .ok (.iadd, 1) := by decide +kernel
theorem dL_law_247 : decode cL_law 247 = .ok (.iaload, 1) := by decide +kernel
theorem dL_law_248 : decode cL_law 248 = .ok (.aload_n 0, 1) := by decide +kernel
theorem dL_law_249 : decode cL_law 249 = .ok (.iload_n 3, 1) := by decide +kernel
theorem dL_law_250 : decode cL_law 250 = .ok (.iconst 2, 1) := by decide +kernel
theorem dL_law_251 : decode cL_law 251 = .ok (.iadd, 1) := by decide +kernel
theorem dL_law_252 : decode cL_law 252 = .ok (.iaload, 1) := by decide +kernel
theorem dL_law_253 : decode cL_law 253 = .ok (.invokevirtual 26, 3) := by decide +kernel
theorem dL_law_256 : decode cL_law 256 = .ok (.if_icmp .eq 555, 3) := by decide +kernel
theorem dL_law_259 : decode cL_law 259 = .ok (.iconst 0, 1) := by decide +kernel
theorem dL_law_260 : decode cL_law 260 = .ok (.ireturn, 1) := by decide +kernel
theorem dL_law_261 : decode cL_law 261 = .ok (.aload_n 1, 1) := by decide +kernel
theorem dL_law_262 : decode cL_law 262 = .ok (.aload_n 0, 1) := by decide +kernel
theorem dL_law_263 : decode cL_law 263 = .ok (.iload_n 3, 1) := by decide +kernel
theorem dL_law_264 : decode cL_law 264 = .ok (.iconst 1, 1) := by decide +kernel
theorem dL_law_265 : decode cL_law 265 = .ok (.iadd, 1) := by decide +kernel
theorem dL_law_266 : decode cL_law 266 = .ok (.iaload, 1) := by decide +kernel
theorem dL_law_267 : decode cL_law 267 = .ok (.aload_n 0, 1) := by decide +kernel
theorem dL_law_268 : decode cL_law 268 = .ok (.iload_n 3, 1) := by decide +kernel
theorem dL_law_269 : decode cL_law 269 = .ok (.iconst 2, 1) := by decide +kernel
theorem dL_law_270 : decode cL_law 270 = .ok (.iadd, 1) := by decide +kernel
theorem dL_law_271 : decode cL_law 271 = .ok (.iaload, 1) := by decide +kernel
theorem dL_law_272 : decode cL_law 272 = .ok (.aload_n 0, 1) := by decide +kernel
theorem dL_law_273 : decode cL_law 273 = .ok (.iload_n 3, 1) := by decide +kernel
theorem dL_law_274 : decode cL_law 274 = .ok (.iconst 3, 1) := by decide +kernel
theorem dL_law_275 : decode cL_law 275 = .ok (.iadd, 1) := by decide +kernel
theorem dL_law_276 : decode cL_law 276 = .ok (.iaload, 1) := by decide +kernel
theorem dL_law_277 : decode cL_law 277 = .ok (.aload_n 0, 1) := by decide +kernel
theorem dL_law_278 : decode cL_law 278 = .ok (.iload_n 3, 1) := by decide +kernel
theorem dL_law_279 : decode cL_law 279 = .ok (.iconst 4, 1) := by decide +kernel
theorem dL_law_280 : decode cL_law 280 = .ok (.iadd, 1) := by decide +kernel
theorem dL_law_281 : decode cL_law 281 = .ok (.iaload, 1) := by decide +kernel
theorem dL_law_282 : decode cL_law 282 = .ok (.aload_n 0, 1) := by decide +kernel
theorem dL_law_283 : decode cL_law 283 = .ok (.iload_n 3, 1) := by decide +kernel
theorem dL_law_284 : decode cL_law 284 = .ok (.iconst 5, 1) := by decide +kernel
theorem dL_law_285 : decode cL_law 285 = .ok (.iadd, 1) := by decide +kernel
theorem dL_law_286 : decode cL_law 286 = .ok (.iaload, 1) := by decide +kernel
theorem dL_law_287 : decode cL_law 287 = .ok (.invokevirtual 27, 3) := by decide +kernel
theorem dL_law_290 : decode cL_law 290 = .ok (.aload_n 2, 1) := by decide +kernel
theorem dL_law_291 : decode cL_law 291 = .ok (.aload_n 0, 1) := by decide +kernel
theorem dL_law_292 : decode cL_law 292 = .ok (.iload_n 3, 1) := by decide +kernel
theorem dL_law_293 : decode cL_law 293 = .ok (.iconst 1, 1) := by decide +kernel
theorem dL_law_294 : decode cL_law 294 = .ok (.iadd, 1) := by decide +kernel
theorem dL_law_295 : decode cL_law 295 = .ok (.iaload, 1) := by decide +kernel
theorem dL_law_296 : decode cL_law 296 = .ok (.aload_n 0, 1) := by decide +kernel
theorem dL_law_297 : decode cL_law 297 = .ok (.iload_n 3, 1) := by decide +kernel
theorem dL_law_298 : decode cL_law 298 = .ok (.iconst 2, 1) := by decide +kernel
theorem dL_law_299 : decode cL_law 299 = .ok (.iadd, 1) := by decide +kernel
theorem dL_law_300 : decode cL_law 300 = .ok (.iaload, 1) := by decide +kernel
theorem dL_law_301 : decode cL_law 301 = .ok (.aload_n 0, 1) := by decide +kernel
theorem dL_law_302 : decode cL_law 302 = .ok (.iload_n 3, 1) := by decide +kernel
theorem dL_law_303 : decode cL_law 303 = .ok (.iconst 3, 1) := by decide +kernel
theorem dL_law_304 : decode cL_law 304 = .ok (.iadd, 1) := by decide +kernel
theorem dL_law_305 : decode cL_law 305 = .ok (.iaload, 1) := by decide +kernel
theorem dL_law_306 : decode cL_law 306 = .ok (.aload_n 0, 1) := by decide +kernel
theorem dL_law_307 : decode cL_law 307 = .ok (.iload_n 3, 1) := by decide +kernel
theorem dL_law_308 : decode cL_law 308 = .ok (.iconst 4, 1) := by decide +kernel
theorem dL_law_309 : decode cL_law 309 = .ok (.iadd, 1) := by decide +kernel
theorem dL_law_310 : decode cL_law 310 = .ok (.iaload, 1) := by decide +kernel
theorem dL_law_311 : decode cL_law 311 = .ok (.aload_n 0, 1) := by decide +kernel
theorem dL_law_312 : decode cL_law 312 = .ok (.iload_n 3, 1) := by decide +kernel
theorem dL_law_313 : decode cL_law 313 = .ok (.iconst 5, 1) := by decide +kernel
theorem dL_law_314 : decode cL_law 314 = .ok (.iadd, 1) := by decide +kernel
theorem dL_law_315 : decode cL_law 315 = .ok (.iaload, 1) := by decide +kernel
theorem dL_law_316 : decode cL_law 316 = .ok (.invokevirtual 31, 3) := by decide +kernel
theorem dL_law_319 : decode cL_law 319 = .ok (.if_icmp .eq 492, 3) := by decide +kernel
theorem dL_law_322 : decode cL_law 322 = .ok (.iconst 0, 1) := by decide +kernel
theorem dL_law_323 : decode cL_law 323 = .ok (.ireturn, 1) := by decide +kernel
theorem dL_law_324 : decode cL_law 324 = .ok (.aload_n 1, 1) := by decide +kernel
theorem dL_law_325 : decode cL_law 325 = .ok (.aload_n 0, 1) := by decide +kernel
theorem dL_law_326 : decode cL_law 326 = .ok (.iload_n 3, 1) := by decide +kernel
theorem dL_law_327 : decode cL_law 327 = .ok (.iconst 1, 1) := by decide +kernel
theorem dL_law_328 : decode cL_law 328 = .ok (.iadd, 1) := by decide +kernel
theorem dL_law_329 : decode cL_law 329 = .ok (.iaload, 1) := by decide +kernel
theorem dL_law_330 : decode cL_law 330 = .ok (.invokevirtual 32, 3) := by decide +kernel
theorem dL_law_333 : decode cL_law 333 = .ok (.aload_n 2, 1) := by decide +kernel
theorem dL_law_334 : decode cL_law 334 = .ok (.aload_n 0, 1) := by decide +kernel
theorem dL_law_335 : decode cL_law 335 = .ok (.iload_n 3, 1) := by decide +kernel
theorem dL_law_336 : decode cL_law 336 = .ok (.iconst 1, 1) := by decide +kernel
theorem dL_law_337 : decode cL_law 337 = .ok (.iadd, 1) := by decide +kernel
theorem dL_law_338 : decode cL_law 338 = .ok (.iaload, 1) := by decide +kernel
theorem dL_law_339 : decode cL_law 339 = .ok (.invokevirtual 36, 3) := by decide +kernel
theorem dL_law_342 : decode cL_law 342 = .ok (.if_icmp .eq 469, 3) := by decide +kernel
theorem dL_law_345 : decode cL_law 345 = .ok (.iconst 0, 1) := by decide +kernel
theorem dL_law_346 : decode cL_law 346 = .ok (.ireturn, 1) := by decide +kernel
theorem dL_law_347 : decode cL_law 347 = .ok (.aload_n 1, 1) := by decide +kernel
theorem dL_law_348 : decode cL_law 348 = .ok (.aload_n 0, 1) := by decide +kernel
theorem dL_law_349 : decode cL_law 349 = .ok (.iload_n 3, 1) := by decide +kernel
theorem dL_law_350 : decode cL_law 350 = .ok (.iconst 1, 1) := by decide +kernel
theorem dL_law_351 : decode cL_law 351 = .ok (.iadd, 1) := by decide +kernel
theorem dL_law_352 : decode cL_law 352 = .ok (.iaload, 1) := by decide +kernel
theorem dL_law_353 : decode cL_law 353 = .ok (.aload_n 0, 1) := by decide +kernel
theorem dL_law_354 : decode cL_law 354 = .ok (.iload_n 3, 1) := by decide +kernel
theorem dL_law_355 : decode cL_law 355 = .ok (.iconst 2, 1) := by decide +kernel
theorem dL_law_356 : decode cL_law 356 = .ok (.iadd, 1) := by decide +kernel
theorem dL_law_357 : decode cL_law 357 = .ok (.iaload, 1) := by decide +kernel
theorem dL_law_358 : decode cL_law 358 = .ok (.invokevirtual 37, 3) := by decide +kernel
theorem dL_law_361 : decode cL_law 361 = .ok (.aload_n 2, 1) := by decide +kernel
theorem dL_law_362 : decode cL_law 362 = .ok (.aload_n 0, 1) := by decide +kernel
theorem dL_law_363 : decode cL_law 363 = .ok (.iload_n 3, 1) := by decide +kernel
theorem dL_law_364 : decode cL_law 364 = .ok (.iconst 1, 1) := by decide +kernel
theorem dL_law_365 : decode cL_law 365 = .ok (.iadd, 1) := by decide +kernel
theorem dL_law_366 : decode cL_law 366 = .ok (.iaload, 1) := by decide +kernel
theorem dL_law_367 : decode cL_law 367 = .ok (.aload_n 0, 1) := by decide +kernel
theorem dL_law_368 : decode cL_law 368 = .ok (.iload_n 3, 1) := by decide +kernel
theorem dL_law_369 : decode cL_law 369 = .ok (.iconst 2, 1) := by decide +kernel
theorem dL_law_370 : decode cL_law 370 = .ok (.iadd, 1) := by decide +kernel
theorem dL_law_371 : decode cL_law 371 = .ok (.iaload, 1) := by decide +kernel
theorem dL_law_372 : decode cL_law 372 = .ok (.invokevirtual 40, 3) := by decide +kernel
theorem dL_law_375 : decode cL_law 375 = .ok (.if_icmp .eq 436, 3) := by decide +kernel
theorem dL_law_378 : decode cL_law 378 = .ok (.iconst 0, 1) := by decide +kernel
theorem dL_law_379 : decode cL_law 379 = .ok (.ireturn, 1) := by decide +kernel
theorem dL_law_380 : decode cL_law 380 = .ok (.aload_n 1, 1) := by decide +kernel
theorem dL_law_381 : decode cL_law 381 = .ok (.aload_n 0, 1) := by decide +kernel
theorem dL_law_382 : decode cL_law 382 = .ok (.iload_n 3, 1) := by decide +kernel
theorem dL_law_383 : decode cL_law 383 = .ok (.iconst 1, 1) := by decide +kernel
theorem dL_law_384 : decode cL_law 384 = .ok (.iadd, 1) := by decide +kernel
theorem dL_law_385 : decode cL_law 385 = .ok (.iaload, 1) := by decide +kernel
theorem dL_law_386 : decode cL_law 386 = .ok (.aload_n 0, 1) := by decide +kernel
theorem dL_law_387 : decode cL_law 387 = .ok (.iload_n 3, 1) := by decide +kernel
theorem dL_law_388 : decode cL_law 388 = .ok (.iconst 2, 1) := by decide +kernel
theorem dL_law_389 : decode cL_law 389 = .ok (.iadd, 1) := by decide +kernel
theorem dL_law_390 : decode cL_law 390 = .ok (.iaload, 1) := by decide +kernel
theorem dL_law_391 : decode cL_law 391 = .ok (.invokevirtual 41, 3) := by decide +kernel
theorem dL_law_394 : decode cL_law 394 = .ok (.aload_n 2, 1) := by decide +kernel
theorem dL_law_395 : decode cL_law 395 = .ok (.aload_n 0, 1) := by decide +kernel
theorem dL_law_396 : decode cL_law 396 = .ok (.iload_n 3, 1) := by decide +kernel
theorem dL_law_397 : decode cL_law 397 = .ok (.iconst 1, 1) := by decide +kernel
theorem dL_law_398 : decode cL_law 398 = .ok (.iadd, 1) := by decide +kernel
theorem dL_law_399 : decode cL_law 399 = .ok (.iaload, 1) := by decide +kernel
theorem dL_law_400 : decode cL_law 400 = .ok (.aload_n 0, 1) := by decide +kernel
theorem dL_law_401 : decode cL_law 401 = .ok (.iload_n 3, 1) := by decide +kernel
theorem dL_law_402 : decode cL_law 402 = .ok (.iconst 2, 1) := by decide +kernel
theorem dL_law_403 : decode cL_law 403 = .ok (.iadd, 1) := by decide +kernel
theorem dL_law_404 : decode cL_law 404 = .ok (.iaload, 1) := by decide +kernel
theorem dL_law_405 : decode cL_law 405 = .ok (.invokevirtual 44, 3) := by decide +kernel
theorem dL_law_408 : decode cL_law 408 = .ok (.if_icmp .eq 403, 3) := by decide +kernel
theorem dL_law_411 : decode cL_law 411 = .ok (.iconst 0, 1) := by decide +kernel
theorem dL_law_412 : decode cL_law 412 = .ok (.ireturn, 1) := by decide +kernel
theorem dL_law_413 : decode cL_law 413 = .ok (.aload_n 1, 1) := by decide +kernel
theorem dL_law_414 : decode cL_law 414 = .ok (.invokevirtual 45, 3) := by decide +kernel
theorem dL_law_417 : decode cL_law 417 = .ok (.aload_n 2, 1) := by decide +kernel
theorem dL_law_418 : decode cL_law 418 = .ok (.invokevirtual 49, 3) := by decide +kernel
theorem dL_law_421 : decode cL_law 421 = .ok (.if_icmp .eq 390, 3) := by decide +kernel
theorem dL_law_424 : decode cL_law 424 = .ok (.iconst 0, 1) := by decide +kernel
theorem dL_law_425 : decode cL_law 425 = .ok (.ireturn, 1) := by decide +kernel
theorem dL_law_426 : decode cL_law 426 = .ok (.aload_n 1, 1) := by decide +kernel
theorem dL_law_427 : decode cL_law 427 = .ok (.aload_n 0, 1) := by decide +kernel
theorem dL_law_428 : decode cL_law 428 = .ok (.iload_n 3, 1) := by decide +kernel
theorem dL_law_429 : decode cL_law 429 = .ok (.iconst 1, 1) := by decide +kernel
theorem dL_law_430 : decode cL_law 430 = .ok (.iadd, 1) := by decide +kernel
theorem dL_law_431 : decode cL_law 431 = .ok (.iaload, 1) := by decide +kernel
theorem dL_law_432 : decode cL_law 432 = .ok (.invokevirtual 50, 3) := by decide +kernel
theorem dL_law_435 : decode cL_law 435 = .ok (.aload_n 2, 1) := by decide +kernel
theorem dL_law_436 : decode cL_law 436 = .ok (.aload_n 0, 1) := by decide +kernel
theorem dL_law_437 : decode cL_law 437 = .ok (.iload_n 3, 1) := by decide +kernel
theorem dL_law_438 : decode cL_law 438 = .ok (.iconst 1, 1) := by decide +kernel
theorem dL_law_439 : decode cL_law 439 = .ok (.iadd, 1) := by decide +kernel
theorem dL_law_440 : decode cL_law 440 = .ok (.iaload, 1) := by decide +kernel
theorem dL_law_441 : decode cL_law 441 = .ok (.invokevirtual 53, 3) := by decide +kernel
theorem dL_law_444 : decode cL_law 444 = .ok (.if_icmp .eq 367, 3) := by decide +kernel
theorem dL_law_447 : decode cL_law 447 = .ok (.iconst 0, 1) := by decide +kernel
theorem dL_law_448 : decode cL_law 448 = .ok (.ireturn, 1) := by decide +kernel
theorem dL_law_449 : decode cL_law 449 = .ok (.aload_n 1, 1) := by decide +kernel
theorem dL_law_450 : decode cL_law 450 = .ok (.aload_n 0, 1) := by decide +kernel
theorem dL_law_451 : decode cL_law 451 = .ok (.iload_n 3, 1) := by decide +kernel
theorem dL_law_452 : decode cL_law 452 = .ok (.iconst 1, 1) := by decide +kernel
theorem dL_law_453 : decode cL_law 453 = .ok (.iadd, 1) := by decide +kernel
theorem dL_law_454 : decode cL_law 454 = .ok (.iaload, 1) := by decide +kernel
theorem dL_law_455 : decode cL_law 455 = .ok (.invokevirtual 54, 3) := by decide +kernel
theorem dL_law_458 : decode cL_law 458 = .ok (.aload_n 2, 1) := by decide +kernel
theorem dL_law_459 : decode cL_law 459 = .ok (.aload_n 0, 1) := by decide +kernel
theorem dL_law_460 : decode cL_law 460 = .ok (.iload_n 3, 1) := by decide +kernel
theorem dL_law_461 : decode cL_law 461 = .ok (.iconst 1, 1) := by decide +kernel
theorem dL_law_462 : decode cL_law 462 = .ok (.iadd, 1) := by decide +kernel
theorem dL_law_463 : decode cL_law 463 = .ok (.iaload, 1) := by decide +kernel
theorem dL_law_464 : decode cL_law 464 = .ok (.invokevirtual 57, 3) := by decide +kernel
theorem dL_law_467 : decode cL_law 467 = .ok (.if_icmp .eq 344, 3) := by decide +kernel
theorem dL_law_470 : decode cL_law 470 = .ok (.iconst 0, 1) := by decide +kernel
theorem dL_law_471 : decode cL_law 471 = .ok (.ireturn, 1) := by decide +kernel
theorem dL_law_472 : decode cL_law 472 = .ok (.aload_n 1, 1) := by decide +kernel
theorem dL_law_473 : decode cL_law 473 = .ok (.invokevirtual 58, 3) := by decide +kernel
theorem dL_law_476 : decode cL_law 476 = .ok (.aload_n 2, 1) := by decide +kernel
theorem dL_law_477 : decode cL_law 477 = .ok (.invokevirtual 61, 3) := by decide +kernel
theorem dL_law_480 : decode cL_law 480 = .ok (.if_icmp .eq 331, 3) := by decide +kernel
theorem dL_law_483 : decode cL_law 483 = .ok (.iconst 0, 1) := by decide +kernel
theorem dL_law_484 : decode cL_law 484 = .ok (.ireturn, 1) := by decide +kernel
theorem dL_law_485 : decode cL_law 485 = .ok (.aload_n 1, 1) := by decide +kernel
theorem dL_law_486 : decode cL_law 486 = .ok (.invokevirtual 62, 3) := by decide +kernel
theorem dL_law_489 : decode cL_law 489 = .ok (.aload_n 2, 1) := by decide +kernel
theorem dL_law_490 : decode cL_law 490 = .ok (.invokevirtual 65, 3) := by decide +kernel
theorem dL_law_493 : decode cL_law 493 = .ok (.if_icmp .eq 318, 3) := by decide +kernel
theorem dL_law_496 : decode cL_law 496 = .ok (.iconst 0, 1) := by decide +kernel
theorem dL_law_497 : decode cL_law 497 = .ok (.ireturn, 1) := by decide +kernel
theorem dL_law_498 : decode cL_law 498 = .ok (.aload_n 1, 1) := by decide +kernel
theorem dL_law_499 : decode cL_law 499 = .ok (.invokevirtual 66, 3) := by decide +kernel
theorem dL_law_502 : decode cL_law 502 = .ok (.aload_n 2, 1) := by decide +kernel
theorem dL_law_503 : decode cL_law 503 = .ok (.invokevirtual 69, 3) := by decide +kernel
theorem dL_law_506 : decode cL_law 506 = .ok (.if_icmp .eq 305, 3) := by decide +kernel
theorem dL_law_509 : decode cL_law 509 = .ok (.iconst 0, 1) := by decide +kernel
theorem dL_law_510 : decode cL_law 510 = .ok (.ireturn, 1) := by decide +kernel
theorem dL_law_511 : decode cL_law 511 = .ok (.aload_n 1, 1) := by decide +kernel
theorem dL_law_512 : decode cL_law 512 = .ok (.aload_n 0, 1) := by decide +kernel
theorem dL_law_513 : decode cL_law 513 = .ok (.iload_n 3, 1) := by decide +kernel
theorem dL_law_514 : decode cL_law 514 = .ok (.iconst 1, 1) := by decide +kernel
theorem dL_law_515 : decode cL_law 515 = .ok (.iadd, 1) := by decide +kernel
theorem dL_law_516 : decode cL_law 516 = .ok (.iaload, 1) := by decide +kernel
theorem dL_law_517 : decode cL_law 517 = .ok (.aload_n 0, 1) := by decide +kernel
theorem dL_law_518 : decode cL_law 518 = .ok (.iload_n 3, 1) := by decide +kernel
theorem dL_law_519 : decode cL_law 519 = .ok (.iconst 2, 1) := by decide +kernel
theorem dL_law_520 : decode cL_law 520 = .ok (.iadd, 1) := by decide +kernel
theorem dL_law_521 : decode cL_law 521 = .ok (.iaload, 1) := by decide +kernel
theorem dL_law_522 : decode cL_law 522 = .ok (.invokevirtual 70, 3) := by decide +kernel
theorem dL_law_525 : decode cL_law 525 = .ok (.aload_n 2, 1) := by decide +kernel
theorem dL_law_526 : decode cL_law 526 = .ok (.aload_n 0, 1) := by decide +kernel
theorem dL_law_527 : decode cL_law 527 = .ok (.iload_n 3, 1) := by decide +kernel
theorem dL_law_528 : decode cL_law 528 = .ok (.iconst 1, 1) := by decide +kernel
theorem dL_law_529 : decode cL_law 529 = .ok (.iadd, 1) := by decide +kernel
theorem dL_law_530 : decode cL_law 530 = .ok (.iaload, 1) := by decide +kernel
theorem dL_law_531 : decode cL_law 531 = .ok (.aload_n 0, 1) := by decide +kernel
theorem dL_law_532 : decode cL_law 532 = .ok (.iload_n 3, 1) := by decide +kernel
theorem dL_law_533 : decode cL_law 533 = .ok (.iconst 2, 1) := by decide +kernel
theorem dL_law_534 : decode cL_law 534 = .ok (.iadd, 1) := by decide +kernel
theorem dL_law_535 : decode cL_law 535 = .ok (.iaload, 1) := by decide +kernel
theorem dL_law_536 : decode cL_law 536 = .ok (.invokevirtual 73, 3) := by decide +kernel
theorem dL_law_539 : decode cL_law 539 = .ok (.if_icmp .eq 272, 3) := by decide +kernel
theorem dL_law_542 : decode cL_law 542 = .ok (.iconst 0, 1) := by decide +kernel
theorem dL_law_543 : decode cL_law 543 = .ok (.ireturn, 1) := by decide +kernel
theorem dL_law_544 : decode cL_law 544 = .ok (.aload_n 1, 1) := by decide +kernel
theorem dL_law_545 : decode cL_law 545 = .ok (.invokevirtual 74, 3) := by decide +kernel
theorem dL_law_548 : decode cL_law 548 = .ok (.aload_n 2, 1) := by decide +kernel
theorem dL_law_549 : decode cL_law 549 = .ok (.invokevirtual 77, 3) := by decide +kernel
theorem dL_law_552 : decode cL_law 552 = .ok (.if_icmp .eq 259, 3) := by decide +kernel
theorem dL_law_555 : decode cL_law 555 = .ok (.iconst 0, 1) := by decide +kernel
theorem dL_law_556 : decode cL_law 556 = .ok (.ireturn, 1) := by decide +kernel
theorem dL_law_557 : decode cL_law 557 = .ok (.aload_n 1, 1) := by decide +kernel
theorem dL_law_558 : decode cL_law 558 = .ok (.aload_n 0, 1) := by decide +kernel
theorem dL_law_559 : decode cL_law 559 = .ok (.iload_n 3, 1) := by decide +kernel
theorem dL_law_560 : decode cL_law 560 = .ok (.iconst 1, 1) := by decide +kernel
theorem dL_law_561 : decode cL_law 561 = .ok (.iadd, 1) := by decide +kernel
theorem dL_law_562 : decode cL_law 562 = .ok (.iaload, 1) := by decide +kernel
theorem dL_law_563 : decode cL_law 563 = .ok (.invokevirtual 78, 3) := by decide +kernel
theorem dL_law_566 : decode cL_law 566 = .ok (.aload_n 2, 1) := by decide +kernel
theorem dL_law_567 : decode cL_law 567 = .ok (.aload_n 0, 1) := by decide +kernel
theorem dL_law_568 : decode cL_law 568 = .ok (.iload_n 3, 1) := by decide +kernel
theorem dL_law_569 : decode cL_law 569 = .ok (.iconst 1, 1) := by decide +kernel
theorem dL_law_570 : decode cL_law 570 = .ok (.iadd, 1) := by decide +kernel
theorem dL_law_571 : decode cL_law 571 = .ok (.iaload, 1) := by decide +kernel
theorem dL_law_572 : decode cL_law 572 = .ok (.invokevirtual 81, 3) := by decide +kernel
theorem dL_law_575 : decode cL_law 575 = .ok (.if_icmp .eq 236, 3) := by decide +kernel
theorem dL_law_578 : decode cL_law 578 = .ok (.iconst 0, 1) := by decide +kernel
theorem dL_law_579 : decode cL_law 579 = .ok (.ireturn, 1) := by decide +kernel
theorem dL_law_580 : decode cL_law 580 = .ok (.aload_n 1, 1) := by decide +kernel
theorem dL_law_581 : decode cL_law 581 = .ok (.invokevirtual 82, 3) := by decide +kernel
theorem dL_law_584 : decode cL_law 584 = .ok (.aload_n 2, 1) := by decide +kernel
theorem dL_law_585 : decode cL_law 585 = .ok (.invokevirtual 85, 3) := by decide +kernel
theorem dL_law_588 : decode cL_law 588 = .ok (.if_icmp .eq 223, 3) := by decide +kernel
theorem dL_law_591 : decode cL_law 591 = .ok (.iconst 0, 1) := by decide +kernel
theorem dL_law_592 : decode cL_law 592 = .ok (.ireturn, 1) := by decide +kernel
theorem dL_law_593 : decode cL_law 593 = .ok (.aload_n 1, 1) := by decide +kernel
theorem dL_law_594 : decode cL_law 594 = .ok (.aload_n 0, 1) := by decide +kernel
theorem dL_law_595 : decode cL_law 595 = .ok (.iload_n 3, 1) := by decide +kernel
theorem dL_law_596 : decode cL_law 596 = .ok (.iconst 1, 1) := by decide +kernel
theorem dL_law_597 : decode cL_law 597 = .ok (.iadd, 1) := by decide +kernel
theorem dL_law_598 : decode cL_law 598 = .ok (.iaload, 1) := by decide +kernel
theorem dL_law_599 : decode cL_law 599 = .ok (.invokevirtual 86, 3) := by decide +kernel
theorem dL_law_602 : decode cL_law 602 = .ok (.aload_n 2, 1) := by decide +kernel
theorem dL_law_603 : decode cL_law 603 = .ok (.aload_n 0, 1) := by decide +kernel
theorem dL_law_604 : decode cL_law 604 = .ok (.iload_n 3, 1) := by decide +kernel
theorem dL_law_605 : decode cL_law 605 = .ok (.iconst 1, 1) := by decide +kernel
theorem dL_law_606 : decode cL_law 606 = .ok (.iadd, 1) := by decide +kernel
theorem dL_law_607 : decode cL_law 607 = .ok (.iaload, 1) := by decide +kernel
theorem dL_law_608 : decode cL_law 608 = .ok (.invokevirtual 89, 3) := by decide +kernel
theorem dL_law_611 : decode cL_law 611 = .ok (.if_icmp .eq 200, 3) := by decide +kernel
theorem dL_law_614 : decode cL_law 614 = .ok (.iconst 0, 1) := by decide +kernel
theorem dL_law_615 : decode cL_law 615 = .ok (.ireturn, 1) := by decide +kernel
theorem dL_law_616 : decode cL_law 616 = .ok (.aload_n 1, 1) := by decide +kernel
theorem dL_law_617 : decode cL_law 617 = .ok (.aload_n 0, 1) := by decide +kernel
theorem dL_law_618 : decode cL_law 618 = .ok (.iload_n 3, 1) := by decide +kernel
theorem dL_law_619 : decode cL_law 619 = .ok (.iconst 1, 1) := by decide +kernel
theorem dL_law_620 : decode cL_law 620 = .ok (.iadd, 1) := by decide +kernel
theorem dL_law_621 : decode cL_law 621 = .ok (.iaload, 1) := by decide +kernel
theorem dL_law_622 : decode cL_law 622 = .ok (.aload_n 0, 1) := by decide +kernel
theorem dL_law_623 : decode cL_law 623 = .ok (.iload_n 3, 1) := by decide +kernel
theorem dL_law_624 : decode cL_law 624 = .ok (.iconst 2, 1) := by decide +kernel
theorem dL_law_625 : decode cL_law 625 = .ok (.iadd, 1) := by decide +kernel
theorem dL_law_626 : decode cL_law 626 = .ok (.iaload, 1) := by decide +kernel
theorem dL_law_627 : decode cL_law 627 = .ok (.invokevirtual 90, 3) := by decide +kernel
theorem dL_law_630 : decode cL_law 630 = .ok (.aload_n 2, 1) := by decide +kernel
theorem dL_law_631 : decode cL_law 631 = .ok (.aload_n 0, 1) := by decide +kernel
theorem dL_law_632 : decode cL_law 632 = .ok (.iload_n 3, 1) := by decide +kernel
theorem dL_law_633 : decode cL_law 633 = .ok (.iconst 1, 1) := by decide +kernel
theorem dL_law_634 : decode cL_law 634 = .ok (.iadd, 1) := by decide +kernel
theorem dL_law_635 : decode cL_law 635 = .ok (.iaload, 1) := by decide +kernel
theorem dL_law_636 : decode cL_law 636 = .ok (.aload_n 0, 1) := by decide +kernel
theorem dL_law_637 : decode cL_law 637 = .ok (.iload_n 3, 1) := by decide +kernel
theorem dL_law_638 : decode cL_law 638 = .ok (.iconst 2, 1) := by decide +kernel
theorem dL_law_639 : decode cL_law 639 = .ok (.iadd, 1) := by decide +kernel
theorem dL_law_640 : decode cL_law 640 = .ok (.iaload, 1) := by decide +kernel
theorem dL_law_641 : decode cL_law 641 = .ok (.invokevirtual 93, 3) := by decide +kernel
theorem dL_law_644 : decode cL_law 644 = .ok (.if_icmp .eq 167, 3) := by decide +kernel
theorem dL_law_647 : decode cL_law 647 = .ok (.iconst 0, 1) := by decide +kernel
theorem dL_law_648 : decode cL_law 648 = .ok (.ireturn, 1) := by decide +kernel
theorem dL_law_649 : decode cL_law 649 = .ok (.aload_n 1, 1) := by decide +kernel
theorem dL_law_650 : decode cL_law 650 = .ok (.aload_n 0, 1) := by decide +kernel
theorem dL_law_651 : decode cL_law 651 = .ok (.iload_n 3, 1) := by decide +kernel
theorem dL_law_652 : decode cL_law 652 = .ok (.iconst 1, 1) := by decide +kernel
theorem dL_law_653 : decode cL_law 653 = .ok (.iadd, 1) := by decide +kernel
theorem dL_law_654 : decode cL_law 654 = .ok (.iaload, 1) := by decide +kernel
theorem dL_law_655 : decode cL_law 655 = .ok (.aload_n 0, 1) := by decide +kernel
theorem dL_law_656 : decode cL_law 656 = .ok (.iload_n 3, 1) := by decide +kernel
theorem dL_law_657 : decode cL_law 657 = .ok (.iconst 2, 1) := by decide +kernel
theorem dL_law_658 : decode cL_law 658 = .ok (.iadd, 1) := by decide +kernel
theorem dL_law_659 : decode cL_law 659 = .ok (.iaload, 1) := by decide +kernel
theorem dL_law_660 : decode cL_law 660 = .ok (.aload_n 0, 1) := by decide +kernel
theorem dL_law_661 : decode cL_law 661 = .ok (.iload_n 3, 1) := by decide +kernel
theorem dL_law_662 : decode cL_law 662 = .ok (.iconst 3, 1) := by decide +kernel
theorem dL_law_663 : decode cL_law 663 = .ok (.iadd, 1) := by decide +kernel
theorem dL_law_664 : decode cL_law 664 = .ok (.iaload, 1) := by decide +kernel
theorem dL_law_665 : decode cL_law 665 = .ok (.invokevirtual 94, 3) := by decide +kernel
theorem dL_law_668 : decode cL_law 668 = .ok (.aload_n 2, 1) := by decide +kernel
theorem dL_law_669 : decode cL_law 669 = .ok (.aload_n 0, 1) := by decide +kernel
theorem dL_law_670 : decode cL_law 670 = .ok (.iload_n 3, 1) := by decide +kernel
theorem dL_law_671 : decode cL_law 671 = .ok (.iconst 1, 1) := by decide +kernel
theorem dL_law_672 : decode cL_law 672 = .ok (.iadd, 1) := by decide +kernel
theorem dL_law_673 : decode cL_law 673 = .ok (.iaload, 1) := by decide +kernel
theorem dL_law_674 : decode cL_law 674 = .ok (.aload_n 0, 1) := by decide +kernel
theorem dL_law_675 : decode cL_law 675 = .ok (.iload_n 3, 1) := by decide +kernel
theorem dL_law_676 : decode cL_law 676 = .ok (.iconst 2, 1) := by decide +kernel
theorem dL_law_677 : decode cL_law 677 = .ok (.iadd, 1) := by decide +kernel
theorem dL_law_678 : decode cL_law 678 = .ok (.iaload, 1) := by decide +kernel
theorem dL_law_679 : decode cL_law 679 = .ok (.aload_n 0, 1) := by decide +kernel
theorem dL_law_680 : decode cL_law 680 = .ok (.iload_n 3, 1) := by decide +kernel
theorem dL_law_681 : decode cL_law 681 = .ok (.iconst 3, 1) := by decide +kernel
theorem dL_law_682 : decode cL_law 682 = .ok (.iadd, 1) := by decide +kernel
theorem dL_law_683 : decode cL_law 683 = .ok (.iaload, 1) := by decide +kernel
theorem dL_law_684 : decode cL_law 684 = .ok (.invokevirtual 97, 3) := by decide +kernel
theorem dL_law_687 : decode cL_law 687 = .ok (.if_icmp .eq 124, 3) := by decide +kernel
theorem dL_law_690 : decode cL_law 690 = .ok (.iconst 0, 1) := by decide +kernel
theorem dL_law_691 : decode cL_law 691 = .ok (.ireturn, 1) := by decide +kernel
theorem dL_law_692 : decode cL_law 692 = .ok (.aload_n 1, 1) := by decide +kernel
theorem dL_law_693 : decode cL_law 693 = .ok (.aload_n 0, 1) := by decide +kernel
theorem dL_law_694 : decode cL_law 694 = .ok (.iload_n 3, 1) := by decide +kernel
theorem dL_law_695 : decode cL_law 695 = .ok (.iconst 1, 1) := by decide +kernel
theorem dL_law_696 : decode cL_law 696 = .ok (.iadd, 1) := by decide +kernel
theorem dL_law_697 : decode cL_law 697 = .ok (.iaload, 1) := by decide +kernel
theorem dL_law_698 : decode cL_law 698 = .ok (.invokevirtual 98, 3) := by decide +kernel
theorem dL_law_701 : decode cL_law 701 = .ok (.aload_n 2, 1) := by decide +kernel
theorem dL_law_702 : decode cL_law 702 = .ok (.aload_n 0, 1) := by decide +kernel
theorem dL_law_703 : decode cL_law 703 = .ok (.iload_n 3, 1) := by decide +kernel
theorem dL_law_704 : decode cL_law 704 = .ok (.iconst 1, 1) := by decide +kernel
theorem dL_law_705 : decode cL_law 705 = .ok (.iadd, 1) := by decide +kernel
theorem dL_law_706 : decode cL_law 706 = .ok (.iaload, 1) := by decide +kernel
theorem dL_law_707 : decode cL_law 707 = .ok (.invokevirtual 101, 3) := by decide +kernel
theorem dL_law_710 : decode cL_law 710 = .ok (.if_icmp .eq 101, 3) := by decide +kernel
theorem dL_law_713 : decode cL_law 713 = .ok (.iconst 0, 1) := by decide +kernel
theorem dL_law_714 : decode cL_law 714 = .ok (.ireturn, 1) := by decide +kernel
theorem dL_law_715 : decode cL_law 715 = .ok (.aload_n 1, 1) := by decide +kernel
theorem dL_law_716 : decode cL_law 716 = .ok (.invokevirtual 102, 3) := by decide +kernel
theorem dL_law_719 : decode cL_law 719 = .ok (.aload_n 2, 1) := by decide +kernel
theorem dL_law_720 : decode cL_law 720 = .ok (.invokevirtual 106, 3) := by decide +kernel
theorem dL_law_723 : decode cL_law 723 = .ok (.lcmp, 1) := by decide +kernel
theorem dL_law_724 : decode cL_law 724 = .ok (.ifCond .eq 87, 3) := by decide +kernel
theorem dL_law_727 : decode cL_law 727 = .ok (.iconst 0, 1) := by decide +kernel
theorem dL_law_728 : decode cL_law 728 = .ok (.ireturn, 1) := by decide +kernel
theorem dL_law_729 : decode cL_law 729 = .ok (.aload_n 1, 1) := by decide +kernel
theorem dL_law_730 : decode cL_law 730 = .ok (.aload_n 0, 1) := by decide +kernel
theorem dL_law_731 : decode cL_law 731 = .ok (.iload_n 3, 1) := by decide +kernel
theorem dL_law_732 : decode cL_law 732 = .ok (.iconst 1, 1) := by decide +kernel
theorem dL_law_733 : decode cL_law 733 = .ok (.iadd, 1) := by decide +kernel
theorem dL_law_734 : decode cL_law 734 = .ok (.iaload, 1) := by decide +kernel
theorem dL_law_735 : decode cL_law 735 = .ok (.invokevirtual 107, 3) := by decide +kernel
theorem dL_law_738 : decode cL_law 738 = .ok (.aload_n 2, 1) := by decide +kernel
theorem dL_law_739 : decode cL_law 739 = .ok (.aload_n 0, 1) := by decide +kernel
theorem dL_law_740 : decode cL_law 740 = .ok (.iload_n 3, 1) := by decide +kernel
theorem dL_law_741 : decode cL_law 741 = .ok (.iconst 1, 1) := by decide +kernel
theorem dL_law_742 : decode cL_law 742 = .ok (.iadd, 1) := by decide +kernel
theorem dL_law_743 : decode cL_law 743 = .ok (.iaload, 1) := by decide +kernel
theorem dL_law_744 : decode cL_law 744 = .ok (.invokevirtual 110, 3) := by decide +kernel
theorem dL_law_747 : decode cL_law 747 = .ok (.if_icmp .eq 64, 3) := by decide +kernel
theorem dL_law_750 : decode cL_law 750 = .ok (.iconst 0, 1) := by decide +kernel
theorem dL_law_751 : decode cL_law 751 = .ok (.ireturn, 1) := by decide +kernel
theorem dL_law_752 : decode cL_law 752 = .ok (.aload_n 1, 1) := by decide +kernel
theorem dL_law_753 : decode cL_law 753 = .ok (.aload_n 0, 1) := by decide +kernel
theorem dL_law_754 : decode cL_law 754 = .ok (.iload_n 3, 1) := by decide +kernel
theorem dL_law_755 : decode cL_law 755 = .ok (.iconst 1, 1) := by decide +kernel
theorem dL_law_756 : decode cL_law 756 = .ok (.iadd, 1) := by decide +kernel
theorem dL_law_757 : decode cL_law 757 = .ok (.iaload, 1) := by decide +kernel
theorem dL_law_758 : decode cL_law 758 = .ok (.invokevirtual 111, 3) := by decide +kernel
theorem dL_law_761 : decode cL_law 761 = .ok (.aload_n 2, 1) := by decide +kernel
theorem dL_law_762 : decode cL_law 762 = .ok (.aload_n 0, 1) := by decide +kernel
theorem dL_law_763 : decode cL_law 763 = .ok (.iload_n 3, 1) := by decide +kernel
theorem dL_law_764 : decode cL_law 764 = .ok (.iconst 1, 1) := by decide +kernel
theorem dL_law_765 : decode cL_law 765 = .ok (.iadd, 1) := by decide +kernel
theorem dL_law_766 : decode cL_law 766 = .ok (.iaload, 1) := by decide +kernel
theorem dL_law_767 : decode cL_law 767 = .ok (.invokevirtual 114, 3) := by decide +kernel
theorem dL_law_770 : decode cL_law 770 = .ok (.if_icmp .eq 41, 3) := by decide +kernel
theorem dL_law_773 : decode cL_law 773 = .ok (.iconst 0, 1) := by decide +kernel
theorem dL_law_774 : decode cL_law 774 = .ok (.ireturn, 1) := by decide +kernel
theorem dL_law_775 : decode cL_law 775 = .ok (.aload_n 1, 1) := by decide +kernel
theorem dL_law_776 : decode cL_law 776 = .ok (.aload_n 0, 1) := by decide +kernel
theorem dL_law_777 : decode cL_law 777 = .ok (.iload_n 3, 1) := by decide +kernel
theorem dL_law_778 : decode cL_law 778 = .ok (.iconst 1, 1) := by decide +kernel
theorem dL_law_779 : decode cL_law 779 = .ok (.iadd, 1) := by decide +kernel
theorem dL_law_780 : decode cL_law 780 = .ok (.iaload, 1) := by decide +kernel
theorem dL_law_781 : decode cL_law 781 = .ok (.invokevirtual 115, 3) := by decide +kernel
theorem dL_law_784 : decode cL_law 784 = .ok (.aload_n 2, 1) := by decide +kernel
theorem dL_law_785 : decode cL_law 785 = .ok (.aload_n 0, 1) := by decide +kernel
theorem dL_law_786 : decode cL_law 786 = .ok (.iload_n 3, 1) := by decide +kernel
theorem dL_law_787 : decode cL_law 787 = .ok (.iconst 1, 1) := by decide +kernel
theorem dL_law_788 : decode cL_law 788 = .ok (.iadd, 1) := by decide +kernel
theorem dL_law_789 : decode cL_law 789 = .ok (.iaload, 1) := by decide +kernel
theorem dL_law_790 : decode cL_law 790 = .ok (.invokevirtual 118, 3) := by decide +kernel
theorem dL_law_793 : decode cL_law 793 = .ok (.if_icmp .eq 18, 3) := by decide +kernel
theorem dL_law_796 : decode cL_law 796 = .ok (.iconst 0, 1) := by decide +kernel
theorem dL_law_797 : decode cL_law 797 = .ok (.ireturn, 1) := by decide +kernel
theorem dL_law_798 : decode cL_law 798 = .ok (.aload_n 1, 1) := by decide +kernel
theorem dL_law_799 : decode cL_law 799 = .ok (.invokevirtual 119, 3) := by decide +kernel
theorem dL_law_802 : decode cL_law 802 = .ok (.aload_n 2, 1) := by decide +kernel
theorem dL_law_803 : decode cL_law 803 = .ok (.invokevirtual 122, 3) := by decide +kernel
theorem dL_law_806 : decode cL_law 806 = .ok (.if_icmp .eq 5, 3) := by decide +kernel
theorem dL_law_809 : decode cL_law 809 = .ok (.iconst 0, 1) := by decide +kernel
theorem dL_law_810 : decode cL_law 810 = .ok (.ireturn, 1) := by decide +kernel
theorem dL_law_811 : decode cL_law 811 = .ok (.iinc 3 6, 3) := by decide +kernel
theorem dL_law_814 : decode cL_law 814 = .ok (.goto (-796), 3) := by decide +kernel
theorem dL_law_817 : decode cL_law 817 = .ok (.iconst 1, 1) := by decide +kernel
theorem dL_law_818 : decode cL_law 818 = .ok (.ireturn, 1) := by decide +kernel
