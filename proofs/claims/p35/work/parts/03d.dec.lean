theorem dL_writes_43 : decode cL_writes 43 = .ok (.if_icmp .ne 7, 3) := by decide +kernel
theorem dL_writes_46 : decode cL_writes 46 = .ok (.iconst 1, 1) := by decide +kernel
theorem dL_writes_47 : decode cL_writes 47 = .ok (.goto 4, 3) := by decide +kernel
theorem dL_writes_50 : decode cL_writes 50 = .ok (.iconst 0, 1) := by decide +kernel
theorem dL_writes_51 : decode cL_writes 51 = .ok (.istore 4, 2) := by decide +kernel
theorem dL_writes_53 : decode cL_writes 53 = .ok (.goto (-50), 3) := by decide +kernel
theorem dL_writes_56 : decode cL_writes 56 = .ok (.aload_n 1, 1) := by decide +kernel
theorem dL_writes_57 : decode cL_writes 57 = .ok (.iconst 1, 1) := by decide +kernel
theorem dL_writes_58 : decode cL_writes 58 = .ok (.iaload, 1) := by decide +kernel
theorem dL_writes_59 : decode cL_writes 59 = .ok (.ifCond .le 40, 3) := by decide +kernel
theorem dL_writes_62 : decode cL_writes 62 = .ok (.aload_n 1, 1) := by decide +kernel
theorem dL_writes_63 : decode cL_writes 63 = .ok (.iconst 0, 1) := by decide +kernel
theorem dL_writes_64 : decode cL_writes 64 = .ok (.iaload, 1) := by decide +kernel
theorem dL_writes_65 : decode cL_writes 65 = .ok (.istore 5, 2) := by decide +kernel
theorem dL_writes_67 : decode cL_writes 67 = .ok (.aload_n 1, 1) := by decide +kernel
theorem dL_writes_68 : decode cL_writes 68 = .ok (.iconst 0, 1) := by decide +kernel
theorem dL_writes_69 : decode cL_writes 69 = .ok (.iconst 0, 1) := by decide +kernel
theorem dL_writes_70 : decode cL_writes 70 = .ok (.iastore, 1) := by decide +kernel
theorem dL_writes_71 : decode cL_writes 71 = .ok (.aload_n 1, 1) := by decide +kernel
theorem dL_writes_72 : decode cL_writes 72 = .ok (.iconst 1, 1) := by decide +kernel
theorem dL_writes_73 : decode cL_writes 73 = .ok (.iconst 0, 1) := by decide +kernel
theorem dL_writes_74 : decode cL_writes 74 = .ok (.iastore, 1) := by decide +kernel
theorem dL_writes_75 : decode cL_writes 75 = .ok (.aload_n 1, 1) := by decide +kernel
theorem dL_writes_76 : decode cL_writes 76 = .ok (.iconst 2, 1) := by decide +kernel
theorem dL_writes_77 : decode cL_writes 77 = .ok (.iconst 0, 1) := by decide +kernel
theorem dL_writes_78 : decode cL_writes 78 = .ok (.iastore, 1) := by decide +kernel
theorem dL_writes_79 : decode cL_writes 79 = .ok (.iload 4, 2) := by decide +kernel
theorem dL_writes_81 : decode cL_writes 81 = .ok (.ifCond .eq 16, 3) := by decide +kernel
theorem dL_writes_84 : decode cL_writes 84 = .ok (.aload_n 0, 1) := by decide +kernel
theorem dL_writes_85 : decode cL_writes 85 = .ok (.invokevirtual 55, 3) := by decide +kernel
theorem dL_writes_88 : decode cL_writes 88 = .ok (.iload 5, 2) := by decide +kernel
theorem dL_writes_90 : decode cL_writes 90 = .ok (.if_icmp .ne 7, 3) := by decide +kernel
theorem dL_writes_93 : decode cL_writes 93 = .ok (.iconst 1, 1) := by decide +kernel
theorem dL_writes_94 : decode cL_writes 94 = .ok (.goto 4, 3) := by decide +kernel
theorem dL_writes_97 : decode cL_writes 97 = .ok (.iconst 0, 1) := by decide +kernel
theorem dL_writes_98 : decode cL_writes 98 = .ok (.ireturn, 1) := by decide +kernel
theorem dL_writes_99 : decode cL_writes 99 = .ok (.aload_n 1, 1) := by decide +kernel
theorem dL_writes_100 : decode cL_writes 100 = .ok (.iconst 3, 1) := by decide +kernel
theorem dL_writes_101 : decode cL_writes 101 = .ok (.iaload, 1) := by decide +kernel
theorem dL_writes_102 : decode cL_writes 102 = .ok (.istore 5, 2) := by decide +kernel
theorem dL_writes_104 : decode cL_writes 104 = .ok (.aload_n 2, 1) := by decide +kernel
theorem dL_writes_105 : decode cL_writes 105 = .ok (.iload 5, 2) := by decide +kernel
theorem dL_writes_107 : decode cL_writes 107 = .ok (.iload_n 3, 1) := by decide +kernel
theorem dL_writes_108 : decode cL_writes 108 = .ok (.iastore, 1) := by decide +kernel
theorem dL_writes_109 : decode cL_writes 109 = .ok (.aload_n 2, 1) := by decide +kernel
theorem dL_writes_110 : decode cL_writes 110 = .ok (.bipush 10, 2) := by decide +kernel
theorem dL_writes_112 : decode cL_writes 112 = .ok (.iload 5, 2) := by decide +kernel
theorem dL_writes_114 : decode cL_writes 114 = .ok (.iadd, 1) := by decide +kernel
theorem dL_writes_115 : decode cL_writes 115 = .ok (.aload_n 1, 1) := by decide +kernel
theorem dL_writes_116 : decode cL_writes 116 = .ok (.iconst 0, 1) := by decide +kernel
theorem dL_writes_117 : decode cL_writes 117 = .ok (.iaload, 1) := by decide +kernel
theorem dL_writes_118 : decode cL_writes 118 = .ok (.iastore, 1) := by decide +kernel
theorem dL_writes_119 : decode cL_writes 119 = .ok (.aload_n 1, 1) := by decide +kernel
theorem dL_writes_120 : decode cL_writes 120 = .ok (.iconst 0, 1) := by decide +kernel
theorem dL_writes_121 : decode cL_writes 121 = .ok (.iconst 0, 1) := by decide +kernel
theorem dL_writes_122 : decode cL_writes 122 = .ok (.iastore, 1) := by decide +kernel
theorem dL_writes_123 : decode cL_writes 123 = .ok (.aload_n 1, 1) := by decide +kernel
theorem dL_writes_124 : decode cL_writes 124 = .ok (.iconst 2, 1) := by decide +kernel
theorem dL_writes_125 : decode cL_writes 125 = .ok (.iconst 0, 1) := by decide +kernel
theorem dL_writes_126 : decode cL_writes 126 = .ok (.iastore, 1) := by decide +kernel
theorem dL_writes_127 : decode cL_writes 127 = .ok (.aload_n 1, 1) := by decide +kernel
theorem dL_writes_128 : decode cL_writes 128 = .ok (.iconst 3, 1) := by decide +kernel
theorem dL_writes_129 : decode cL_writes 129 = .ok (.dup2, 1) := by decide +kernel
theorem dL_writes_130 : decode cL_writes 130 = .ok (.iaload, 1) := by decide +kernel
theorem dL_writes_131 : decode cL_writes 131 = .ok (.iconst 1, 1) := by decide +kernel
theorem dL_writes_132 : decode cL_writes 132 = .ok (.iadd, 1) := by decide +kernel
theorem dL_writes_133 : decode cL_writes 133 = .ok (.iastore, 1) := by decide +kernel
theorem dL_writes_134 : decode cL_writes 134 = .ok (.iload 4, 2) := by decide +kernel
theorem dL_writes_136 : decode cL_writes 136 = .ok (.ifCond .eq 34, 3) := by decide +kernel
theorem dL_writes_139 : decode cL_writes 139 = .ok (.aload_n 0, 1) := by decide +kernel
theorem dL_writes_140 : decode cL_writes 140 = .ok (.iload_n 3, 1) := by decide +kernel
theorem dL_writes_141 : decode cL_writes 141 = .ok (.invokevirtual 92, 3) := by decide +kernel
theorem dL_writes_144 : decode cL_writes 144 = .ok (.iload 5, 2) := by decide +kernel
theorem dL_writes_146 : decode cL_writes 146 = .ok (.if_icmp .ne 24, 3) := by decide +kernel
theorem dL_writes_149 : decode cL_writes 149 = .ok (.aload_n 0, 1) := by decide +kernel
theorem dL_writes_150 : decode cL_writes 150 = .ok (.invokevirtual 52, 3) := by decide +kernel
theorem dL_writes_153 : decode cL_writes 153 = .ok (.ifCond .ne 17, 3) := by decide +kernel
theorem dL_writes_156 : decode cL_writes 156 = .ok (.aload_n 0, 1) := by decide +kernel
theorem dL_writes_157 : decode cL_writes 157 = .ok (.invokevirtual 20, 3) := by decide +kernel
theorem dL_writes_160 : decode cL_writes 160 = .ok (.aload_n 1, 1) := by decide +kernel
theorem dL_writes_161 : decode cL_writes 161 = .ok (.iconst 3, 1) := by decide +kernel
theorem dL_writes_162 : decode cL_writes 162 = .ok (.iaload, 1) := by decide +kernel
theorem dL_writes_163 : decode cL_writes 163 = .ok (.if_icmp .ne 7, 3) := by decide +kernel
theorem dL_writes_166 : decode cL_writes 166 = .ok (.iconst 1, 1) := by decide +kernel
theorem dL_writes_167 : decode cL_writes 167 = .ok (.goto 4, 3) := by decide +kernel
theorem dL_writes_170 : decode cL_writes 170 = .ok (.iconst 0, 1) := by decide +kernel
theorem dL_writes_171 : decode cL_writes 171 = .ok (.istore 4, 2) := by decide +kernel
theorem dL_writes_173 : decode cL_writes 173 = .ok (.iload 4, 2) := by decide +kernel
theorem dL_writes_175 : decode cL_writes 175 = .ok (.ifCond .eq 17, 3) := by decide +kernel
theorem dL_writes_178 : decode cL_writes 178 = .ok (.aload_n 0, 1) := by decide +kernel
theorem dL_writes_179 : decode cL_writes 179 = .ok (.aload_n 2, 1) := by decide +kernel
theorem dL_writes_180 : decode cL_writes 180 = .ok (.iload 5, 2) := by decide +kernel
theorem dL_writes_182 : decode cL_writes 182 = .ok (.invokestatic 95, 3) := by decide +kernel
theorem dL_writes_185 : decode cL_writes 185 = .ok (.ifCond .eq 7, 3) := by decide +kernel
theorem dL_writes_188 : decode cL_writes 188 = .ok (.iconst 1, 1) := by decide +kernel
theorem dL_writes_189 : decode cL_writes 189 = .ok (.goto 4, 3) := by decide +kernel
theorem dL_writes_192 : decode cL_writes 192 = .ok (.iconst 0, 1) := by decide +kernel
theorem dL_writes_193 : decode cL_writes 193 = .ok (.ireturn, 1) := by decide +kernel
theorem dL_isDrawing_0 : decode cL_isDrawing 0 = .ok (.iconst 0, 1) := by decide +kernel
theorem dL_isDrawing_1 : decode cL_isDrawing 1 = .ok (.istore_n 3, 1) := by decide +kernel
theorem dL_isDrawing_2 : decode cL_isDrawing 2 = .ok (.bipush 16, 2) := by decide +kernel
theorem dL_isDrawing_4 : decode cL_isDrawing 4 = .ok (.istore 4, 2) := by decide +kernel
theorem dL_isDrawing_6 : decode cL_isDrawing 6 = .ok (.bipush 16, 2) := by decide +kernel
theorem dL_isDrawing_8 : decode cL_isDrawing 8 = .ok (.istore 5, 2) := by decide +kernel
theorem dL_isDrawing_10 : decode cL_isDrawing 10 = .ok (.iconst (-1), 1) := by decide +kernel
theorem dL_isDrawing_11 : decode cL_isDrawing 11 = .ok (.istore 6, 2) := by decide +kernel
theorem dL_isDrawing_13 : decode cL_isDrawing 13 = .ok (.iconst (-1), 1) := by decide +kernel
theorem dL_isDrawing_14 : decode cL_isDrawing 14 = .ok (.istore 7, 2) := by decide +kernel
theorem dL_isDrawing_16 : decode cL_isDrawing 16 = .ok (.iconst 0, 1) := by decide +kernel
theorem dL_isDrawing_17 : decode cL_isDrawing 17 = .ok (.istore 8, 2) := by decide +kernel
theorem dL_isDrawing_19 : decode cL_isDrawing 19 = .ok (.iload 8, 2) := by decide +kernel
theorem dL_isDrawing_21 : decode cL_isDrawing 21 = .ok (.sipush 256, 3) := by decide +kernel
theorem dL_isDrawing_24 : decode cL_isDrawing 24 = .ok (.if_icmp .ge 187, 3) := by decide +kernel
theorem dL_isDrawing_27 : decode cL_isDrawing 27 = .ok (.iload 8, 2) := by decide +kernel
theorem dL_isDrawing_29 : decode cL_isDrawing 29 = .ok (.bipush 16, 2) := by decide +kernel
theorem dL_isDrawing_31 : decode cL_isDrawing 31 = .ok (.irem, 1) := by decide +kernel
theorem dL_isDrawing_32 : decode cL_isDrawing 32 = .ok (.istore 9, 2) := by decide +kernel
theorem dL_isDrawing_34 : decode cL_isDrawing 34 = .ok (.iload 8, 2) := by decide +kernel
theorem dL_isDrawing_36 : decode cL_isDrawing 36 = .ok (.bipush 16, 2) := by decide +kernel
theorem dL_isDrawing_38 : decode cL_isDrawing 38 = .ok (.idiv, 1) := by decide +kernel
theorem dL_isDrawing_39 : decode cL_isDrawing 39 = .ok (.istore 10, 2) := by decide +kernel
theorem dL_isDrawing_41 : decode cL_isDrawing 41 = .ok (.aload_n 0, 1) := by decide +kernel
theorem dL_isDrawing_42 : decode cL_isDrawing 42 = .ok (.iload_n 2, 1) := by decide +kernel
theorem dL_isDrawing_43 : decode cL_isDrawing 43 = .ok (.iload 9, 2) := by decide +kernel
theorem dL_isDrawing_45 : decode cL_isDrawing 45 = .ok (.iload 10, 2) := by decide +kernel
theorem dL_isDrawing_47 : decode cL_isDrawing 47 = .ok (.iconst 0, 1) := by decide +kernel
theorem dL_isDrawing_48 : decode cL_isDrawing 48 = .ok (.invokevirtual 99, 3) := by decide +kernel
theorem dL_isDrawing_51 : decode cL_isDrawing 51 = .ok (.istore 11, 2) := by decide +kernel
theorem dL_isDrawing_53 : decode cL_isDrawing 53 = .ok (.aload_n 0, 1) := by decide +kernel
theorem dL_isDrawing_54 : decode cL_isDrawing 54 = .ok (.iload_n 2, 1) := by decide +kernel
theorem dL_isDrawing_55 : decode cL_isDrawing 55 = .ok (.iload 9, 2) := by decide +kernel
theorem dL_isDrawing_57 : decode cL_isDrawing 57 = .ok (.iload 10, 2) := by decide +kernel
theorem dL_isDrawing_59 : decode cL_isDrawing 59 = .ok (.iconst 1, 1) := by decide +kernel
theorem dL_isDrawing_60 : decode cL_isDrawing 60 = .ok (.invokevirtual 99, 3) := by decide +kernel
theorem dL_isDrawing_63 : decode cL_isDrawing 63 = .ok (.istore 12, 2) := by decide +kernel
theorem dL_isDrawing_65 : decode cL_isDrawing 65 = .ok (.iload_n 3, 1) := by decide +kernel
theorem dL_isDrawing_66 : decode cL_isDrawing 66 = .ok (.iload 11, 2) := by decide +kernel
theorem dL_isDrawing_68 : decode cL_isDrawing 68 = .ok (.ifCond .eq 7, 3) := by decide +kernel
theorem dL_isDrawing_71 : decode cL_isDrawing 71 = .ok (.iconst 1, 1) := by decide +kernel
theorem dL_isDrawing_72 : decode cL_isDrawing 72 = .ok (.goto 4, 3) := by decide +kernel
theorem dL_isDrawing_75 : decode cL_isDrawing 75 = .ok (.iconst 0, 1) := by decide +kernel
theorem dL_isDrawing_76 : decode cL_isDrawing 76 = .ok (.iload 12, 2) := by decide +kernel
theorem dL_isDrawing_78 : decode cL_isDrawing 78 = .ok (.ifCond .eq 7, 3) := by decide +kernel
theorem dL_isDrawing_81 : decode cL_isDrawing 81 = .ok (.iconst 1, 1) := by decide +kernel
theorem dL_isDrawing_82 : decode cL_isDrawing 82 = .ok (.goto 4, 3) := by decide +kernel
theorem dL_isDrawing_85 : decode cL_isDrawing 85 = .ok (.iconst 0, 1) := by decide +kernel
theorem dL_isDrawing_86 : decode cL_isDrawing 86 = .ok (.iadd, 1) := by decide +kernel
theorem dL_isDrawing_87 : decode cL_isDrawing 87 = .ok (.iadd, 1) := by decide +kernel
theorem dL_isDrawing_88 : decode cL_isDrawing 88 = .ok (.istore_n 3, 1) := by decide +kernel
theorem dL_isDrawing_89 : decode cL_isDrawing 89 = .ok (.iload 11, 2) := by decide +kernel
theorem dL_isDrawing_91 : decode cL_isDrawing 91 = .ok (.ifCond .ne 8, 3) := by decide +kernel
theorem dL_isDrawing_94 : decode cL_isDrawing 94 = .ok (.iload 12, 2) := by decide +kernel
theorem dL_isDrawing_96 : decode cL_isDrawing 96 = .ok (.ifCond .eq 109, 3) := by decide +kernel
theorem dL_isDrawing_99 : decode cL_isDrawing 99 = .ok (.iload 9, 2) := by decide +kernel
theorem dL_isDrawing_101 : decode cL_isDrawing 101 = .ok (.iload 4, 2) := by decide +kernel
theorem dL_isDrawing_103 : decode cL_isDrawing 103 = .ok (.if_icmp .ge 8, 3) := by decide +kernel
theorem dL_isDrawing_106 : decode cL_isDrawing 106 = .ok (.iload 9, 2) := by decide +kernel
theorem dL_isDrawing_108 : decode cL_isDrawing 108 = .ok (.goto 5, 3) := by decide +kernel
theorem dL_isDrawing_111 : decode cL_isDrawing 111 = .ok (.iload 4, 2) := by decide +kernel
theorem dL_isDrawing_113 : decode cL_isDrawing 113 = .ok (.istore 4, 2) := by decide +kernel
theorem dL_isDrawing_115 : decode cL_isDrawing 115 = .ok (.iload 10, 2) := by decide +kernel
theorem dL_isDrawing_117 : decode cL_isDrawing 117 = .ok (.iload 5, 2) := by decide +kernel
theorem dL_isDrawing_119 : decode cL_isDrawing 119 = .ok (.if_icmp .ge 8, 3) := by decide +kernel
theorem dL_isDrawing_122 : decode cL_isDrawing 122 = .ok (.iload 10, 2) := by decide +kernel
theorem dL_isDrawing_124 : decode cL_isDrawing 124 = .ok (.goto 5, 3) := by decide +kernel
theorem dL_isDrawing_127 : decode cL_isDrawing 127 = .ok (.iload 5, 2) := by decide +kernel
theorem dL_isDrawing_129 : decode cL_isDrawing 129 = .ok (.istore 5, 2) := by decide +kernel
theorem dL_isDrawing_131 : decode cL_isDrawing 131 = .ok (.iload 11, 2) := by decide +kernel
theorem dL_isDrawing_133 : decode cL_isDrawing 133 = .ok (.ifCond .eq 19, 3) := by decide +kernel
theorem dL_isDrawing_136 : decode cL_isDrawing 136 = .ok (.iload 9, 2) := by decide +kernel
theorem dL_isDrawing_138 : decode cL_isDrawing 138 = .ok (.iconst 1, 1) := by decide +kernel
theorem dL_isDrawing_139 : decode cL_isDrawing 139 = .ok (.iadd, 1) := by decide +kernel
theorem dL_isDrawing_140 : decode cL_isDrawing 140 = .ok (.iload 6, 2) := by decide +kernel
theorem dL_isDrawing_142 : decode cL_isDrawing 142 = .ok (.if_icmp .le 10, 3) := by decide +kernel
theorem dL_isDrawing_145 : decode cL_isDrawing 145 = .ok (.iload 9, 2) := by decide +kernel
theorem dL_isDrawing_147 : decode cL_isDrawing 147 = .ok (.iconst 1, 1) := by decide +kernel
theorem dL_isDrawing_148 : decode cL_isDrawing 148 = .ok (.iadd, 1) := by decide +kernel
theorem dL_isDrawing_149 : decode cL_isDrawing 149 = .ok (.goto 17, 3) := by decide +kernel
theorem dL_isDrawing_152 : decode cL_isDrawing 152 = .ok (.iload 9, 2) := by decide +kernel
theorem dL_isDrawing_154 : decode cL_isDrawing 154 = .ok (.iload 6, 2) := by decide +kernel
theorem dL_isDrawing_156 : decode cL_isDrawing 156 = .ok (.if_icmp .le 8, 3) := by decide +kernel
theorem dL_isDrawing_159 : decode cL_isDrawing 159 = .ok (.iload 9, 2) := by decide +kernel
theorem dL_isDrawing_161 : decode cL_isDrawing 161 = .ok (.goto 5, 3) := by decide +kernel
theorem dL_isDrawing_164 : decode cL_isDrawing 164 = .ok (.iload 6, 2) := by decide +kernel
theorem dL_isDrawing_166 : decode cL_isDrawing 166 = .ok (.istore 6, 2) := by decide +kernel
theorem dL_isDrawing_168 : decode cL_isDrawing 168 = .ok (.iload 12, 2) := by decide +kernel
theorem dL_isDrawing_170 : decode cL_isDrawing 170 = .ok (.ifCond .eq 19, 3) := by decide +kernel
theorem dL_isDrawing_173 : decode cL_isDrawing 173 = .ok (.iload 10, 2) := by decide +kernel
theorem dL_isDrawing_175 : decode cL_isDrawing 175 = .ok (.iconst 1, 1) := by decide +kernel
theorem dL_isDrawing_176 : decode cL_isDrawing 176 = .ok (.iadd, 1) := by decide +kernel
theorem dL_isDrawing_177 : decode cL_isDrawing 177 = .ok (.iload 7, 2) := by decide +kernel
theorem dL_isDrawing_179 : decode cL_isDrawing 179 = .ok (.if_icmp .le 10, 3) := by decide +kernel
theorem dL_isDrawing_182 : decode cL_isDrawing 182 = .ok (.iload 10, 2) := by decide +kernel
theorem dL_isDrawing_184 : decode cL_isDrawing 184 = .ok (.iconst 1, 1) := by decide +kernel
theorem dL_isDrawing_185 : decode cL_isDrawing 185 = .ok (.iadd, 1) := by decide +kernel
theorem dL_isDrawing_186 : decode cL_isDrawing 186 = .ok (.goto 17, 3) := by decide +kernel
theorem dL_isDrawing_189 : decode cL_isDrawing 189 = .ok (.iload 10, 2) := by decide +kernel
theorem dL_isDrawing_191 : decode cL_isDrawing 191 = .ok (.iload 7, 2) := by decide +kernel
theorem dL_isDrawing_193 : decode cL_isDrawing 193 = .ok (.if_icmp .le 8, 3) := by decide +kernel
theorem dL_isDrawing_196 : decode cL_isDrawing 196 = .ok (.iload 10, 2) := by decide +kernel
theorem dL_isDrawing_198 : decode cL_isDrawing 198 = .ok (.goto 5, 3) := by decide +kernel
theorem dL_isDrawing_201 : decode cL_isDrawing 201 = .ok (.iload 7, 2) := by decide +kernel
theorem dL_isDrawing_203 : decode cL_isDrawing 203 = .ok (.istore 7, 2) := by decide +kernel
theorem dL_isDrawing_205 : decode cL_isDrawing 205 = .ok (.iinc 8 1, 3) := by decide +kernel
theorem dL_isDrawing_208 : decode cL_isDrawing 208 = .ok (.goto (-189), 3) := by decide +kernel
theorem dL_isDrawing_211 : decode cL_isDrawing 211 = .ok (.aload_n 1, 1) := by decide +kernel
theorem dL_isDrawing_212 : decode cL_isDrawing 212 = .ok (.bipush 20, 2) := by decide +kernel
theorem dL_isDrawing_214 : decode cL_isDrawing 214 = .ok (.iload_n 2, 1) := by decide +kernel
theorem dL_isDrawing_215 : decode cL_isDrawing 215 = .ok (.iadd, 1) := by decide +kernel
theorem dL_isDrawing_216 : decode cL_isDrawing 216 = .ok (.iload_n 3, 1) := by decide +kernel
theorem dL_isDrawing_217 : decode cL_isDrawing 217 = .ok (.ifCond .ne 7, 3) := by decide +kernel
theorem dL_isDrawing_220 : decode cL_isDrawing 220 = .ok (.iconst 0, 1) := by decide +kernel
theorem dL_isDrawing_221 : decode cL_isDrawing 221 = .ok (.goto 5, 3) := by decide +kernel
theorem dL_isDrawing_224 : decode cL_isDrawing 224 = .ok (.iload 4, 2) := by decide +kernel
theorem dL_isDrawing_226 : decode cL_isDrawing 226 = .ok (.iastore, 1) := by decide +kernel
theorem dL_isDrawing_227 : decode cL_isDrawing 227 = .ok (.aload_n 1, 1) := by decide +kernel
theorem dL_isDrawing_228 : decode cL_isDrawing 228 = .ok (.bipush 30, 2) := by decide +kernel
theorem dL_isDrawing_230 : decode cL_isDrawing 230 = .ok (.iload_n 2, 1) := by decide +kernel
theorem dL_isDrawing_231 : decode cL_isDrawing 231 = .ok (.iadd, 1) := by decide +kernel
theorem dL_isDrawing_232 : decode cL_isDrawing 232 = .ok (.iload_n 3, 1) := by decide +kernel
theorem dL_isDrawing_233 : decode cL_isDrawing 233 = .ok (.ifCond .ne 7, 3) := by decide +kernel
theorem dL_isDrawing_236 : decode cL_isDrawing 236 = .ok (.iconst 0, 1) := by decide +kernel
theorem dL_isDrawing_237 : decode cL_isDrawing 237 = .ok (.goto 5, 3) := by decide +kernel
theorem dL_isDrawing_240 : decode cL_isDrawing 240 = .ok (.iload 5, 2) := by decide +kernel
theorem dL_isDrawing_242 : decode cL_isDrawing 242 = .ok (.iastore, 1) := by decide +kernel
theorem dL_isDrawing_243 : decode cL_isDrawing 243 = .ok (.aload_n 1, 1) := by decide +kernel
theorem dL_isDrawing_244 : decode cL_isDrawing 244 = .ok (.bipush 40, 2) := by decide +kernel
theorem dL_isDrawing_246 : decode cL_isDrawing 246 = .ok (.iload_n 2, 1) := by decide +kernel
theorem dL_isDrawing_247 : decode cL_isDrawing 247 = .ok (.iadd, 1) := by decide +kernel
theorem dL_isDrawing_248 : decode cL_isDrawing 248 = .ok (.iload_n 3, 1) := by decide +kernel
theorem dL_isDrawing_249 : decode cL_isDrawing 249 = .ok (.ifCond .ne 7, 3) := by decide +kernel
theorem dL_isDrawing_252 : decode cL_isDrawing 252 = .ok (.iconst 0, 1) := by decide +kernel
theorem dL_isDrawing_253 : decode cL_isDrawing 253 = .ok (.goto 8, 3) := by decide +kernel
theorem dL_isDrawing_256 : decode cL_isDrawing 256 = .ok (.iload 6, 2) := by decide +kernel
theorem dL_isDrawing_258 : decode cL_isDrawing 258 = .ok (.iload 4, 2) := by decide +kernel
theorem dL_isDrawing_260 : decode cL_isDrawing 260 = .ok (.isub, 1) := by decide +kernel
theorem dL_isDrawing_261 : decode cL_isDrawing 261 = .ok (.iastore, 1) := by decide +kernel
theorem dL_isDrawing_262 : decode cL_isDrawing 262 = .ok (.aload_n 1, 1) := by decide +kernel
theorem dL_isDrawing_263 : decode cL_isDrawing 263 = .ok (.bipush 50, 2) := by decide +kernel
theorem dL_isDrawing_265 : decode cL_isDrawing 265 = .ok (.iload_n 2, 1) := by decide +kernel
theorem dL_isDrawing_266 : decode cL_isDrawing 266 = .ok (.iadd, 1) := by decide +kernel
theorem dL_isDrawing_267 : decode cL_isDrawing 267 = .ok (.iload_n 3, 1) := by decide +kernel
theorem dL_isDrawing_268 : decode cL_isDrawing 268 = .ok (.ifCond .ne 7, 3) := by decide +kernel
theorem dL_isDrawing_271 : decode cL_isDrawing 271 = .ok (.iconst 0, 1) := by decide +kernel
theorem dL_isDrawing_272 : decode cL_isDrawing 272 = .ok (.goto 8, 3) := by decide +kernel
theorem dL_isDrawing_275 : decode cL_isDrawing 275 = .ok (.iload 7, 2) := by decide +kernel
theorem dL_isDrawing_277 : decode cL_isDrawing 277 = .ok (.iload 5, 2) := by decide +kernel
theorem dL_isDrawing_279 : decode cL_isDrawing 279 = .ok (.isub, 1) := by decide +kernel
theorem dL_isDrawing_280 : decode cL_isDrawing 280 = .ok (.iastore, 1) := by decide +kernel
theorem dL_isDrawing_281 : decode cL_isDrawing 281 = .ok (.aload_n 0, 1) := by decide +kernel
theorem dL_isDrawing_282 : decode cL_isDrawing 282 = .ok (.iload_n 2, 1) := by decide +kernel
theorem dL_isDrawing_283 : decode cL_isDrawing 283 = .ok (.invokevirtual 103, 3) := by decide +kernel
theorem dL_isDrawing_286 : decode cL_isDrawing 286 = .ok (.istore 8, 2) := by decide +kernel
theorem dL_isDrawing_288 : decode cL_isDrawing 288 = .ok (.iconst 0, 1) := by decide +kernel
theorem dL_isDrawing_289 : decode cL_isDrawing 289 = .ok (.istore 9, 2) := by decide +kernel
theorem dL_isDrawing_291 : decode cL_isDrawing 291 = .ok (.aload_n 0, 1) := by decide +kernel
theorem dL_isDrawing_292 : decode cL_isDrawing 292 = .ok (.iload_n 2, 1) := by decide +kernel
theorem dL_isDrawing_293 : decode cL_isDrawing 293 = .ok (.invokevirtual 106, 3) := by decide +kernel
theorem dL_isDrawing_296 : decode cL_isDrawing 296 = .ok (.iload_n 3, 1) := by decide +kernel
theorem dL_isDrawing_297 : decode cL_isDrawing 297 = .ok (.if_icmp .ne 84, 3) := by decide +kernel
theorem dL_isDrawing_300 : decode cL_isDrawing 300 = .ok (.iload 8, 2) := by decide +kernel
theorem dL_isDrawing_302 : decode cL_isDrawing 302 = .ok (.sipush 600, 3) := by decide +kernel
theorem dL_isDrawing_305 : decode cL_isDrawing 305 = .ok (.if_icmp .gt 76, 3) := by decide +kernel
theorem dL_isDrawing_308 : decode cL_isDrawing 308 = .ok (.iload_n 3, 1) := by decide +kernel
theorem dL_isDrawing_309 : decode cL_isDrawing 309 = .ok (.iload 8, 2) := by decide +kernel
theorem dL_isDrawing_311 : decode cL_isDrawing 311 = .ok (.if_icmp .gt 70, 3) := by decide +kernel
theorem dL_isDrawing_314 : decode cL_isDrawing 314 = .ok (.iload 6, 2) := by decide +kernel
theorem dL_isDrawing_316 : decode cL_isDrawing 316 = .ok (.bipush 16, 2) := by decide +kernel
theorem dL_isDrawing_318 : decode cL_isDrawing 318 = .ok (.if_icmp .ge 63, 3) := by decide +kernel
theorem dL_isDrawing_321 : decode cL_isDrawing 321 = .ok (.iload 7, 2) := by decide +kernel
theorem dL_isDrawing_323 : decode cL_isDrawing 323 = .ok (.bipush 16, 2) := by decide +kernel
theorem dL_isDrawing_325 : decode cL_isDrawing 325 = .ok (.if_icmp .ge 56, 3) := by decide +kernel
theorem dL_isDrawing_328 : decode cL_isDrawing 328 = .ok (.aload_n 0, 1) := by decide +kernel
theorem dL_isDrawing_329 : decode cL_isDrawing 329 = .ok (.iload_n 2, 1) := by decide +kernel
theorem dL_isDrawing_330 : decode cL_isDrawing 330 = .ok (.invokevirtual 109, 3) := by decide +kernel
theorem dL_isDrawing_333 : decode cL_isDrawing 333 = .ok (.iconst 1, 1) := by decide +kernel
theorem dL_isDrawing_334 : decode cL_isDrawing 334 = .ok (.if_icmp .ne 11, 3) := by decide +kernel
theorem dL_isDrawing_337 : decode cL_isDrawing 337 = .ok (.iload 8, 2) := by decide +kernel
theorem dL_isDrawing_339 : decode cL_isDrawing 339 = .ok (.sipush 600, 3) := by decide +kernel
theorem dL_isDrawing_342 : decode cL_isDrawing 342 = .ok (.if_icmp .ne 39, 3) := by decide +kernel
theorem dL_isDrawing_345 : decode cL_isDrawing 345 = .ok (.aload_n 0, 1) := by decide +kernel
theorem dL_isDrawing_346 : decode cL_isDrawing 346 = .ok (.iload_n 2, 1) := by decide +kernel
theorem dL_isDrawing_347 : decode cL_isDrawing 347 = .ok (.iconst 0, 1) := by decide +kernel
theorem dL_isDrawing_348 : decode cL_isDrawing 348 = .ok (.invokevirtual 112, 3) := by decide +kernel
theorem dL_isDrawing_351 : decode cL_isDrawing 351 = .ok (.ifCond .ne 30, 3) := by decide +kernel
theorem dL_isDrawing_354 : decode cL_isDrawing 354 = .ok (.aload_n 0, 1) := by decide +kernel
theorem dL_isDrawing_355 : decode cL_isDrawing 355 = .ok (.iload_n 2, 1) := by decide +kernel
theorem dL_isDrawing_356 : decode cL_isDrawing 356 = .ok (.sipush 600, 3) := by decide +kernel
theorem dL_isDrawing_359 : decode cL_isDrawing 359 = .ok (.invokevirtual 112, 3) := by decide +kernel
theorem dL_isDrawing_362 : decode cL_isDrawing 362 = .ok (.iload_n 3, 1) := by decide +kernel
theorem dL_isDrawing_363 : decode cL_isDrawing 363 = .ok (.if_icmp .ne 18, 3) := by decide +kernel
theorem dL_isDrawing_366 : decode cL_isDrawing 366 = .ok (.aload_n 0, 1) := by decide +kernel
theorem dL_isDrawing_367 : decode cL_isDrawing 367 = .ok (.iload_n 2, 1) := by decide +kernel
theorem dL_isDrawing_368 : decode cL_isDrawing 368 = .ok (.iload 8, 2) := by decide +kernel
theorem dL_isDrawing_370 : decode cL_isDrawing 370 = .ok (.invokevirtual 112, 3) := by decide +kernel
theorem dL_isDrawing_373 : decode cL_isDrawing 373 = .ok (.iload_n 3, 1) := by decide +kernel
theorem dL_isDrawing_374 : decode cL_isDrawing 374 = .ok (.if_icmp .ne 7, 3) := by decide +kernel
theorem dL_isDrawing_377 : decode cL_isDrawing 377 = .ok (.iconst 1, 1) := by decide +kernel
theorem dL_isDrawing_378 : decode cL_isDrawing 378 = .ok (.goto 4, 3) := by decide +kernel
theorem dL_isDrawing_381 : decode cL_isDrawing 381 = .ok (.iconst 0, 1) := by decide +kernel
theorem dL_isDrawing_382 : decode cL_isDrawing 382 = .ok (.istore 10, 2) := by decide +kernel
theorem dL_isDrawing_384 : decode cL_isDrawing 384 = .ok (.iconst 1, 1) := by decide +kernel
theorem dL_isDrawing_385 : decode cL_isDrawing 385 = .ok (.istore 11, 2) := by decide +kernel
theorem dL_isDrawing_387 : decode cL_isDrawing 387 = .ok (.iload 11, 2) := by decide +kernel
theorem dL_isDrawing_389 : decode cL_isDrawing 389 = .ok (.bipush 9, 2) := by decide +kernel
theorem dL_isDrawing_391 : decode cL_isDrawing 391 = .ok (.if_icmp .ge 50, 3) := by decide +kernel
theorem dL_isDrawing_394 : decode cL_isDrawing 394 = .ok (.iload 10, 2) := by decide +kernel
theorem dL_isDrawing_396 : decode cL_isDrawing 396 = .ok (.ifCond .eq 45, 3) := by decide +kernel
theorem dL_isDrawing_399 : decode cL_isDrawing 399 = .ok (.aload_n 0, 1) := by decide +kernel
theorem dL_isDrawing_400 : decode cL_isDrawing 400 = .ok (.iload_n 2, 1) := by decide +kernel
theorem dL_isDrawing_401 : decode cL_isDrawing 401 = .ok (.iload 11, 2) := by decide +kernel
theorem dL_isDrawing_403 : decode cL_isDrawing 403 = .ok (.invokevirtual 112, 3) := by decide +kernel
theorem dL_isDrawing_406 : decode cL_isDrawing 406 = .ok (.istore 12, 2) := by decide +kernel
theorem dL_isDrawing_408 : decode cL_isDrawing 408 = .ok (.iload 12, 2) := by decide +kernel
theorem dL_isDrawing_410 : decode cL_isDrawing 410 = .ok (.iload 9, 2) := by decide +kernel
theorem dL_isDrawing_412 : decode cL_isDrawing 412 = .ok (.if_icmp .lt 16, 3) := by decide +kernel
theorem dL_isDrawing_415 : decode cL_isDrawing 415 = .ok (.iload 12, 2) := by decide +kernel
theorem dL_isDrawing_417 : decode cL_isDrawing 417 = .ok (.iload 9, 2) := by decide +kernel
theorem dL_isDrawing_419 : decode cL_isDrawing 419 = .ok (.iconst 1, 1) := by decide +kernel
theorem dL_isDrawing_420 : decode cL_isDrawing 420 = .ok (.iadd, 1) := by decide +kernel
theorem dL_isDrawing_421 : decode cL_isDrawing 421 = .ok (.if_icmp .gt 7, 3) := by decide +kernel
theorem dL_isDrawing_424 : decode cL_isDrawing 424 = .ok (.iconst 1, 1) := by decide +kernel
theorem dL_isDrawing_425 : decode cL_isDrawing 425 = .ok (.goto 4, 3) := by decide +kernel
theorem dL_isDrawing_428 : decode cL_isDrawing 428 = .ok (.iconst 0, 1) := by decide +kernel
theorem dL_isDrawing_429 : decode cL_isDrawing 429 = .ok (.istore 10, 2) := by decide +kernel
theorem dL_isDrawing_431 : decode cL_isDrawing 431 = .ok (.iload 12, 2) := by decide +kernel
theorem dL_isDrawing_433 : decode cL_isDrawing 433 = .ok (.istore 9, 2) := by decide +kernel
theorem dL_isDrawing_435 : decode cL_isDrawing 435 = .ok (.iinc 11 1, 3) := by decide +kernel
theorem dL_isDrawing_438 : decode cL_isDrawing 438 = .ok (.goto (-51), 3) := by decide +kernel
theorem dL_isDrawing_441 : decode cL_isDrawing 441 = .ok (.iload 10, 2) := by decide +kernel
theorem dL_isDrawing_443 : decode cL_isDrawing 443 = .ok (.ireturn, 1) := by decide +kernel
theorem dL_isAlike_0 : decode cL_isAlike 0 = .ok (.aload_n 0, 1) := by decide +kernel
theorem dL_isAlike_1 : decode cL_isAlike 1 = .ok (.iload_n 2, 1) := by decide +kernel
theorem dL_isAlike_2 : decode cL_isAlike 2 = .ok (.invokevirtual 106, 3) := by decide +kernel
theorem dL_isAlike_5 : decode cL_isAlike 5 = .ok (.aload_n 0, 1) := by decide +kernel
theorem dL_isAlike_6 : decode cL_isAlike 6 = .ok (.iload_n 3, 1) := by decide +kernel
theorem dL_isAlike_7 : decode cL_isAlike 7 = .ok (.invokevirtual 106, 3) := by decide +kernel
theorem dL_isAlike_10 : decode cL_isAlike 10 = .ok (.if_icmp .ne 37, 3) := by decide +kernel
theorem dL_isAlike_13 : decode cL_isAlike 13 = .ok (.aload_n 1, 1) := by decide +kernel
theorem dL_isAlike_14 : decode cL_isAlike 14 = .ok (.bipush 40, 2) := by decide +kernel
theorem dL_isAlike_16 : decode cL_isAlike 16 = .ok (.iload_n 2, 1) := by decide +kernel
theorem dL_isAlike_17 : decode cL_isAlike 17 = .ok (.iadd, 1) := by decide +kernel
theorem dL_isAlike_18 : decode cL_isAlike 18 = .ok (.iaload, 1) := by decide +kernel
theorem dL_isAlike_19 : decode cL_isAlike 19 = .ok (.aload_n 1, 1) := by decide +kernel
theorem dL_isAlike_20 : decode cL_isAlike 20 = .ok (.bipush 40, 2) := by decide +kernel
theorem dL_isAlike_22 : decode cL_isAlike 22 = .ok (.iload_n 3, 1) := by decide +kernel
theorem dL_isAlike_23 : decode cL_isAlike 23 = .ok (.iadd, 1) := by decide +kernel
theorem dL_isAlike_24 : decode cL_isAlike 24 = .ok (.iaload, 1) := by decide +kernel
theorem dL_isAlike_25 : decode cL_isAlike 25 = .ok (.if_icmp .ne 22, 3) := by decide +kernel
theorem dL_isAlike_28 : decode cL_isAlike 28 = .ok (.aload_n 1, 1) := by decide +kernel
theorem dL_isAlike_29 : decode cL_isAlike 29 = .ok (.bipush 50, 2) := by decide +kernel
theorem dL_isAlike_31 : decode cL_isAlike 31 = .ok (.iload_n 2, 1) := by decide +kernel
theorem dL_isAlike_32 : decode cL_isAlike 32 = .ok (.iadd, 1) := by decide +kernel
theorem dL_isAlike_33 : decode cL_isAlike 33 = .ok (.iaload, 1) := by decide +kernel
theorem dL_isAlike_34 : decode cL_isAlike 34 = .ok (.aload_n 1, 1) := by decide +kernel
theorem dL_isAlike_35 : decode cL_isAlike 35 = .ok (.bipush 50, 2) := by decide +kernel
theorem dL_isAlike_37 : decode cL_isAlike 37 = .ok (.iload_n 3, 1) := by decide +kernel
theorem dL_isAlike_38 : decode cL_isAlike 38 = .ok (.iadd, 1) := by decide +kernel
theorem dL_isAlike_39 : decode cL_isAlike 39 = .ok (.iaload, 1) := by decide +kernel
theorem dL_isAlike_40 : decode cL_isAlike 40 = .ok (.if_icmp .ne 7, 3) := by decide +kernel
theorem dL_isAlike_43 : decode cL_isAlike 43 = .ok (.iconst 1, 1) := by decide +kernel
theorem dL_isAlike_44 : decode cL_isAlike 44 = .ok (.goto 4, 3) := by decide +kernel
theorem dL_isAlike_47 : decode cL_isAlike 47 = .ok (.iconst 0, 1) := by decide +kernel
theorem dL_isAlike_48 : decode cL_isAlike 48 = .ok (.istore 4, 2) := by decide +kernel
theorem dL_isAlike_50 : decode cL_isAlike 50 = .ok (.iconst 0, 1) := by decide +kernel
theorem dL_isAlike_51 : decode cL_isAlike 51 = .ok (.istore 5, 2) := by decide +kernel
theorem dL_isAlike_53 : decode cL_isAlike 53 = .ok (.iload 5, 2) := by decide +kernel
theorem dL_isAlike_55 : decode cL_isAlike 55 = .ok (.aload_n 1, 1) := by decide +kernel
theorem dL_isAlike_56 : decode cL_isAlike 56 = .ok (.bipush 40, 2) := by decide +kernel
theorem dL_isAlike_58 : decode cL_isAlike 58 = .ok (.iload_n 2, 1) := by decide +kernel
theorem dL_isAlike_59 : decode cL_isAlike 59 = .ok (.iadd, 1) := by decide +kernel
theorem dL_isAlike_60 : decode cL_isAlike 60 = .ok (.iaload, 1) := by decide +kernel
theorem dL_isAlike_61 : decode cL_isAlike 61 = .ok (.iconst 1, 1) := by decide +kernel
theorem dL_isAlike_62 : decode cL_isAlike 62 = .ok (.iadd, 1) := by decide +kernel
theorem dL_isAlike_63 : decode cL_isAlike 63 = .ok (.aload_n 1, 1) := by decide +kernel
theorem dL_isAlike_64 : decode cL_isAlike 64 = .ok (.bipush 50, 2) := by decide +kernel
theorem dL_isAlike_66 : decode cL_isAlike 66 = .ok (.iload_n 2, 1) := by decide +kernel
theorem dL_isAlike_67 : decode cL_isAlike 67 = .ok (.iadd, 1) := by decide +kernel
theorem dL_isAlike_68 : decode cL_isAlike 68 = .ok (.iaload, 1) := by decide +kernel
theorem dL_isAlike_69 : decode cL_isAlike 69 = .ok (.iconst 1, 1) := by decide +kernel
theorem dL_isAlike_70 : decode cL_isAlike 70 = .ok (.iadd, 1) := by decide +kernel
theorem dL_isAlike_71 : decode cL_isAlike 71 = .ok (.imul, 1) := by decide +kernel
theorem dL_isAlike_72 : decode cL_isAlike 72 = .ok (.if_icmp .ge 138, 3) := by decide +kernel
theorem dL_isAlike_75 : decode cL_isAlike 75 = .ok (.iload 4, 2) := by decide +kernel
theorem dL_isAlike_77 : decode cL_isAlike 77 = .ok (.ifCond .eq 133, 3) := by decide +kernel
theorem dL_isAlike_80 : decode cL_isAlike 80 = .ok (.iload 5, 2) := by decide +kernel
theorem dL_isAlike_82 : decode cL_isAlike 82 = .ok (.aload_n 1, 1) := by decide +kernel
theorem dL_isAlike_83 : decode cL_isAlike 83 = .ok (.bipush 40, 2) := by decide +kernel
theorem dL_isAlike_85 : decode cL_isAlike 85 = .ok (.iload_n 2, 1) := by decide +kernel
theorem dL_isAlike_86 : decode cL_isAlike 86 = .ok (.iadd, 1) := by decide +kernel
theorem dL_isAlike_87 : decode cL_isAlike 87 = .ok (.iaload, 1) := by decide +kernel
theorem dL_isAlike_88 : decode cL_isAlike 88 = .ok (.iconst 1, 1) := by decide +kernel
theorem dL_isAlike_89 : decode cL_isAlike 89 = .ok (.iadd, 1) := by decide +kernel
theorem dL_isAlike_90 : decode cL_isAlike 90 = .ok (.irem, 1) := by decide +kernel
theorem dL_isAlike_91 : decode cL_isAlike 91 = .ok (.istore 6, 2) := by decide +kernel
theorem dL_isAlike_93 : decode cL_isAlike 93 = .ok (.iload 5, 2) := by decide +kernel
theorem dL_isAlike_95 : decode cL_isAlike 95 = .ok (.aload_n 1, 1) := by decide +kernel
theorem dL_isAlike_96 : decode cL_isAlike 96 = .ok (.bipush 40, 2) := by decide +kernel
theorem dL_isAlike_98 : decode cL_isAlike 98 = .ok (.iload_n 2, 1) := by decide +kernel
theorem dL_isAlike_99 : decode cL_isAlike 99 = .ok (.iadd, 1) := by decide +kernel
theorem dL_isAlike_100 : decode cL_isAlike 100 = .ok (.iaload, 1) := by decide +kernel
theorem dL_isAlike_101 : decode cL_isAlike 101 = .ok (.iconst 1, 1) := by decide +kernel
theorem dL_isAlike_102 : decode cL_isAlike 102 = .ok (.iadd, 1) := by decide +kernel
theorem dL_isAlike_103 : decode cL_isAlike 103 = .ok (.idiv, 1) := by decide +kernel
theorem dL_isAlike_104 : decode cL_isAlike 104 = .ok (.istore 7, 2) := by decide +kernel
theorem dL_isAlike_106 : decode cL_isAlike 106 = .ok (.iconst 0, 1) := by decide +kernel
theorem dL_isAlike_107 : decode cL_isAlike 107 = .ok (.istore 8, 2) := by decide +kernel
theorem dL_isAlike_109 : decode cL_isAlike 109 = .ok (.iload 8, 2) := by decide +kernel
theorem dL_isAlike_111 : decode cL_isAlike 111 = .ok (.iconst 2, 1) := by decide +kernel
theorem dL_isAlike_112 : decode cL_isAlike 112 = .ok (.if_icmp .ge 92, 3) := by decide +kernel
theorem dL_isAlike_115 : decode cL_isAlike 115 = .ok (.iload 4, 2) := by decide +kernel
theorem dL_isAlike_117 : decode cL_isAlike 117 = .ok (.ifCond .eq 78, 3) := by decide +kernel
theorem dL_isAlike_120 : decode cL_isAlike 120 = .ok (.aload_n 0, 1) := by decide +kernel
theorem dL_isAlike_121 : decode cL_isAlike 121 = .ok (.iload_n 2, 1) := by decide +kernel
theorem dL_isAlike_122 : decode cL_isAlike 122 = .ok (.aload_n 1, 1) := by decide +kernel
theorem dL_isAlike_123 : decode cL_isAlike 123 = .ok (.bipush 20, 2) := by decide +kernel
theorem dL_isAlike_125 : decode cL_isAlike 125 = .ok (.iload_n 2, 1) := by decide +kernel
theorem dL_isAlike_126 : decode cL_isAlike 126 = .ok (.iadd, 1) := by decide +kernel
theorem dL_isAlike_127 : decode cL_isAlike 127 = .ok (.iaload, 1) := by decide +kernel
theorem dL_isAlike_128 : decode cL_isAlike 128 = .ok (.iload 6, 2) := by decide +kernel
theorem dL_isAlike_130 : decode cL_isAlike 130 = .ok (.iadd, 1) := by decide +kernel
theorem dL_isAlike_131 : decode cL_isAlike 131 = .ok (.aload_n 1, 1) := by decide +kernel
theorem dL_isAlike_132 : decode cL_isAlike 132 = .ok (.bipush 30, 2) := by decide +kernel
theorem dL_isAlike_134 : decode cL_isAlike 134 = .ok (.iload_n 2, 1) := by decide +kernel
theorem dL_isAlike_135 : decode cL_isAlike 135 = .ok (.iadd, 1) := by decide +kernel
theorem dL_isAlike_136 : decode cL_isAlike 136 = .ok (.iaload, 1) := by decide +kernel
theorem dL_isAlike_137 : decode cL_isAlike 137 = .ok (.iload 7, 2) := by decide +kernel
theorem dL_isAlike_139 : decode cL_isAlike 139 = .ok (.iadd, 1) := by decide +kernel
theorem dL_isAlike_140 : decode cL_isAlike 140 = .ok (.iload 8, 2) := by decide +kernel
theorem dL_isAlike_142 : decode cL_isAlike 142 = .ok (.iconst 1, 1) := by decide +kernel
theorem dL_isAlike_143 : decode cL_isAlike 143 = .ok (.if_icmp .ne 7, 3) := by decide +kernel
theorem dL_isAlike_146 : decode cL_isAlike 146 = .ok (.iconst 1, 1) := by decide +kernel
theorem dL_isAlike_147 : decode cL_isAlike 147 = .ok (.goto 4, 3) := by decide +kernel
theorem dL_isAlike_150 : decode cL_isAlike 150 = .ok (.iconst 0, 1) := by decide +kernel
theorem dL_isAlike_151 : decode cL_isAlike 151 = .ok (.invokevirtual 99, 3) := by decide +kernel
theorem dL_isAlike_154 : decode cL_isAlike 154 = .ok (.aload_n 0, 1) := by decide +kernel
theorem dL_isAlike_155 : decode cL_isAlike 155 = .ok (.iload_n 3, 1) := by decide +kernel
theorem dL_isAlike_156 : decode cL_isAlike 156 = .ok (.aload_n 1, 1) := by decide +kernel
theorem dL_isAlike_157 : decode cL_isAlike 157 = .ok (.bipush 20, 2) := by decide +kernel
theorem dL_isAlike_159 : decode cL_isAlike 159 = .ok (.iload_n 3, 1) := by decide +kernel
theorem dL_isAlike_160 : decode cL_isAlike 160 = .ok (.iadd, 1) := by decide +kernel
theorem dL_isAlike_161 : decode cL_isAlike 161 = .ok (.iaload, 1) := by decide +kernel
theorem dL_isAlike_162 : decode cL_isAlike 162 = .ok (.iload 6, 2) := by decide +kernel
theorem dL_isAlike_164 : decode cL_isAlike 164 = .ok (.iadd, 1) := by decide +kernel
theorem dL_isAlike_165 : decode cL_isAlike 165 = .ok (.aload_n 1, 1) := by decide +kernel
theorem dL_isAlike_166 : decode cL_isAlike 166 = .ok (.bipush 30, 2) := by decide +kernel
theorem dL_isAlike_168 : decode cL_isAlike 168 = .ok (.iload_n 3, 1) := by decide +kernel
theorem dL_isAlike_169 : decode cL_isAlike 169 = .ok (.iadd, 1) := by decide +kernel
theorem dL_isAlike_170 : decode cL_isAlike 170 = .ok (.iaload, 1) := by decide +kernel
theorem dL_isAlike_171 : decode cL_isAlike 171 = .ok (.iload 7, 2) := by decide +kernel
theorem dL_isAlike_173 : decode cL_isAlike 173 = .ok (.iadd, 1) := by decide +kernel
theorem dL_isAlike_174 : decode cL_isAlike 174 = .ok (.iload 8, 2) := by decide +kernel
theorem dL_isAlike_176 : decode cL_isAlike 176 = .ok (.iconst 1, 1) := by decide +kernel
theorem dL_isAlike_177 : decode cL_isAlike 177 = .ok (.if_icmp .ne 7, 3) := by decide +kernel
theorem dL_isAlike_180 : decode cL_isAlike 180 = .ok (.iconst 1, 1) := by decide +kernel
theorem dL_isAlike_181 : decode cL_isAlike 181 = .ok (.goto 4, 3) := by decide +kernel
theorem dL_isAlike_184 : decode cL_isAlike 184 = .ok (.iconst 0, 1) := by decide +kernel
theorem dL_isAlike_185 : decode cL_isAlike 185 = .ok (.invokevirtual 99, 3) := by decide +kernel
theorem dL_isAlike_188 : decode cL_isAlike 188 = .ok (.if_icmp .ne 7, 3) := by decide +kernel
theorem dL_isAlike_191 : decode cL_isAlike 191 = .ok (.iconst 1, 1) := by decide +kernel
theorem dL_isAlike_192 : decode cL_isAlike 192 = .ok (.goto 4, 3) := by decide +kernel
theorem dL_isAlike_195 : decode cL_isAlike 195 = .ok (.iconst 0, 1) := by decide +kernel
theorem dL_isAlike_196 : decode cL_isAlike 196 = .ok (.istore 4, 2) := by decide +kernel
theorem dL_isAlike_198 : decode cL_isAlike 198 = .ok (.iinc 8 1, 3) := by decide +kernel
theorem dL_isAlike_201 : decode cL_isAlike 201 = .ok (.goto (-92), 3) := by decide +kernel
theorem dL_isAlike_204 : decode cL_isAlike 204 = .ok (.iinc 5 1, 3) := by decide +kernel
theorem dL_isAlike_207 : decode cL_isAlike 207 = .ok (.goto (-154), 3) := by decide +kernel
theorem dL_isAlike_210 : decode cL_isAlike 210 = .ok (.iload 4, 2) := by decide +kernel
theorem dL_isAlike_212 : decode cL_isAlike 212 = .ok (.ireturn, 1) := by decide +kernel
theorem dL_areTwo_0 : decode cL_areTwo 0 = .ok (.aload_n 0, 1) := by decide +kernel
theorem dL_areTwo_1 : decode cL_areTwo 1 = .ok (.iload_n 2, 1) := by decide +kernel
theorem dL_areTwo_2 : decode cL_areTwo 2 = .ok (.iload_n 3, 1) := by decide +kernel
theorem dL_areTwo_3 : decode cL_areTwo 3 = .ok (.invokevirtual 115, 3) := by decide +kernel
theorem dL_areTwo_6 : decode cL_areTwo 6 = .ok (.istore 4, 2) := by decide +kernel
theorem dL_areTwo_8 : decode cL_areTwo 8 = .ok (.aload_n 0, 1) := by decide +kernel
theorem dL_areTwo_9 : decode cL_areTwo 9 = .ok (.iload_n 2, 1) := by decide +kernel
theorem dL_areTwo_10 : decode cL_areTwo 10 = .ok (.iload_n 3, 1) := by decide +kernel
theorem dL_areTwo_11 : decode cL_areTwo 11 = .ok (.invokevirtual 119, 3) := by decide +kernel
theorem dL_areTwo_14 : decode cL_areTwo 14 = .ok (.istore 5, 2) := by decide +kernel
theorem dL_areTwo_16 : decode cL_areTwo 16 = .ok (.aload_n 0, 1) := by decide +kernel
theorem dL_areTwo_17 : decode cL_areTwo 17 = .ok (.iload_n 3, 1) := by decide +kernel
theorem dL_areTwo_18 : decode cL_areTwo 18 = .ok (.iload_n 2, 1) := by decide +kernel
theorem dL_areTwo_19 : decode cL_areTwo 19 = .ok (.invokevirtual 119, 3) := by decide +kernel
theorem dL_areTwo_22 : decode cL_areTwo 22 = .ok (.iload 5, 2) := by decide +kernel
theorem dL_areTwo_24 : decode cL_areTwo 24 = .ok (.if_icmp .ne 58, 3) := by decide +kernel
theorem dL_areTwo_27 : decode cL_areTwo 27 = .ok (.iload 5, 2) := by decide +kernel
theorem dL_areTwo_29 : decode cL_areTwo 29 = .ok (.ifCond .lt 53, 3) := by decide +kernel
theorem dL_areTwo_32 : decode cL_areTwo 32 = .ok (.iload 5, 2) := by decide +kernel
theorem dL_areTwo_34 : decode cL_areTwo 34 = .ok (.bipush 100, 2) := by decide +kernel
theorem dL_areTwo_36 : decode cL_areTwo 36 = .ok (.if_icmp .gt 46, 3) := by decide +kernel
theorem dL_areTwo_39 : decode cL_areTwo 39 = .ok (.iload 5, 2) := by decide +kernel
theorem dL_areTwo_41 : decode cL_areTwo 41 = .ok (.bipush 100, 2) := by decide +kernel
theorem dL_areTwo_43 : decode cL_areTwo 43 = .ok (.if_icmp .ne 7, 3) := by decide +kernel
theorem dL_areTwo_46 : decode cL_areTwo 46 = .ok (.iconst 1, 1) := by decide +kernel
theorem dL_areTwo_47 : decode cL_areTwo 47 = .ok (.goto 4, 3) := by decide +kernel
theorem dL_areTwo_50 : decode cL_areTwo 50 = .ok (.iconst 0, 1) := by decide +kernel
theorem dL_areTwo_51 : decode cL_areTwo 51 = .ok (.iload 4, 2) := by decide +kernel
theorem dL_areTwo_53 : decode cL_areTwo 53 = .ok (.if_icmp .ne 29, 3) := by decide +kernel
theorem dL_areTwo_56 : decode cL_areTwo 56 = .ok (.aload_n 0, 1) := by decide +kernel
theorem dL_areTwo_57 : decode cL_areTwo 57 = .ok (.iload_n 3, 1) := by decide +kernel
theorem dL_areTwo_58 : decode cL_areTwo 58 = .ok (.iload_n 2, 1) := by decide +kernel
theorem dL_areTwo_59 : decode cL_areTwo 59 = .ok (.invokevirtual 115, 3) := by decide +kernel
theorem dL_areTwo_62 : decode cL_areTwo 62 = .ok (.iload 4, 2) := by decide +kernel
theorem dL_areTwo_64 : decode cL_areTwo 64 = .ok (.if_icmp .ne 18, 3) := by decide +kernel
theorem dL_areTwo_67 : decode cL_areTwo 67 = .ok (.aload_n 0, 1) := by decide +kernel
theorem dL_areTwo_68 : decode cL_areTwo 68 = .ok (.iload_n 2, 1) := by decide +kernel
theorem dL_areTwo_69 : decode cL_areTwo 69 = .ok (.iload_n 2, 1) := by decide +kernel
theorem dL_areTwo_70 : decode cL_areTwo 70 = .ok (.invokevirtual 119, 3) := by decide +kernel
theorem dL_areTwo_73 : decode cL_areTwo 73 = .ok (.bipush 100, 2) := by decide +kernel
theorem dL_areTwo_75 : decode cL_areTwo 75 = .ok (.if_icmp .ne 7, 3) := by decide +kernel
theorem dL_areTwo_78 : decode cL_areTwo 78 = .ok (.iconst 1, 1) := by decide +kernel
theorem dL_areTwo_79 : decode cL_areTwo 79 = .ok (.goto 4, 3) := by decide +kernel
theorem dL_areTwo_82 : decode cL_areTwo 82 = .ok (.iconst 0, 1) := by decide +kernel
theorem dL_areTwo_83 : decode cL_areTwo 83 = .ok (.istore 6, 2) := by decide +kernel
theorem dL_areTwo_85 : decode cL_areTwo 85 = .ok (.iload 6, 2) := by decide +kernel
theorem dL_areTwo_87 : decode cL_areTwo 87 = .ok (.ifCond .eq 32, 3) := by decide +kernel
theorem dL_areTwo_90 : decode cL_areTwo 90 = .ok (.aload_n 0, 1) := by decide +kernel
theorem dL_areTwo_91 : decode cL_areTwo 91 = .ok (.iload_n 2, 1) := by decide +kernel
theorem dL_areTwo_92 : decode cL_areTwo 92 = .ok (.iload_n 3, 1) := by decide +kernel
theorem dL_areTwo_93 : decode cL_areTwo 93 = .ok (.invokevirtual 122, 3) := by decide +kernel
theorem dL_areTwo_96 : decode cL_areTwo 96 = .ok (.aload_n 0, 1) := by decide +kernel
theorem dL_areTwo_97 : decode cL_areTwo 97 = .ok (.aload_n 1, 1) := by decide +kernel
theorem dL_areTwo_98 : decode cL_areTwo 98 = .ok (.iload_n 2, 1) := by decide +kernel
theorem dL_areTwo_99 : decode cL_areTwo 99 = .ok (.iload_n 3, 1) := by decide +kernel
theorem dL_areTwo_100 : decode cL_areTwo 100 = .ok (.invokestatic 125, 3) := by decide +kernel
theorem dL_areTwo_103 : decode cL_areTwo 103 = .ok (.if_icmp .ne 16, 3) := by decide +kernel
theorem dL_areTwo_106 : decode cL_areTwo 106 = .ok (.aload_n 0, 1) := by decide +kernel
theorem dL_areTwo_107 : decode cL_areTwo 107 = .ok (.iload_n 2, 1) := by decide +kernel
theorem dL_areTwo_108 : decode cL_areTwo 108 = .ok (.iload_n 2, 1) := by decide +kernel
theorem dL_areTwo_109 : decode cL_areTwo 109 = .ok (.invokevirtual 122, 3) := by decide +kernel
theorem dL_areTwo_112 : decode cL_areTwo 112 = .ok (.ifCond .eq 7, 3) := by decide +kernel
theorem dL_areTwo_115 : decode cL_areTwo 115 = .ok (.iconst 1, 1) := by decide +kernel
theorem dL_areTwo_116 : decode cL_areTwo 116 = .ok (.goto 4, 3) := by decide +kernel
theorem dL_areTwo_119 : decode cL_areTwo 119 = .ok (.iconst 0, 1) := by decide +kernel
theorem dL_areTwo_120 : decode cL_areTwo 120 = .ok (.ireturn, 1) := by decide +kernel
theorem dL_meets_0 : decode cL_meets 0 = .ok (.aload_n 3, 1) := by decide +kernel
theorem dL_meets_1 : decode cL_meets 1 = .ok (.bipush 12, 2) := by decide +kernel
theorem dL_meets_3 : decode cL_meets 3 = .ok (.iload 4, 2) := by decide +kernel
theorem dL_meets_5 : decode cL_meets 5 = .ok (.iadd, 1) := by decide +kernel
theorem dL_meets_6 : decode cL_meets 6 = .ok (.iaload, 1) := by decide +kernel
theorem dL_meets_7 : decode cL_meets 7 = .ok (.istore 5, 2) := by decide +kernel
theorem dL_meets_9 : decode cL_meets 9 = .ok (.aload_n 3, 1) := by decide +kernel
theorem dL_meets_10 : decode cL_meets 10 = .ok (.bipush 22, 2) := by decide +kernel
theorem dL_meets_12 : decode cL_meets 12 = .ok (.iload 4, 2) := by decide +kernel
theorem dL_meets_14 : decode cL_meets 14 = .ok (.iadd, 1) := by decide +kernel
theorem dL_meets_15 : decode cL_meets 15 = .ok (.iaload, 1) := by decide +kernel
theorem dL_meets_16 : decode cL_meets 16 = .ok (.istore 6, 2) := by decide +kernel
theorem dL_meets_18 : decode cL_meets 18 = .ok (.aload_n 0, 1) := by decide +kernel
theorem dL_meets_19 : decode cL_meets 19 = .ok (.iload 5, 2) := by decide +kernel
theorem dL_meets_21 : decode cL_meets 21 = .ok (.invokevirtual 109, 3) := by decide +kernel
theorem dL_meets_24 : decode cL_meets 24 = .ok (.ifCond .ne 52, 3) := by decide +kernel
theorem dL_meets_27 : decode cL_meets 27 = .ok (.aload_n 0, 1) := by decide +kernel
theorem dL_meets_28 : decode cL_meets 28 = .ok (.iload 5, 2) := by decide +kernel
theorem dL_meets_30 : decode cL_meets 30 = .ok (.invokevirtual 103, 3) := by decide +kernel
theorem dL_meets_33 : decode cL_meets 33 = .ok (.aload_n 3, 1) := by decide +kernel
theorem dL_meets_34 : decode cL_meets 34 = .ok (.bipush 8, 2) := by decide +kernel
theorem dL_meets_36 : decode cL_meets 36 = .ok (.iload 6, 2) := by decide +kernel
theorem dL_meets_38 : decode cL_meets 38 = .ok (.iadd, 1) := by decide +kernel
theorem dL_meets_39 : decode cL_meets 39 = .ok (.iaload, 1) := by decide +kernel
theorem dL_meets_40 : decode cL_meets 40 = .ok (.if_icmp .gt 36, 3) := by decide +kernel
theorem dL_meets_43 : decode cL_meets 43 = .ok (.aload_n 2, 1) := by decide +kernel
theorem dL_meets_44 : decode cL_meets 44 = .ok (.bipush 10, 2) := by decide +kernel
theorem dL_meets_46 : decode cL_meets 46 = .ok (.iload 5, 2) := by decide +kernel
theorem dL_meets_48 : decode cL_meets 48 = .ok (.iadd, 1) := by decide +kernel
theorem dL_meets_49 : decode cL_meets 49 = .ok (.iaload, 1) := by decide +kernel
theorem dL_meets_50 : decode cL_meets 50 = .ok (.aload_n 3, 1) := by decide +kernel
theorem dL_meets_51 : decode cL_meets 51 = .ok (.iconst 4, 1) := by decide +kernel
theorem dL_meets_52 : decode cL_meets 52 = .ok (.iload 6, 2) := by decide +kernel
theorem dL_meets_54 : decode cL_meets 54 = .ok (.iadd, 1) := by decide +kernel
theorem dL_meets_55 : decode cL_meets 55 = .ok (.iaload, 1) := by decide +kernel
theorem dL_meets_56 : decode cL_meets 56 = .ok (.if_icmp .gt 20, 3) := by decide +kernel
theorem dL_meets_59 : decode cL_meets 59 = .ok (.aload_n 0, 1) := by decide +kernel
theorem dL_meets_60 : decode cL_meets 60 = .ok (.iload 5, 2) := by decide +kernel
theorem dL_meets_62 : decode cL_meets 62 = .ok (.aload_n 3, 1) := by decide +kernel
theorem dL_meets_63 : decode cL_meets 63 = .ok (.iload 6, 2) := by decide +kernel
theorem dL_meets_65 : decode cL_meets 65 = .ok (.iaload, 1) := by decide +kernel
theorem dL_meets_66 : decode cL_meets 66 = .ok (.invokevirtual 122, 3) := by decide +kernel
theorem dL_meets_69 : decode cL_meets 69 = .ok (.ifCond .eq 7, 3) := by decide +kernel
theorem dL_meets_72 : decode cL_meets 72 = .ok (.iconst 1, 1) := by decide +kernel
theorem dL_meets_73 : decode cL_meets 73 = .ok (.goto 4, 3) := by decide +kernel
theorem dL_meets_76 : decode cL_meets 76 = .ok (.iconst 0, 1) := by decide +kernel
theorem dL_meets_77 : decode cL_meets 77 = .ok (.ireturn, 1) := by decide +kernel
theorem dL_allows_0 : decode cL_allows 0 = .ok (.iconst 0, 1) := by decide +kernel
theorem dL_allows_1 : decode cL_allows 1 = .ok (.istore 7, 2) := by decide +kernel
theorem dL_allows_3 : decode cL_allows 3 = .ok (.aload_n 3, 1) := by decide +kernel
theorem dL_allows_4 : decode cL_allows 4 = .ok (.iconst 4, 1) := by decide +kernel
theorem dL_allows_5 : decode cL_allows 5 = .ok (.iload 4, 2) := by decide +kernel
theorem dL_allows_7 : decode cL_allows 7 = .ok (.iadd, 1) := by decide +kernel
theorem dL_allows_8 : decode cL_allows 8 = .ok (.iload 5, 2) := by decide +kernel
theorem dL_allows_10 : decode cL_allows 10 = .ok (.iastore, 1) := by decide +kernel
theorem dL_allows_11 : decode cL_allows 11 = .ok (.aload_n 3, 1) := by decide +kernel
theorem dL_allows_12 : decode cL_allows 12 = .ok (.bipush 8, 2) := by decide +kernel
theorem dL_allows_14 : decode cL_allows 14 = .ok (.iload 4, 2) := by decide +kernel
theorem dL_allows_16 : decode cL_allows 16 = .ok (.iadd, 1) := by decide +kernel
theorem dL_allows_17 : decode cL_allows 17 = .ok (.iload 6, 2) := by decide +kernel
theorem dL_allows_19 : decode cL_allows 19 = .ok (.iastore, 1) := by decide +kernel
theorem dL_allows_20 : decode cL_allows 20 = .ok (.iconst 0, 1) := by decide +kernel
theorem dL_allows_21 : decode cL_allows 21 = .ok (.istore 8, 2) := by decide +kernel
theorem dL_allows_23 : decode cL_allows 23 = .ok (.iload 8, 2) := by decide +kernel
theorem dL_allows_25 : decode cL_allows 25 = .ok (.aload_n 1, 1) := by decide +kernel
theorem dL_allows_26 : decode cL_allows 26 = .ok (.iconst 5, 1) := by decide +kernel
theorem dL_allows_27 : decode cL_allows 27 = .ok (.iaload, 1) := by decide +kernel
theorem dL_allows_28 : decode cL_allows 28 = .ok (.if_icmp .ge 43, 3) := by decide +kernel
theorem dL_allows_31 : decode cL_allows 31 = .ok (.iload 7, 2) := by decide +kernel
theorem dL_allows_33 : decode cL_allows 33 = .ok (.aload_n 3, 1) := by decide +kernel
theorem dL_allows_34 : decode cL_allows 34 = .ok (.bipush 22, 2) := by decide +kernel
theorem dL_allows_36 : decode cL_allows 36 = .ok (.iload 8, 2) := by decide +kernel
theorem dL_allows_38 : decode cL_allows 38 = .ok (.iadd, 1) := by decide +kernel
theorem dL_allows_39 : decode cL_allows 39 = .ok (.iaload, 1) := by decide +kernel
theorem dL_allows_40 : decode cL_allows 40 = .ok (.iload 4, 2) := by decide +kernel
theorem dL_allows_42 : decode cL_allows 42 = .ok (.if_icmp .ne 19, 3) := by decide +kernel
theorem dL_allows_45 : decode cL_allows 45 = .ok (.aload_n 0, 1) := by decide +kernel
theorem dL_allows_46 : decode cL_allows 46 = .ok (.aload_n 1, 1) := by decide +kernel
theorem dL_allows_47 : decode cL_allows 47 = .ok (.aload_n 2, 1) := by decide +kernel
theorem dL_allows_48 : decode cL_allows 48 = .ok (.aload_n 3, 1) := by decide +kernel
theorem dL_allows_49 : decode cL_allows 49 = .ok (.iload 8, 2) := by decide +kernel
theorem dL_allows_51 : decode cL_allows 51 = .ok (.invokestatic 128, 3) := by decide +kernel
theorem dL_allows_54 : decode cL_allows 54 = .ok (.ifCond .eq 7, 3) := by decide +kernel
theorem dL_allows_57 : decode cL_allows 57 = .ok (.iconst 1, 1) := by decide +kernel
theorem dL_allows_58 : decode cL_allows 58 = .ok (.goto 4, 3) := by decide +kernel
theorem dL_allows_61 : decode cL_allows 61 = .ok (.iconst 0, 1) := by decide +kernel
theorem dL_allows_62 : decode cL_allows 62 = .ok (.iadd, 1) := by decide +kernel
theorem dL_allows_63 : decode cL_allows 63 = .ok (.istore 7, 2) := by decide +kernel
theorem dL_allows_65 : decode cL_allows 65 = .ok (.iinc 8 1, 3) := by decide +kernel
theorem dL_allows_68 : decode cL_allows 68 = .ok (.goto (-45), 3) := by decide +kernel
theorem dL_allows_71 : decode cL_allows 71 = .ok (.aload_n 0, 1) := by decide +kernel
theorem dL_allows_72 : decode cL_allows 72 = .ok (.iload 4, 2) := by decide +kernel
theorem dL_allows_74 : decode cL_allows 74 = .ok (.iload 5, 2) := by decide +kernel
theorem dL_allows_76 : decode cL_allows 76 = .ok (.iload 6, 2) := by decide +kernel
theorem dL_allows_78 : decode cL_allows 78 = .ok (.invokevirtual 132, 3) := by decide +kernel
theorem dL_allows_81 : decode cL_allows 81 = .ok (.iload 7, 2) := by decide +kernel
theorem dL_allows_83 : decode cL_allows 83 = .ok (.if_icmp .ne 7, 3) := by decide +kernel
theorem dL_allows_86 : decode cL_allows 86 = .ok (.iconst 1, 1) := by decide +kernel
theorem dL_allows_87 : decode cL_allows 87 = .ok (.goto 4, 3) := by decide +kernel
theorem dL_allows_90 : decode cL_allows 90 = .ok (.iconst 0, 1) := by decide +kernel
theorem dL_allows_91 : decode cL_allows 91 = .ok (.ireturn, 1) := by decide +kernel
theorem dL_copyOf_0 : decode cL_copyOf 0 = .ok (.iconst 0, 1) := by decide +kernel
theorem dL_copyOf_1 : decode cL_copyOf 1 = .ok (.istore 4, 2) := by decide +kernel
theorem dL_copyOf_3 : decode cL_copyOf 3 = .ok (.iload 4, 2) := by decide +kernel
theorem dL_copyOf_5 : decode cL_copyOf 5 = .ok (.iload_n 3, 1) := by decide +kernel
theorem dL_copyOf_6 : decode cL_copyOf 6 = .ok (.if_icmp .ge 68, 3) := by decide +kernel
theorem dL_copyOf_9 : decode cL_copyOf 9 = .ok (.aload_n 2, 1) := by decide +kernel
theorem dL_copyOf_10 : decode cL_copyOf 10 = .ok (.bipush 22, 2) := by decide +kernel
theorem dL_copyOf_12 : decode cL_copyOf 12 = .ok (.iload 4, 2) := by decide +kernel
theorem dL_copyOf_14 : decode cL_copyOf 14 = .ok (.iadd, 1) := by decide +kernel
theorem dL_copyOf_15 : decode cL_copyOf 15 = .ok (.iaload, 1) := by decide +kernel
theorem dL_copyOf_16 : decode cL_copyOf 16 = .ok (.aload_n 2, 1) := by decide +kernel
theorem dL_copyOf_17 : decode cL_copyOf 17 = .ok (.bipush 22, 2) := by decide +kernel
theorem dL_copyOf_19 : decode cL_copyOf 19 = .ok (.iload_n 3, 1) := by decide +kernel
theorem dL_copyOf_20 : decode cL_copyOf 20 = .ok (.iadd, 1) := by decide +kernel
theorem dL_copyOf_21 : decode cL_copyOf 21 = .ok (.iaload, 1) := by decide +kernel
theorem dL_copyOf_22 : decode cL_copyOf 22 = .ok (.if_icmp .ne 46, 3) := by decide +kernel
theorem dL_copyOf_25 : decode cL_copyOf 25 = .ok (.aload_n 1, 1) := by decide +kernel
theorem dL_copyOf_26 : decode cL_copyOf 26 = .ok (.aload_n 2, 1) := by decide +kernel
theorem dL_copyOf_27 : decode cL_copyOf 27 = .ok (.bipush 12, 2) := by decide +kernel
theorem dL_copyOf_29 : decode cL_copyOf 29 = .ok (.iload 4, 2) := by decide +kernel
theorem dL_copyOf_31 : decode cL_copyOf 31 = .ok (.iadd, 1) := by decide +kernel
theorem dL_copyOf_32 : decode cL_copyOf 32 = .ok (.iaload, 1) := by decide +kernel
theorem dL_copyOf_33 : decode cL_copyOf 33 = .ok (.iaload, 1) := by decide +kernel
theorem dL_copyOf_34 : decode cL_copyOf 34 = .ok (.aload_n 1, 1) := by decide +kernel
theorem dL_copyOf_35 : decode cL_copyOf 35 = .ok (.aload_n 2, 1) := by decide +kernel
theorem dL_copyOf_36 : decode cL_copyOf 36 = .ok (.bipush 12, 2) := by decide +kernel
theorem dL_copyOf_38 : decode cL_copyOf 38 = .ok (.iload_n 3, 1) := by decide +kernel
theorem dL_copyOf_39 : decode cL_copyOf 39 = .ok (.iadd, 1) := by decide +kernel
theorem dL_copyOf_40 : decode cL_copyOf 40 = .ok (.iaload, 1) := by decide +kernel
theorem dL_copyOf_41 : decode cL_copyOf 41 = .ok (.iaload, 1) := by decide +kernel
theorem dL_copyOf_42 : decode cL_copyOf 42 = .ok (.if_icmp .eq 26, 3) := by decide +kernel
theorem dL_copyOf_45 : decode cL_copyOf 45 = .ok (.aload_n 0, 1) := by decide +kernel
theorem dL_copyOf_46 : decode cL_copyOf 46 = .ok (.aload_n 2, 1) := by decide +kernel
theorem dL_copyOf_47 : decode cL_copyOf 47 = .ok (.bipush 12, 2) := by decide +kernel
theorem dL_copyOf_49 : decode cL_copyOf 49 = .ok (.iload 4, 2) := by decide +kernel
theorem dL_copyOf_51 : decode cL_copyOf 51 = .ok (.iadd, 1) := by decide +kernel
theorem dL_copyOf_52 : decode cL_copyOf 52 = .ok (.iaload, 1) := by decide +kernel
theorem dL_copyOf_53 : decode cL_copyOf 53 = .ok (.aload_n 2, 1) := by decide +kernel
theorem dL_copyOf_54 : decode cL_copyOf 54 = .ok (.bipush 12, 2) := by decide +kernel
theorem dL_copyOf_56 : decode cL_copyOf 56 = .ok (.iload_n 3, 1) := by decide +kernel
theorem dL_copyOf_57 : decode cL_copyOf 57 = .ok (.iadd, 1) := by decide +kernel
theorem dL_copyOf_58 : decode cL_copyOf 58 = .ok (.iaload, 1) := by decide +kernel
theorem dL_copyOf_59 : decode cL_copyOf 59 = .ok (.invokevirtual 115, 3) := by decide +kernel
theorem dL_copyOf_62 : decode cL_copyOf 62 = .ok (.ifCond .eq 6, 3) := by decide +kernel
theorem dL_copyOf_65 : decode cL_copyOf 65 = .ok (.iload 4, 2) := by decide +kernel
theorem dL_copyOf_67 : decode cL_copyOf 67 = .ok (.ireturn, 1) := by decide +kernel
theorem dL_copyOf_68 : decode cL_copyOf 68 = .ok (.iinc 4 1, 3) := by decide +kernel
theorem dL_copyOf_71 : decode cL_copyOf 71 = .ok (.goto (-68), 3) := by decide +kernel
theorem dL_copyOf_74 : decode cL_copyOf 74 = .ok (.iconst (-1), 1) := by decide +kernel
theorem dL_copyOf_75 : decode cL_copyOf 75 = .ok (.ireturn, 1) := by decide +kernel
theorem dL_isWall_0 : decode cL_isWall 0 = .ok (.bipush 40, 2) := by decide +kernel
theorem dL_isWall_2 : decode cL_isWall 2 = .ok (.newarray .long, 2) := by decide +kernel
theorem dL_isWall_4 : decode cL_isWall 4 = .ok (.astore 6, 2) := by decide +kernel
theorem dL_isWall_6 : decode cL_isWall 6 = .ok (.iconst 0, 1) := by decide +kernel
theorem dL_isWall_7 : decode cL_isWall 7 = .ok (.istore 7, 2) := by decide +kernel
theorem dL_isWall_9 : decode cL_isWall 9 = .ok (.iconst (-1), 1) := by decide +kernel
theorem dL_isWall_10 : decode cL_isWall 10 = .ok (.istore 8, 2) := by decide +kernel
theorem dL_isWall_12 : decode cL_isWall 12 = .ok (.iload 4, 2) := by decide +kernel
theorem dL_isWall_14 : decode cL_isWall 14 = .ok (.aload_n 1, 1) := by decide +kernel
theorem dL_isWall_15 : decode cL_isWall 15 = .ok (.bipush 6, 2) := by decide +kernel
theorem dL_isWall_17 : decode cL_isWall 17 = .ok (.iaload, 1) := by decide +kernel
theorem dL_isWall_18 : decode cL_isWall 18 = .ok (.irem, 1) := by decide +kernel
theorem dL_isWall_19 : decode cL_isWall 19 = .ok (.istore 9, 2) := by decide +kernel
theorem dL_isWall_21 : decode cL_isWall 21 = .ok (.iload 5, 2) := by decide +kernel
theorem dL_isWall_23 : decode cL_isWall 23 = .ok (.aload_n 1, 1) := by decide +kernel
theorem dL_isWall_24 : decode cL_isWall 24 = .ok (.bipush 7, 2) := by decide +kernel
theorem dL_isWall_26 : decode cL_isWall 26 = .ok (.iaload, 1) := by decide +kernel
theorem dL_isWall_27 : decode cL_isWall 27 = .ok (.irem, 1) := by decide +kernel
theorem dL_isWall_28 : decode cL_isWall 28 = .ok (.istore 10, 2) := by decide +kernel
theorem dL_isWall_30 : decode cL_isWall 30 = .ok (.iconst 1, 1) := by decide +kernel
theorem dL_isWall_31 : decode cL_isWall 31 = .ok (.istore 11, 2) := by decide +kernel
theorem dL_isWall_33 : decode cL_isWall 33 = .ok (.iconst 0, 1) := by decide +kernel
theorem dL_isWall_34 : decode cL_isWall 34 = .ok (.istore 12, 2) := by decide +kernel
theorem dL_isWall_36 : decode cL_isWall 36 = .ok (.iload 12, 2) := by decide +kernel
theorem dL_isWall_38 : decode cL_isWall 38 = .ok (.aload_n 1, 1) := by decide +kernel
theorem dL_isWall_39 : decode cL_isWall 39 = .ok (.iconst 5, 1) := by decide +kernel
theorem dL_isWall_40 : decode cL_isWall 40 = .ok (.iaload, 1) := by decide +kernel
theorem dL_isWall_41 : decode cL_isWall 41 = .ok (.if_icmp .ge 383, 3) := by decide +kernel
theorem dL_isWall_44 : decode cL_isWall 44 = .ok (.iload 11, 2) := by decide +kernel
theorem dL_isWall_46 : decode cL_isWall 46 = .ok (.ifCond .eq 378, 3) := by decide +kernel
theorem dL_isWall_49 : decode cL_isWall 49 = .ok (.aload_n 0, 1) := by decide +kernel
theorem dL_isWall_50 : decode cL_isWall 50 = .ok (.aload_n 1, 1) := by decide +kernel
theorem dL_isWall_51 : decode cL_isWall 51 = .ok (.aload_n 2, 1) := by decide +kernel
theorem dL_isWall_52 : decode cL_isWall 52 = .ok (.aload_n 3, 1) := by decide +kernel
theorem dL_isWall_53 : decode cL_isWall 53 = .ok (.iload 12, 2) := by decide +kernel
theorem dL_isWall_55 : decode cL_isWall 55 = .ok (.invokestatic 128, 3) := by decide +kernel
theorem dL_isWall_58 : decode cL_isWall 58 = .ok (.istore 13, 2) := by decide +kernel
theorem dL_isWall_60 : decode cL_isWall 60 = .ok (.aload_n 0, 1) := by decide +kernel
theorem dL_isWall_61 : decode cL_isWall 61 = .ok (.aload_n 2, 1) := by decide +kernel
theorem dL_isWall_62 : decode cL_isWall 62 = .ok (.aload_n 3, 1) := by decide +kernel
theorem dL_isWall_63 : decode cL_isWall 63 = .ok (.iload 12, 2) := by decide +kernel
theorem dL_isWall_65 : decode cL_isWall 65 = .ok (.invokestatic 135, 3) := by decide +kernel
theorem dL_isWall_68 : decode cL_isWall 68 = .ok (.istore 14, 2) := by decide +kernel
theorem dL_isWall_70 : decode cL_isWall 70 = .ok (.iconst (-1), 1) := by decide +kernel
theorem dL_isWall_71 : decode cL_isWall 71 = .ok (.istore 15, 2) := by decide +kernel
theorem dL_isWall_73 : decode cL_isWall 73 = .ok (.aload_n 2, 1) := by decide +kernel
theorem dL_isWall_74 : decode cL_isWall 74 = .ok (.bipush 40, 2) := by decide +kernel
theorem dL_isWall_76 : decode cL_isWall 76 = .ok (.aload_n 3, 1) := by decide +kernel
theorem dL_isWall_77 : decode cL_isWall 77 = .ok (.bipush 12, 2) := by decide +kernel
theorem dL_isWall_79 : decode cL_isWall 79 = .ok (.iload 12, 2) := by decide +kernel
theorem dL_isWall_81 : decode cL_isWall 81 = .ok (.iadd, 1) := by decide +kernel
theorem dL_isWall_82 : decode cL_isWall 82 = .ok (.iaload, 1) := by decide +kernel
theorem dL_isWall_83 : decode cL_isWall 83 = .ok (.iadd, 1) := by decide +kernel
theorem dL_isWall_84 : decode cL_isWall 84 = .ok (.iaload, 1) := by decide +kernel
theorem dL_isWall_85 : decode cL_isWall 85 = .ok (.iconst 1, 1) := by decide +kernel
theorem dL_isWall_86 : decode cL_isWall 86 = .ok (.iadd, 1) := by decide +kernel
theorem dL_isWall_87 : decode cL_isWall 87 = .ok (.istore 16, 2) := by decide +kernel
theorem dL_isWall_89 : decode cL_isWall 89 = .ok (.aload_n 2, 1) := by decide +kernel
theorem dL_isWall_90 : decode cL_isWall 90 = .ok (.bipush 50, 2) := by decide +kernel
theorem dL_isWall_92 : decode cL_isWall 92 = .ok (.aload_n 3, 1) := by decide +kernel
theorem dL_isWall_93 : decode cL_isWall 93 = .ok (.bipush 12, 2) := by decide +kernel
theorem dL_isWall_95 : decode cL_isWall 95 = .ok (.iload 12, 2) := by decide +kernel
theorem dL_isWall_97 : decode cL_isWall 97 = .ok (.iadd, 1) := by decide +kernel
theorem dL_isWall_98 : decode cL_isWall 98 = .ok (.iaload, 1) := by decide +kernel
theorem dL_isWall_99 : decode cL_isWall 99 = .ok (.iadd, 1) := by decide +kernel
theorem dL_isWall_100 : decode cL_isWall 100 = .ok (.iaload, 1) := by decide +kernel
theorem dL_isWall_101 : decode cL_isWall 101 = .ok (.iconst 1, 1) := by decide +kernel
theorem dL_isWall_102 : decode cL_isWall 102 = .ok (.iadd, 1) := by decide +kernel
theorem dL_isWall_103 : decode cL_isWall 103 = .ok (.istore 17, 2) := by decide +kernel
theorem dL_isWall_105 : decode cL_isWall 105 = .ok (.iconst 0, 1) := by decide +kernel
theorem dL_isWall_106 : decode cL_isWall 106 = .ok (.istore 18, 2) := by decide +kernel
theorem dL_isWall_108 : decode cL_isWall 108 = .ok (.iload 18, 2) := by decide +kernel
theorem dL_isWall_110 : decode cL_isWall 110 = .ok (.aload_n 1, 1) := by decide +kernel
theorem dL_isWall_111 : decode cL_isWall 111 = .ok (.bipush 6, 2) := by decide +kernel
theorem dL_isWall_113 : decode cL_isWall 113 = .ok (.iaload, 1) := by decide +kernel
theorem dL_isWall_114 : decode cL_isWall 114 = .ok (.aload_n 1, 1) := by decide +kernel
theorem dL_isWall_115 : decode cL_isWall 115 = .ok (.bipush 7, 2) := by decide +kernel
theorem dL_isWall_117 : decode cL_isWall 117 = .ok (.iaload, 1) := by decide +kernel
theorem dL_isWall_118 : decode cL_isWall 118 = .ok (.imul, 1) := by decide +kernel
theorem dL_isWall_119 : decode cL_isWall 119 = .ok (.if_icmp .ge 72, 3) := by decide +kernel
theorem dL_isWall_122 : decode cL_isWall 122 = .ok (.iload 15, 2) := by decide +kernel
theorem dL_isWall_124 : decode cL_isWall 124 = .ok (.iconst (-1), 1) := by decide +kernel
theorem dL_isWall_125 : decode cL_isWall 125 = .ok (.if_icmp .ne 66, 3) := by decide +kernel
theorem dL_isWall_128 : decode cL_isWall 128 = .ok (.iload 13, 2) := by decide +kernel
theorem dL_isWall_130 : decode cL_isWall 130 = .ok (.ifCond .eq 61, 3) := by decide +kernel
theorem dL_isWall_133 : decode cL_isWall 133 = .ok (.iload 14, 2) := by decide +kernel
theorem dL_isWall_135 : decode cL_isWall 135 = .ok (.iconst (-1), 1) := by decide +kernel
theorem dL_isWall_136 : decode cL_isWall 136 = .ok (.if_icmp .eq 14, 3) := by decide +kernel
theorem dL_isWall_139 : decode cL_isWall 139 = .ok (.aload_n 3, 1) := by decide +kernel
theorem dL_isWall_140 : decode cL_isWall 140 = .ok (.bipush 32, 2) := by decide +kernel
theorem dL_isWall_142 : decode cL_isWall 142 = .ok (.iload 12, 2) := by decide +kernel
theorem dL_isWall_144 : decode cL_isWall 144 = .ok (.iadd, 1) := by decide +kernel
theorem dL_isWall_145 : decode cL_isWall 145 = .ok (.iaload, 1) := by decide +kernel
theorem dL_isWall_146 : decode cL_isWall 146 = .ok (.iconst 1, 1) := by decide +kernel
theorem dL_isWall_147 : decode cL_isWall 147 = .ok (.if_icmp .ne 44, 3) := by decide +kernel
theorem dL_isWall_150 : decode cL_isWall 150 = .ok (.aload_n 1, 1) := by decide +kernel
theorem dL_isWall_151 : decode cL_isWall 151 = .ok (.aload 6, 2) := by decide +kernel
theorem dL_isWall_153 : decode cL_isWall 153 = .ok (.iload 18, 2) := by decide +kernel
theorem dL_isWall_155 : decode cL_isWall 155 = .ok (.aload_n 1, 1) := by decide +kernel
theorem dL_isWall_156 : decode cL_isWall 156 = .ok (.bipush 6, 2) := by decide +kernel
theorem dL_isWall_158 : decode cL_isWall 158 = .ok (.iaload, 1) := by decide +kernel
theorem dL_isWall_159 : decode cL_isWall 159 = .ok (.irem, 1) := by decide +kernel
theorem dL_isWall_160 : decode cL_isWall 160 = .ok (.iload 18, 2) := by decide +kernel
theorem dL_isWall_162 : decode cL_isWall 162 = .ok (.aload_n 1, 1) := by decide +kernel
theorem dL_isWall_163 : decode cL_isWall 163 = .ok (.bipush 6, 2) := by decide +kernel
theorem dL_isWall_165 : decode cL_isWall 165 = .ok (.iaload, 1) := by decide +kernel
theorem dL_isWall_166 : decode cL_isWall 166 = .ok (.idiv, 1) := by decide +kernel
theorem dL_isWall_167 : decode cL_isWall 167 = .ok (.iload 16, 2) := by decide +kernel
theorem dL_isWall_169 : decode cL_isWall 169 = .ok (.iload 17, 2) := by decide +kernel
theorem dL_isWall_171 : decode cL_isWall 171 = .ok (.invokestatic 139, 3) := by decide +kernel
theorem dL_isWall_174 : decode cL_isWall 174 = .ok (.ifCond .eq 8, 3) := by decide +kernel
theorem dL_isWall_177 : decode cL_isWall 177 = .ok (.iload 18, 2) := by decide +kernel
theorem dL_isWall_179 : decode cL_isWall 179 = .ok (.goto 4, 3) := by decide +kernel
theorem dL_isWall_182 : decode cL_isWall 182 = .ok (.iconst (-1), 1) := by decide +kernel
theorem dL_isWall_183 : decode cL_isWall 183 = .ok (.istore 15, 2) := by decide +kernel
theorem dL_isWall_185 : decode cL_isWall 185 = .ok (.iinc 18 1, 3) := by decide +kernel
theorem dL_isWall_188 : decode cL_isWall 188 = .ok (.goto (-80), 3) := by decide +kernel
theorem dL_isWall_191 : decode cL_isWall 191 = .ok (.iconst 0, 1) := by decide +kernel
theorem dL_isWall_192 : decode cL_isWall 192 = .ok (.istore 18, 2) := by decide +kernel
theorem dL_isWall_194 : decode cL_isWall 194 = .ok (.iload 18, 2) := by decide +kernel
theorem dL_isWall_196 : decode cL_isWall 196 = .ok (.iload 17, 2) := by decide +kernel
theorem dL_isWall_198 : decode cL_isWall 198 = .ok (.if_icmp .ge 44, 3) := by decide +kernel
theorem dL_isWall_201 : decode cL_isWall 201 = .ok (.iload 15, 2) := by decide +kernel
theorem dL_isWall_203 : decode cL_isWall 203 = .ok (.ifCond .lt 39, 3) := by decide +kernel
theorem dL_isWall_206 : decode cL_isWall 206 = .ok (.aload 6, 2) := by decide +kernel
theorem dL_isWall_208 : decode cL_isWall 208 = .ok (.iload 15, 2) := by decide +kernel
theorem dL_isWall_210 : decode cL_isWall 210 = .ok (.aload_n 1, 1) := by decide +kernel
theorem dL_isWall_211 : decode cL_isWall 211 = .ok (.bipush 6, 2) := by decide +kernel
theorem dL_isWall_213 : decode cL_isWall 213 = .ok (.iaload, 1) := by decide +kernel
theorem dL_isWall_214 : decode cL_isWall 214 = .ok (.idiv, 1) := by decide +kernel
theorem dL_isWall_215 : decode cL_isWall 215 = .ok (.iload 18, 2) := by decide +kernel
theorem dL_isWall_217 : decode cL_isWall 217 = .ok (.iadd, 1) := by decide +kernel
theorem dL_isWall_218 : decode cL_isWall 218 = .ok (.dup2, 1) := by decide +kernel
theorem dL_isWall_219 : decode cL_isWall 219 = .ok (.laload, 1) := by decide +kernel
theorem dL_isWall_220 : decode cL_isWall 220 = .ok (.lconst 1, 1) := by decide +kernel
theorem dL_isWall_221 : decode cL_isWall 221 = .ok (.iload 16, 2) := by decide +kernel
theorem dL_isWall_223 : decode cL_isWall 223 = .ok (.lshl, 1) := by decide +kernel
theorem dL_isWall_224 : decode cL_isWall 224 = .ok (.lconst 1, 1) := by decide +kernel
theorem dL_isWall_225 : decode cL_isWall 225 = .ok (.lsub, 1) := by decide +kernel
theorem dL_isWall_226 : decode cL_isWall 226 = .ok (.iload 15, 2) := by decide +kernel
theorem dL_isWall_228 : decode cL_isWall 228 = .ok (.aload_n 1, 1) := by decide +kernel
theorem dL_isWall_229 : decode cL_isWall 229 = .ok (.bipush 6, 2) := by decide +kernel
theorem dL_isWall_231 : decode cL_isWall 231 = .ok (.iaload, 1) := by decide +kernel
theorem dL_isWall_232 : decode cL_isWall 232 = .ok (.irem, 1) := by decide +kernel
theorem dL_isWall_233 : decode cL_isWall 233 = .ok (.lshl, 1) := by decide +kernel
theorem dL_isWall_234 : decode cL_isWall 234 = .ok (.lor, 1) := by decide +kernel
theorem dL_isWall_235 : decode cL_isWall 235 = .ok (.lastore, 1) := by decide +kernel
theorem dL_isWall_236 : decode cL_isWall 236 = .ok (.iinc 18 1, 3) := by decide +kernel
theorem dL_isWall_239 : decode cL_isWall 239 = .ok (.goto (-45), 3) := by decide +kernel
theorem dL_isWall_242 : decode cL_isWall 242 = .ok (.iload 15, 2) := by decide +kernel
theorem dL_isWall_244 : decode cL_isWall 244 = .ok (.ifCond .lt 61, 3) := by decide +kernel
theorem dL_isWall_247 : decode cL_isWall 247 = .ok (.iload 9, 2) := by decide +kernel
theorem dL_isWall_249 : decode cL_isWall 249 = .ok (.iload 15, 2) := by decide +kernel
theorem dL_isWall_251 : decode cL_isWall 251 = .ok (.aload_n 1, 1) := by decide +kernel
theorem dL_isWall_252 : decode cL_isWall 252 = .ok (.bipush 6, 2) := by decide +kernel
theorem dL_isWall_254 : decode cL_isWall 254 = .ok (.iaload, 1) := by decide +kernel
theorem dL_isWall_255 : decode cL_isWall 255 = .ok (.irem, 1) := by decide +kernel
theorem dL_isWall_256 : decode cL_isWall 256 = .ok (.if_icmp .lt 49, 3) := by decide +kernel
theorem dL_isWall_259 : decode cL_isWall 259 = .ok (.iload 9, 2) := by decide +kernel
theorem dL_isWall_261 : decode cL_isWall 261 = .ok (.iload 15, 2) := by decide +kernel
theorem dL_isWall_263 : decode cL_isWall 263 = .ok (.aload_n 1, 1) := by decide +kernel
theorem dL_isWall_264 : decode cL_isWall 264 = .ok (.bipush 6, 2) := by decide +kernel
theorem dL_isWall_266 : decode cL_isWall 266 = .ok (.iaload, 1) := by decide +kernel
theorem dL_isWall_267 : decode cL_isWall 267 = .ok (.irem, 1) := by decide +kernel
theorem dL_isWall_268 : decode cL_isWall 268 = .ok (.iload 16, 2) := by decide +kernel
theorem dL_isWall_270 : decode cL_isWall 270 = .ok (.iadd, 1) := by decide +kernel
theorem dL_isWall_271 : decode cL_isWall 271 = .ok (.if_icmp .ge 34, 3) := by decide +kernel
theorem dL_isWall_274 : decode cL_isWall 274 = .ok (.iload 10, 2) := by decide +kernel
theorem dL_isWall_276 : decode cL_isWall 276 = .ok (.iload 15, 2) := by decide +kernel
theorem dL_isWall_278 : decode cL_isWall 278 = .ok (.aload_n 1, 1) := by decide +kernel
theorem dL_isWall_279 : decode cL_isWall 279 = .ok (.bipush 6, 2) := by decide +kernel
theorem dL_isWall_281 : decode cL_isWall 281 = .ok (.iaload, 1) := by decide +kernel
theorem dL_isWall_282 : decode cL_isWall 282 = .ok (.idiv, 1) := by decide +kernel
theorem dL_isWall_283 : decode cL_isWall 283 = .ok (.if_icmp .lt 22, 3) := by decide +kernel
theorem dL_isWall_286 : decode cL_isWall 286 = .ok (.iload 10, 2) := by decide +kernel
theorem dL_isWall_288 : decode cL_isWall 288 = .ok (.iload 15, 2) := by decide +kernel
theorem dL_isWall_290 : decode cL_isWall 290 = .ok (.aload_n 1, 1) := by decide +kernel
theorem dL_isWall_291 : decode cL_isWall 291 = .ok (.bipush 6, 2) := by decide +kernel
theorem dL_isWall_293 : decode cL_isWall 293 = .ok (.iaload, 1) := by decide +kernel
theorem dL_isWall_294 : decode cL_isWall 294 = .ok (.idiv, 1) := by decide +kernel
theorem dL_isWall_295 : decode cL_isWall 295 = .ok (.iload 17, 2) := by decide +kernel
theorem dL_isWall_297 : decode cL_isWall 297 = .ok (.iadd, 1) := by decide +kernel
theorem dL_isWall_298 : decode cL_isWall 298 = .ok (.if_icmp .ge 7, 3) := by decide +kernel
theorem dL_isWall_301 : decode cL_isWall 301 = .ok (.iconst 1, 1) := by decide +kernel
theorem dL_isWall_302 : decode cL_isWall 302 = .ok (.goto 4, 3) := by decide +kernel
theorem dL_isWall_305 : decode cL_isWall 305 = .ok (.iconst 0, 1) := by decide +kernel
theorem dL_isWall_306 : decode cL_isWall 306 = .ok (.istore 18, 2) := by decide +kernel
theorem dL_isWall_308 : decode cL_isWall 308 = .ok (.iload 18, 2) := by decide +kernel
theorem dL_isWall_310 : decode cL_isWall 310 = .ok (.ifCond .eq 8, 3) := by decide +kernel
theorem dL_isWall_313 : decode cL_isWall 313 = .ok (.iload 12, 2) := by decide +kernel
theorem dL_isWall_315 : decode cL_isWall 315 = .ok (.goto 5, 3) := by decide +kernel
theorem dL_isWall_318 : decode cL_isWall 318 = .ok (.iload 8, 2) := by decide +kernel
theorem dL_isWall_320 : decode cL_isWall 320 = .ok (.istore 8, 2) := by decide +kernel
theorem dL_isWall_322 : decode cL_isWall 322 = .ok (.iload 7, 2) := by decide +kernel
theorem dL_isWall_324 : decode cL_isWall 324 = .ok (.iload 15, 2) := by decide +kernel
theorem dL_isWall_326 : decode cL_isWall 326 = .ok (.ifCond .lt 23, 3) := by decide +kernel
theorem dL_isWall_329 : decode cL_isWall 329 = .ok (.aload_n 2, 1) := by decide +kernel
theorem dL_isWall_330 : decode cL_isWall 330 = .ok (.aload_n 3, 1) := by decide +kernel
theorem dL_isWall_331 : decode cL_isWall 331 = .ok (.bipush 12, 2) := by decide +kernel
theorem dL_isWall_333 : decode cL_isWall 333 = .ok (.iload 12, 2) := by decide +kernel
theorem dL_isWall_335 : decode cL_isWall 335 = .ok (.iadd, 1) := by decide +kernel
theorem dL_isWall_336 : decode cL_isWall 336 = .ok (.iaload, 1) := by decide +kernel
theorem dL_isWall_337 : decode cL_isWall 337 = .ok (.iaload, 1) := by decide +kernel
theorem dL_isWall_338 : decode cL_isWall 338 = .ok (.iload 4, 2) := by decide +kernel
theorem dL_isWall_340 : decode cL_isWall 340 = .ok (.iconst 3, 1) := by decide +kernel
theorem dL_isWall_341 : decode cL_isWall 341 = .ok (.irem, 1) := by decide +kernel
theorem dL_isWall_342 : decode cL_isWall 342 = .ok (.if_icmp .ne 7, 3) := by decide +kernel
theorem dL_isWall_345 : decode cL_isWall 345 = .ok (.iconst 1, 1) := by decide +kernel
theorem dL_isWall_346 : decode cL_isWall 346 = .ok (.goto 4, 3) := by decide +kernel
theorem dL_isWall_349 : decode cL_isWall 349 = .ok (.iconst 0, 1) := by decide +kernel
theorem dL_isWall_350 : decode cL_isWall 350 = .ok (.iadd, 1) := by decide +kernel
theorem dL_isWall_351 : decode cL_isWall 351 = .ok (.istore 7, 2) := by decide +kernel
theorem dL_isWall_353 : decode cL_isWall 353 = .ok (.aload_n 0, 1) := by decide +kernel
theorem dL_isWall_354 : decode cL_isWall 354 = .ok (.iload 12, 2) := by decide +kernel
theorem dL_isWall_356 : decode cL_isWall 356 = .ok (.invokevirtual 143, 3) := by decide +kernel
theorem dL_isWall_359 : decode cL_isWall 359 = .ok (.iload 13, 2) := by decide +kernel
theorem dL_isWall_361 : decode cL_isWall 361 = .ok (.if_icmp .ne 54, 3) := by decide +kernel
theorem dL_isWall_364 : decode cL_isWall 364 = .ok (.aload_n 0, 1) := by decide +kernel
theorem dL_isWall_365 : decode cL_isWall 365 = .ok (.iload 12, 2) := by decide +kernel
theorem dL_isWall_367 : decode cL_isWall 367 = .ok (.invokevirtual 146, 3) := by decide +kernel
theorem dL_isWall_370 : decode cL_isWall 370 = .ok (.iload 14, 2) := by decide +kernel
theorem dL_isWall_372 : decode cL_isWall 372 = .ok (.if_icmp .ne 43, 3) := by decide +kernel
theorem dL_isWall_375 : decode cL_isWall 375 = .ok (.aload_n 0, 1) := by decide +kernel
theorem dL_isWall_376 : decode cL_isWall 376 = .ok (.iload 12, 2) := by decide +kernel
theorem dL_isWall_378 : decode cL_isWall 378 = .ok (.invokevirtual 48, 3) := by decide +kernel
theorem dL_isWall_381 : decode cL_isWall 381 = .ok (.iload 15, 2) := by decide +kernel
theorem dL_isWall_383 : decode cL_isWall 383 = .ok (.ifCond .ge 7, 3) := by decide +kernel
theorem dL_isWall_386 : decode cL_isWall 386 = .ok (.iconst (-1), 1) := by decide +kernel
theorem dL_isWall_387 : decode cL_isWall 387 = .ok (.goto 21, 3) := by decide +kernel
theorem dL_isWall_390 : decode cL_isWall 390 = .ok (.bipush 100, 2) := by decide +kernel
theorem dL_isWall_392 : decode cL_isWall 392 = .ok (.iload 15, 2) := by decide +kernel
theorem dL_isWall_394 : decode cL_isWall 394 = .ok (.aload_n 1, 1) := by decide +kernel
theorem dL_isWall_395 : decode cL_isWall 395 = .ok (.bipush 6, 2) := by decide +kernel
theorem dL_isWall_397 : decode cL_isWall 397 = .ok (.iaload, 1) := by decide +kernel
theorem dL_isWall_398 : decode cL_isWall 398 = .ok (.irem, 1) := by decide +kernel
theorem dL_isWall_399 : decode cL_isWall 399 = .ok (.imul, 1) := by decide +kernel
theorem dL_isWall_400 : decode cL_isWall 400 = .ok (.iload 15, 2) := by decide +kernel
theorem dL_isWall_402 : decode cL_isWall 402 = .ok (.aload_n 1, 1) := by decide +kernel
theorem dL_isWall_403 : decode cL_isWall 403 = .ok (.bipush 6, 2) := by decide +kernel
theorem dL_isWall_405 : decode cL_isWall 405 = .ok (.iaload, 1) := by decide +kernel
theorem dL_isWall_406 : decode cL_isWall 406 = .ok (.idiv, 1) := by decide +kernel
theorem dL_isWall_407 : decode cL_isWall 407 = .ok (.iadd, 1) := by decide +kernel
theorem dL_isWall_408 : decode cL_isWall 408 = .ok (.if_icmp .ne 7, 3) := by decide +kernel
theorem dL_isWall_411 : decode cL_isWall 411 = .ok (.iconst 1, 1) := by decide +kernel
theorem dL_isWall_412 : decode cL_isWall 412 = .ok (.goto 4, 3) := by decide +kernel
theorem dL_isWall_415 : decode cL_isWall 415 = .ok (.iconst 0, 1) := by decide +kernel
theorem dL_isWall_416 : decode cL_isWall 416 = .ok (.istore 11, 2) := by decide +kernel
theorem dL_isWall_418 : decode cL_isWall 418 = .ok (.iinc 12 1, 3) := by decide +kernel
theorem dL_isWall_421 : decode cL_isWall 421 = .ok (.goto (-385), 3) := by decide +kernel
theorem dL_isWall_424 : decode cL_isWall 424 = .ok (.iload 11, 2) := by decide +kernel
theorem dL_isWall_426 : decode cL_isWall 426 = .ok (.ifCond .eq 41, 3) := by decide +kernel
theorem dL_isWall_429 : decode cL_isWall 429 = .ok (.aload_n 0, 1) := by decide +kernel
theorem dL_isWall_430 : decode cL_isWall 430 = .ok (.iload 9, 2) := by decide +kernel
theorem dL_isWall_432 : decode cL_isWall 432 = .ok (.iload 10, 2) := by decide +kernel
theorem dL_isWall_434 : decode cL_isWall 434 = .ok (.invokevirtual 148, 3) := by decide +kernel
theorem dL_isWall_437 : decode cL_isWall 437 = .ok (.iload 8, 2) := by decide +kernel
theorem dL_isWall_439 : decode cL_isWall 439 = .ok (.if_icmp .ne 28, 3) := by decide +kernel
theorem dL_isWall_442 : decode cL_isWall 442 = .ok (.aload_n 0, 1) := by decide +kernel
theorem dL_isWall_443 : decode cL_isWall 443 = .ok (.iload 4, 2) := by decide +kernel
theorem dL_isWall_445 : decode cL_isWall 445 = .ok (.iconst 3, 1) := by decide +kernel
theorem dL_isWall_446 : decode cL_isWall 446 = .ok (.irem, 1) := by decide +kernel
theorem dL_isWall_447 : decode cL_isWall 447 = .ok (.invokevirtual 151, 3) := by decide +kernel
theorem dL_isWall_450 : decode cL_isWall 450 = .ok (.iload 7, 2) := by decide +kernel
theorem dL_isWall_452 : decode cL_isWall 452 = .ok (.if_icmp .ne 15, 3) := by decide +kernel
theorem dL_isWall_455 : decode cL_isWall 455 = .ok (.aload_n 0, 1) := by decide +kernel
theorem dL_isWall_456 : decode cL_isWall 456 = .ok (.iconst 5, 1) := by decide +kernel
theorem dL_isWall_457 : decode cL_isWall 457 = .ok (.invokevirtual 151, 3) := by decide +kernel
theorem dL_isWall_460 : decode cL_isWall 460 = .ok (.ifCond .ne 7, 3) := by decide +kernel
theorem dL_isWall_463 : decode cL_isWall 463 = .ok (.iconst 1, 1) := by decide +kernel
theorem dL_isWall_464 : decode cL_isWall 464 = .ok (.goto 4, 3) := by decide +kernel
theorem dL_isWall_467 : decode cL_isWall 467 = .ok (.iconst 0, 1) := by decide +kernel
theorem dL_isWall_468 : decode cL_isWall 468 = .ok (.ireturn, 1) := by decide +kernel
theorem dL_isFree_0 : decode cL_isFree 0 = .ok (.iload_n 2, 1) := by decide +kernel
theorem dL_isFree_1 : decode cL_isFree 1 = .ok (.iload 4, 2) := by decide +kernel
theorem dL_isFree_3 : decode cL_isFree 3 = .ok (.iadd, 1) := by decide +kernel
theorem dL_isFree_4 : decode cL_isFree 4 = .ok (.aload_n 0, 1) := by decide +kernel
theorem dL_isFree_5 : decode cL_isFree 5 = .ok (.bipush 6, 2) := by decide +kernel
theorem dL_isFree_7 : decode cL_isFree 7 = .ok (.iaload, 1) := by decide +kernel
theorem dL_isFree_8 : decode cL_isFree 8 = .ok (.if_icmp .gt 18, 3) := by decide +kernel
theorem dL_isFree_11 : decode cL_isFree 11 = .ok (.iload_n 3, 1) := by decide +kernel
theorem dL_isFree_12 : decode cL_isFree 12 = .ok (.iload 5, 2) := by decide +kernel
theorem dL_isFree_14 : decode cL_isFree 14 = .ok (.iadd, 1) := by decide +kernel
theorem dL_isFree_15 : decode cL_isFree 15 = .ok (.aload_n 0, 1) := by decide +kernel
theorem dL_isFree_16 : decode cL_isFree 16 = .ok (.bipush 7, 2) := by decide +kernel
theorem dL_isFree_18 : decode cL_isFree 18 = .ok (.iaload, 1) := by decide +kernel
theorem dL_isFree_19 : decode cL_isFree 19 = .ok (.if_icmp .gt 7, 3) := by decide +kernel
theorem dL_isFree_22 : decode cL_isFree 22 = .ok (.iconst 1, 1) := by decide +kernel
theorem dL_isFree_23 : decode cL_isFree 23 = .ok (.goto 4, 3) := by decide +kernel
theorem dL_isFree_26 : decode cL_isFree 26 = .ok (.iconst 0, 1) := by decide +kernel
theorem dL_isFree_27 : decode cL_isFree 27 = .ok (.istore 6, 2) := by decide +kernel
theorem dL_isFree_29 : decode cL_isFree 29 = .ok (.iload_n 3, 1) := by decide +kernel
theorem dL_isFree_30 : decode cL_isFree 30 = .ok (.istore 7, 2) := by decide +kernel
theorem dL_isFree_32 : decode cL_isFree 32 = .ok (.iload 7, 2) := by decide +kernel
theorem dL_isFree_34 : decode cL_isFree 34 = .ok (.iload_n 3, 1) := by decide +kernel
theorem dL_isFree_35 : decode cL_isFree 35 = .ok (.iload 5, 2) := by decide +kernel
theorem dL_isFree_37 : decode cL_isFree 37 = .ok (.iadd, 1) := by decide +kernel
theorem dL_isFree_38 : decode cL_isFree 38 = .ok (.if_icmp .ge 39, 3) := by decide +kernel
theorem dL_isFree_41 : decode cL_isFree 41 = .ok (.iload 6, 2) := by decide +kernel
theorem dL_isFree_43 : decode cL_isFree 43 = .ok (.ifCond .eq 34, 3) := by decide +kernel
theorem dL_isFree_46 : decode cL_isFree 46 = .ok (.aload_n 1, 1) := by decide +kernel
theorem dL_isFree_47 : decode cL_isFree 47 = .ok (.iload 7, 2) := by decide +kernel
theorem dL_isFree_49 : decode cL_isFree 49 = .ok (.laload, 1) := by decide +kernel
theorem dL_isFree_50 : decode cL_isFree 50 = .ok (.iload_n 2, 1) := by decide +kernel
theorem dL_isFree_51 : decode cL_isFree 51 = .ok (.lshr, 1) := by decide +kernel
theorem dL_isFree_52 : decode cL_isFree 52 = .ok (.lconst 1, 1) := by decide +kernel
theorem dL_isFree_53 : decode cL_isFree 53 = .ok (.iload 4, 2) := by decide +kernel
theorem dL_isFree_55 : decode cL_isFree 55 = .ok (.lshl, 1) := by decide +kernel
theorem dL_isFree_56 : decode cL_isFree 56 = .ok (.lconst 1, 1) := by decide +kernel
theorem dL_isFree_57 : decode cL_isFree 57 = .ok (.lsub, 1) := by decide +kernel
theorem dL_isFree_58 : decode cL_isFree 58 = .ok (.land, 1) := by decide +kernel
theorem dL_isFree_59 : decode cL_isFree 59 = .ok (.lconst 0, 1) := by decide +kernel
theorem dL_isFree_60 : decode cL_isFree 60 = .ok (.lcmp, 1) := by decide +kernel
theorem dL_isFree_61 : decode cL_isFree 61 = .ok (.ifCond .ne 7, 3) := by decide +kernel
theorem dL_isFree_64 : decode cL_isFree 64 = .ok (.iconst 1, 1) := by decide +kernel
theorem dL_isFree_65 : decode cL_isFree 65 = .ok (.goto 4, 3) := by decide +kernel
theorem dL_isFree_68 : decode cL_isFree 68 = .ok (.iconst 0, 1) := by decide +kernel
theorem dL_isFree_69 : decode cL_isFree 69 = .ok (.istore 6, 2) := by decide +kernel
theorem dL_isFree_71 : decode cL_isFree 71 = .ok (.iinc 7 1, 3) := by decide +kernel
theorem dL_isFree_74 : decode cL_isFree 74 = .ok (.goto (-42), 3) := by decide +kernel
theorem dL_isFree_77 : decode cL_isFree 77 = .ok (.iload 6, 2) := by decide +kernel
theorem dL_isFree_79 : decode cL_isFree 79 = .ok (.ireturn, 1) := by decide +kernel
theorem dL_law_0 : decode cL_law 0 = .ok (.new 21, 3) := by decide +kernel
theorem dL_law_3 : decode cL_law 3 = .ok (.dup, 1) := by decide +kernel
theorem dL_law_4 : decode cL_law 4 = .ok (.invokespecial 154, 3) := by decide +kernel
theorem dL_law_7 : decode cL_law 7 = .ok (.astore_n 1, 1) := by decide +kernel
theorem dL_law_8 : decode cL_law 8 = .ok (.bipush 8, 2) := by decide +kernel
theorem dL_law_10 : decode cL_law 10 = .ok (.newarray .int, 2) := by decide +kernel
theorem dL_law_12 : decode cL_law 12 = .ok (.astore_n 2, 1) := by decide +kernel
theorem dL_law_13 : decode cL_law 13 = .ok (.bipush 60, 2) := by decide +kernel
theorem dL_law_15 : decode cL_law 15 = .ok (.newarray .int, 2) := by decide +kernel
theorem dL_law_17 : decode cL_law 17 = .ok (.astore_n 3, 1) := by decide +kernel
theorem dL_law_18 : decode cL_law 18 = .ok (.bipush 42, 2) := by decide +kernel
theorem dL_law_20 : decode cL_law 20 = .ok (.newarray .int, 2) := by decide +kernel
theorem dL_law_22 : decode cL_law 22 = .ok (.astore 4, 2) := by decide +kernel
theorem dL_law_24 : decode cL_law 24 = .ok (.aload_n 2, 1) := by decide +kernel
theorem dL_law_25 : decode cL_law 25 = .ok (.bipush 6, 2) := by decide +kernel
theorem dL_law_27 : decode cL_law 27 = .ok (.bipush 20, 2) := by decide +kernel
theorem dL_law_29 : decode cL_law 29 = .ok (.iastore, 1) := by decide +kernel
theorem dL_law_30 : decode cL_law 30 = .ok (.aload_n 2, 1) := by decide +kernel
theorem dL_law_31 : decode cL_law 31 = .ok (.bipush 7, 2) := by decide +kernel
theorem dL_law_33 : decode cL_law 33 = .ok (.bipush 20, 2) := by decide +kernel
theorem dL_law_35 : decode cL_law 35 = .ok (.iastore, 1) := by decide +kernel
theorem dL_law_36 : decode cL_law 36 = .ok (.aload_n 1, 1) := by decide +kernel
theorem dL_law_37 : decode cL_law 37 = .ok (.invokevirtual 20, 3) := by decide +kernel
theorem dL_law_40 : decode cL_law 40 = .ok (.ifCond .ne 41, 3) := by decide +kernel
theorem dL_law_43 : decode cL_law 43 = .ok (.aload_n 1, 1) := by decide +kernel
theorem dL_law_44 : decode cL_law 44 = .ok (.invokevirtual 34, 3) := by decide +kernel
theorem dL_law_47 : decode cL_law 47 = .ok (.ifCond .ne 34, 3) := by decide +kernel
theorem dL_law_50 : decode cL_law 50 = .ok (.aload_n 1, 1) := by decide +kernel
theorem dL_law_51 : decode cL_law 51 = .ok (.invokevirtual 52, 3) := by decide +kernel
theorem dL_law_54 : decode cL_law 54 = .ok (.ifCond .ne 27, 3) := by decide +kernel
theorem dL_law_57 : decode cL_law 57 = .ok (.aload_n 1, 1) := by decide +kernel
theorem dL_law_58 : decode cL_law 58 = .ok (.bipush 19, 2) := by decide +kernel
theorem dL_law_60 : decode cL_law 60 = .ok (.bipush 19, 2) := by decide +kernel
theorem dL_law_62 : decode cL_law 62 = .ok (.invokevirtual 148, 3) := by decide +kernel
theorem dL_law_65 : decode cL_law 65 = .ok (.iconst (-1), 1) := by decide +kernel
theorem dL_law_66 : decode cL_law 66 = .ok (.if_icmp .ne 15, 3) := by decide +kernel
theorem dL_law_69 : decode cL_law 69 = .ok (.aload_n 1, 1) := by decide +kernel
theorem dL_law_70 : decode cL_law 70 = .ok (.iconst 0, 1) := by decide +kernel
theorem dL_law_71 : decode cL_law 71 = .ok (.invokevirtual 151, 3) := by decide +kernel
theorem dL_law_74 : decode cL_law 74 = .ok (.ifCond .ne 7, 3) := by decide +kernel
theorem dL_law_77 : decode cL_law 77 = .ok (.iconst 1, 1) := by decide +kernel
theorem dL_law_78 : decode cL_law 78 = .ok (.goto 4, 3) := by decide +kernel
theorem dL_law_81 : decode cL_law 81 = .ok (.iconst 0, 1) := by decide +kernel
theorem dL_law_82 : decode cL_law 82 = .ok (.istore 5, 2) := by decide +kernel
theorem dL_law_84 : decode cL_law 84 = .ok (.aload_n 0, 1) := by decide +kernel
theorem dL_law_85 : decode cL_law 85 = .ok (.arraylength, 1) := by decide +kernel
theorem dL_law_86 : decode cL_law 86 = .ok (.iconst 3, 1) := by decide +kernel
theorem dL_law_87 : decode cL_law 87 = .ok (.idiv, 1) := by decide +kernel
theorem dL_law_88 : decode cL_law 88 = .ok (.bipush 120, 2) := by decide +kernel
theorem dL_law_90 : decode cL_law 90 = .ok (.if_icmp .le 8, 3) := by decide +kernel
theorem dL_law_93 : decode cL_law 93 = .ok (.bipush 120, 2) := by decide +kernel
theorem dL_law_95 : decode cL_law 95 = .ok (.goto 7, 3) := by decide +kernel
theorem dL_law_98 : decode cL_law 98 = .ok (.aload_n 0, 1) := by decide +kernel
theorem dL_law_99 : decode cL_law 99 = .ok (.arraylength, 1) := by decide +kernel
theorem dL_law_100 : decode cL_law 100 = .ok (.iconst 3, 1) := by decide +kernel
theorem dL_law_101 : decode cL_law 101 = .ok (.idiv, 1) := by decide +kernel
theorem dL_law_102 : decode cL_law 102 = .ok (.istore 6, 2) := by decide +kernel
theorem dL_law_104 : decode cL_law 104 = .ok (.iconst 0, 1) := by decide +kernel
theorem dL_law_105 : decode cL_law 105 = .ok (.istore 7, 2) := by decide +kernel
theorem dL_law_107 : decode cL_law 107 = .ok (.iload 7, 2) := by decide +kernel
theorem dL_law_109 : decode cL_law 109 = .ok (.iload 6, 2) := by decide +kernel
theorem dL_law_111 : decode cL_law 111 = .ok (.if_icmp .ge 147, 3) := by decide +kernel
theorem dL_law_114 : decode cL_law 114 = .ok (.iload 5, 2) := by decide +kernel
theorem dL_law_116 : decode cL_law 116 = .ok (.ifCond .eq 142, 3) := by decide +kernel
theorem dL_law_119 : decode cL_law 119 = .ok (.aload_n 0, 1) := by decide +kernel
theorem dL_law_120 : decode cL_law 120 = .ok (.iconst 3, 1) := by decide +kernel
theorem dL_law_121 : decode cL_law 121 = .ok (.iload 7, 2) := by decide +kernel
theorem dL_law_123 : decode cL_law 123 = .ok (.imul, 1) := by decide +kernel
theorem dL_law_124 : decode cL_law 124 = .ok (.iconst 1, 1) := by decide +kernel
theorem dL_law_125 : decode cL_law 125 = .ok (.iadd, 1) := by decide +kernel
theorem dL_law_126 : decode cL_law 126 = .ok (.invokestatic 155, 3) := by decide +kernel
theorem dL_law_129 : decode cL_law 129 = .ok (.istore 8, 2) := by decide +kernel
theorem dL_law_131 : decode cL_law 131 = .ok (.aload_n 0, 1) := by decide +kernel
theorem dL_law_132 : decode cL_law 132 = .ok (.iconst 3, 1) := by decide +kernel
theorem dL_law_133 : decode cL_law 133 = .ok (.iload 7, 2) := by decide +kernel
theorem dL_law_135 : decode cL_law 135 = .ok (.imul, 1) := by decide +kernel
theorem dL_law_136 : decode cL_law 136 = .ok (.iconst 2, 1) := by decide +kernel
theorem dL_law_137 : decode cL_law 137 = .ok (.iadd, 1) := by decide +kernel
theorem dL_law_138 : decode cL_law 138 = .ok (.invokestatic 155, 3) := by decide +kernel
theorem dL_law_141 : decode cL_law 141 = .ok (.istore 9, 2) := by decide +kernel
theorem dL_law_143 : decode cL_law 143 = .ok (.aload_n 1, 1) := by decide +kernel
theorem dL_law_144 : decode cL_law 144 = .ok (.aload_n 2, 1) := by decide +kernel
theorem dL_law_145 : decode cL_law 145 = .ok (.aload_n 3, 1) := by decide +kernel
theorem dL_law_146 : decode cL_law 146 = .ok (.aload 4, 2) := by decide +kernel
theorem dL_law_148 : decode cL_law 148 = .ok (.aload_n 0, 1) := by decide +kernel
theorem dL_law_149 : decode cL_law 149 = .ok (.iconst 3, 1) := by decide +kernel
theorem dL_law_150 : decode cL_law 150 = .ok (.iload 7, 2) := by decide +kernel
theorem dL_law_152 : decode cL_law 152 = .ok (.imul, 1) := by decide +kernel
theorem dL_law_153 : decode cL_law 153 = .ok (.invokestatic 155, 3) := by decide +kernel
theorem dL_law_156 : decode cL_law 156 = .ok (.iload 8, 2) := by decide +kernel
theorem dL_law_158 : decode cL_law 158 = .ok (.iload 9, 2) := by decide +kernel
theorem dL_law_160 : decode cL_law 160 = .ok (.invokestatic 159, 3) := by decide +kernel
theorem dL_law_163 : decode cL_law 163 = .ok (.ifCond .eq 86, 3) := by decide +kernel
theorem dL_law_166 : decode cL_law 166 = .ok (.aload_n 1, 1) := by decide +kernel
theorem dL_law_167 : decode cL_law 167 = .ok (.invokevirtual 52, 3) := by decide +kernel
theorem dL_law_170 : decode cL_law 170 = .ok (.aload_n 2, 1) := by decide +kernel
theorem dL_law_171 : decode cL_law 171 = .ok (.iconst 0, 1) := by decide +kernel
theorem dL_law_172 : decode cL_law 172 = .ok (.iaload, 1) := by decide +kernel
theorem dL_law_173 : decode cL_law 173 = .ok (.if_icmp .ne 76, 3) := by decide +kernel
theorem dL_law_176 : decode cL_law 176 = .ok (.aload_n 2, 1) := by decide +kernel
theorem dL_law_177 : decode cL_law 177 = .ok (.iconst 3, 1) := by decide +kernel
theorem dL_law_178 : decode cL_law 178 = .ok (.iaload, 1) := by decide +kernel
theorem dL_law_179 : decode cL_law 179 = .ok (.ifCond .eq 37, 3) := by decide +kernel
theorem dL_law_182 : decode cL_law 182 = .ok (.iload 7, 2) := by decide +kernel
theorem dL_law_184 : decode cL_law 184 = .ok (.bipush 12, 2) := by decide +kernel
theorem dL_law_186 : decode cL_law 186 = .ok (.irem, 1) := by decide +kernel
theorem dL_law_187 : decode cL_law 187 = .ok (.bipush 11, 2) := by decide +kernel
theorem dL_law_189 : decode cL_law 189 = .ok (.if_icmp .ne 27, 3) := by decide +kernel
theorem dL_law_192 : decode cL_law 192 = .ok (.aload_n 1, 1) := by decide +kernel
theorem dL_law_193 : decode cL_law 193 = .ok (.aload_n 3, 1) := by decide +kernel
theorem dL_law_194 : decode cL_law 194 = .ok (.iload 8, 2) := by decide +kernel
theorem dL_law_196 : decode cL_law 196 = .ok (.iconst 5, 1) := by decide +kernel
theorem dL_law_197 : decode cL_law 197 = .ok (.idiv, 1) := by decide +kernel
theorem dL_law_198 : decode cL_law 198 = .ok (.aload_n 2, 1) := by decide +kernel
theorem dL_law_199 : decode cL_law 199 = .ok (.iconst 3, 1) := by decide +kernel
theorem dL_law_200 : decode cL_law 200 = .ok (.iaload, 1) := by decide +kernel
theorem dL_law_201 : decode cL_law 201 = .ok (.irem, 1) := by decide +kernel
theorem dL_law_202 : decode cL_law 202 = .ok (.iload 9, 2) := by decide +kernel
theorem dL_law_204 : decode cL_law 204 = .ok (.iconst 5, 1) := by decide +kernel
theorem dL_law_205 : decode cL_law 205 = .ok (.idiv, 1) := by decide +kernel
theorem dL_law_206 : decode cL_law 206 = .ok (.aload_n 2, 1) := by decide +kernel
theorem dL_law_207 : decode cL_law 207 = .ok (.iconst 3, 1) := by decide +kernel
theorem dL_law_208 : decode cL_law 208 = .ok (.iaload, 1) := by decide +kernel
theorem dL_law_209 : decode cL_law 209 = .ok (.irem, 1) := by decide +kernel
theorem dL_law_210 : decode cL_law 210 = .ok (.invokestatic 162, 3) := by decide +kernel
theorem dL_law_213 : decode cL_law 213 = .ok (.ifCond .eq 36, 3) := by decide +kernel
theorem dL_law_216 : decode cL_law 216 = .ok (.iload 7, 2) := by decide +kernel
theorem dL_law_218 : decode cL_law 218 = .ok (.bipush 40, 2) := by decide +kernel
theorem dL_law_220 : decode cL_law 220 = .ok (.irem, 1) := by decide +kernel
theorem dL_law_221 : decode cL_law 221 = .ok (.bipush 39, 2) := by decide +kernel
theorem dL_law_223 : decode cL_law 223 = .ok (.if_icmp .ne 22, 3) := by decide +kernel
theorem dL_law_226 : decode cL_law 226 = .ok (.aload_n 1, 1) := by decide +kernel
theorem dL_law_227 : decode cL_law 227 = .ok (.aload_n 2, 1) := by decide +kernel
theorem dL_law_228 : decode cL_law 228 = .ok (.aload_n 3, 1) := by decide +kernel
theorem dL_law_229 : decode cL_law 229 = .ok (.aload 4, 2) := by decide +kernel
theorem dL_law_231 : decode cL_law 231 = .ok (.iload 8, 2) := by decide +kernel
theorem dL_law_233 : decode cL_law 233 = .ok (.iconst 3, 1) := by decide +kernel
theorem dL_law_234 : decode cL_law 234 = .ok (.idiv, 1) := by decide +kernel
theorem dL_law_235 : decode cL_law 235 = .ok (.iload 9, 2) := by decide +kernel
theorem dL_law_237 : decode cL_law 237 = .ok (.iconst 3, 1) := by decide +kernel
theorem dL_law_238 : decode cL_law 238 = .ok (.idiv, 1) := by decide +kernel
theorem dL_law_239 : decode cL_law 239 = .ok (.invokestatic 165, 3) := by decide +kernel
theorem dL_law_242 : decode cL_law 242 = .ok (.ifCond .eq 7, 3) := by decide +kernel
theorem dL_law_245 : decode cL_law 245 = .ok (.iconst 1, 1) := by decide +kernel
theorem dL_law_246 : decode cL_law 246 = .ok (.goto 4, 3) := by decide +kernel
theorem dL_law_249 : decode cL_law 249 = .ok (.iconst 0, 1) := by decide +kernel
theorem dL_law_250 : decode cL_law 250 = .ok (.istore 5, 2) := by decide +kernel
theorem dL_law_252 : decode cL_law 252 = .ok (.iinc 7 1, 3) := by decide +kernel
theorem dL_law_255 : decode cL_law 255 = .ok (.goto (-148), 3) := by decide +kernel
theorem dL_law_258 : decode cL_law 258 = .ok (.iload 5, 2) := by decide +kernel
theorem dL_law_260 : decode cL_law 260 = .ok (.ifCond .eq 21, 3) := by decide +kernel
theorem dL_law_263 : decode cL_law 263 = .ok (.aload_n 1, 1) := by decide +kernel
theorem dL_law_264 : decode cL_law 264 = .ok (.aload_n 2, 1) := by decide +kernel
theorem dL_law_265 : decode cL_law 265 = .ok (.aload_n 3, 1) := by decide +kernel
theorem dL_law_266 : decode cL_law 266 = .ok (.aload 4, 2) := by decide +kernel
theorem dL_law_268 : decode cL_law 268 = .ok (.bipush 7, 2) := by decide +kernel
theorem dL_law_270 : decode cL_law 270 = .ok (.iconst 3, 1) := by decide +kernel
theorem dL_law_271 : decode cL_law 271 = .ok (.invokestatic 165, 3) := by decide +kernel
theorem dL_law_274 : decode cL_law 274 = .ok (.ifCond .eq 7, 3) := by decide +kernel
theorem dL_law_277 : decode cL_law 277 = .ok (.iconst 1, 1) := by decide +kernel
theorem dL_law_278 : decode cL_law 278 = .ok (.goto 4, 3) := by decide +kernel
theorem dL_law_281 : decode cL_law 281 = .ok (.iconst 0, 1) := by decide +kernel
theorem dL_law_282 : decode cL_law 282 = .ok (.ireturn, 1) := by decide +kernel
