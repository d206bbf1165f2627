theorem dX7_follow_46 : decode cX7_follow 46 = .ok (.invokevirtual 78, 3) := by decide +kernel
theorem dX7_follow_49 : decode cX7_follow 49 = .ok (.ifCond .ne 5, 3) := by decide +kernel
theorem dX7_follow_52 : decode cX7_follow 52 = .ok (.iconst (-1), 1) := by decide +kernel
theorem dX7_follow_53 : decode cX7_follow 53 = .ok (.ireturn, 1) := by decide +kernel
theorem dX7_follow_54 : decode cX7_follow 54 = .ok (.aload_n 0, 1) := by decide +kernel
theorem dX7_follow_55 : decode cX7_follow 55 = .ok (.dup, 1) := by decide +kernel
theorem dX7_follow_56 : decode cX7_follow 56 = .ok (.getfield 39, 3) := by decide +kernel
theorem dX7_follow_59 : decode cX7_follow 59 = .ok (.iconst 1, 1) := by decide +kernel
theorem dX7_follow_60 : decode cX7_follow 60 = .ok (.iadd, 1) := by decide +kernel
theorem dX7_follow_61 : decode cX7_follow 61 = .ok (.putfield 39, 3) := by decide +kernel
theorem dX7_follow_64 : decode cX7_follow 64 = .ok (.aload_n 0, 1) := by decide +kernel
theorem dX7_follow_65 : decode cX7_follow 65 = .ok (.aload_n 3, 1) := by decide +kernel
theorem dX7_follow_66 : decode cX7_follow 66 = .ok (.invokevirtual 82, 3) := by decide +kernel
theorem dX7_follow_69 : decode cX7_follow 69 = .ok (.istore 4, 2) := by decide +kernel
theorem dX7_follow_71 : decode cX7_follow 71 = .ok (.aload_n 3, 1) := by decide +kernel
theorem dX7_follow_72 : decode cX7_follow 72 = .ok (.getfield 66, 3) := by decide +kernel
theorem dX7_follow_75 : decode cX7_follow 75 = .ok (.tableswitch 168 0 7 #[45, 62, 75, 97, 118, 148, 168, 157], 45) := by decide +kernel
theorem dX7_follow_120 : decode cX7_follow 120 = .ok (.aload_n 0, 1) := by decide +kernel
theorem dX7_follow_121 : decode cX7_follow 121 = .ok (.iload 4, 2) := by decide +kernel
theorem dX7_follow_123 : decode cX7_follow 123 = .ok (.invokevirtual 86, 3) := by decide +kernel
theorem dX7_follow_126 : decode cX7_follow 126 = .ok (.ifCond .eq 9, 3) := by decide +kernel
theorem dX7_follow_129 : decode cX7_follow 129 = .ok (.iload_n 2, 1) := by decide +kernel
theorem dX7_follow_130 : decode cX7_follow 130 = .ok (.iconst 1, 1) := by decide +kernel
theorem dX7_follow_131 : decode cX7_follow 131 = .ok (.iadd, 1) := by decide +kernel
theorem dX7_follow_132 : decode cX7_follow 132 = .ok (.goto 4, 3) := by decide +kernel
theorem dX7_follow_135 : decode cX7_follow 135 = .ok (.iconst (-1), 1) := by decide +kernel
theorem dX7_follow_136 : decode cX7_follow 136 = .ok (.ireturn, 1) := by decide +kernel
theorem dX7_follow_137 : decode cX7_follow 137 = .ok (.aload_n 0, 1) := by decide +kernel
theorem dX7_follow_138 : decode cX7_follow 138 = .ok (.getfield 12, 3) := by decide +kernel
theorem dX7_follow_141 : decode cX7_follow 141 = .ok (.iload 4, 2) := by decide +kernel
theorem dX7_follow_143 : decode cX7_follow 143 = .ok (.invokevirtual 90, 3) := by decide +kernel
theorem dX7_follow_146 : decode cX7_follow 146 = .ok (.iload_n 2, 1) := by decide +kernel
theorem dX7_follow_147 : decode cX7_follow 147 = .ok (.iconst 1, 1) := by decide +kernel
theorem dX7_follow_148 : decode cX7_follow 148 = .ok (.iadd, 1) := by decide +kernel
theorem dX7_follow_149 : decode cX7_follow 149 = .ok (.ireturn, 1) := by decide +kernel
theorem dX7_follow_150 : decode cX7_follow 150 = .ok (.aload_n 0, 1) := by decide +kernel
theorem dX7_follow_151 : decode cX7_follow 151 = .ok (.getfield 12, 3) := by decide +kernel
theorem dX7_follow_154 : decode cX7_follow 154 = .ok (.iload 4, 2) := by decide +kernel
theorem dX7_follow_156 : decode cX7_follow 156 = .ok (.iconst 1, 1) := by decide +kernel
theorem dX7_follow_157 : decode cX7_follow 157 = .ok (.if_icmp .ne 7, 3) := by decide +kernel
theorem dX7_follow_160 : decode cX7_follow 160 = .ok (.iconst 1, 1) := by decide +kernel
theorem dX7_follow_161 : decode cX7_follow 161 = .ok (.goto 4, 3) := by decide +kernel
theorem dX7_follow_164 : decode cX7_follow 164 = .ok (.iconst 0, 1) := by decide +kernel
theorem dX7_follow_165 : decode cX7_follow 165 = .ok (.invokevirtual 94, 3) := by decide +kernel
theorem dX7_follow_168 : decode cX7_follow 168 = .ok (.iload_n 2, 1) := by decide +kernel
theorem dX7_follow_169 : decode cX7_follow 169 = .ok (.iconst 1, 1) := by decide +kernel
theorem dX7_follow_170 : decode cX7_follow 170 = .ok (.iadd, 1) := by decide +kernel
theorem dX7_follow_171 : decode cX7_follow 171 = .ok (.ireturn, 1) := by decide +kernel
theorem dX7_follow_172 : decode cX7_follow 172 = .ok (.aload_n 0, 1) := by decide +kernel
theorem dX7_follow_173 : decode cX7_follow 173 = .ok (.aload_n 3, 1) := by decide +kernel
theorem dX7_follow_174 : decode cX7_follow 174 = .ok (.getfield 98, 3) := by decide +kernel
theorem dX7_follow_177 : decode cX7_follow 177 = .ok (.iload 4, 2) := by decide +kernel
theorem dX7_follow_179 : decode cX7_follow 179 = .ok (.invokevirtual 101, 3) := by decide +kernel
theorem dX7_follow_182 : decode cX7_follow 182 = .ok (.ifCond .eq 9, 3) := by decide +kernel
theorem dX7_follow_185 : decode cX7_follow 185 = .ok (.iload_n 2, 1) := by decide +kernel
theorem dX7_follow_186 : decode cX7_follow 186 = .ok (.iconst 1, 1) := by decide +kernel
theorem dX7_follow_187 : decode cX7_follow 187 = .ok (.iadd, 1) := by decide +kernel
theorem dX7_follow_188 : decode cX7_follow 188 = .ok (.goto 4, 3) := by decide +kernel
theorem dX7_follow_191 : decode cX7_follow 191 = .ok (.iconst (-1), 1) := by decide +kernel
theorem dX7_follow_192 : decode cX7_follow 192 = .ok (.ireturn, 1) := by decide +kernel
theorem dX7_follow_193 : decode cX7_follow 193 = .ok (.aload_n 0, 1) := by decide +kernel
theorem dX7_follow_194 : decode cX7_follow 194 = .ok (.aload_n 3, 1) := by decide +kernel
theorem dX7_follow_195 : decode cX7_follow 195 = .ok (.getfield 98, 3) := by decide +kernel
theorem dX7_follow_198 : decode cX7_follow 198 = .ok (.aload_n 0, 1) := by decide +kernel
theorem dX7_follow_199 : decode cX7_follow 199 = .ok (.aload_n 3, 1) := by decide +kernel
theorem dX7_follow_200 : decode cX7_follow 200 = .ok (.getfield 98, 3) := by decide +kernel
theorem dX7_follow_203 : decode cX7_follow 203 = .ok (.invokevirtual 105, 3) := by decide +kernel
theorem dX7_follow_206 : decode cX7_follow 206 = .ok (.iload 4, 2) := by decide +kernel
theorem dX7_follow_208 : decode cX7_follow 208 = .ok (.iadd, 1) := by decide +kernel
theorem dX7_follow_209 : decode cX7_follow 209 = .ok (.invokevirtual 101, 3) := by decide +kernel
theorem dX7_follow_212 : decode cX7_follow 212 = .ok (.ifCond .eq 9, 3) := by decide +kernel
theorem dX7_follow_215 : decode cX7_follow 215 = .ok (.iload_n 2, 1) := by decide +kernel
theorem dX7_follow_216 : decode cX7_follow 216 = .ok (.iconst 1, 1) := by decide +kernel
theorem dX7_follow_217 : decode cX7_follow 217 = .ok (.iadd, 1) := by decide +kernel
theorem dX7_follow_218 : decode cX7_follow 218 = .ok (.goto 4, 3) := by decide +kernel
theorem dX7_follow_221 : decode cX7_follow 221 = .ok (.iconst (-1), 1) := by decide +kernel
theorem dX7_follow_222 : decode cX7_follow 222 = .ok (.ireturn, 1) := by decide +kernel
theorem dX7_follow_223 : decode cX7_follow 223 = .ok (.aload_n 0, 1) := by decide +kernel
theorem dX7_follow_224 : decode cX7_follow 224 = .ok (.aload_n 1, 1) := by decide +kernel
theorem dX7_follow_225 : decode cX7_follow 225 = .ok (.iload_n 2, 1) := by decide +kernel
theorem dX7_follow_226 : decode cX7_follow 226 = .ok (.iload 4, 2) := by decide +kernel
theorem dX7_follow_228 : decode cX7_follow 228 = .ok (.invokevirtual 108, 3) := by decide +kernel
theorem dX7_follow_231 : decode cX7_follow 231 = .ok (.ireturn, 1) := by decide +kernel
theorem dX7_follow_232 : decode cX7_follow 232 = .ok (.aload_n 0, 1) := by decide +kernel
theorem dX7_follow_233 : decode cX7_follow 233 = .ok (.aload_n 1, 1) := by decide +kernel
theorem dX7_follow_234 : decode cX7_follow 234 = .ok (.iload_n 2, 1) := by decide +kernel
theorem dX7_follow_235 : decode cX7_follow 235 = .ok (.aload_n 3, 1) := by decide +kernel
theorem dX7_follow_236 : decode cX7_follow 236 = .ok (.getfield 98, 3) := by decide +kernel
theorem dX7_follow_239 : decode cX7_follow 239 = .ok (.invokevirtual 112, 3) := by decide +kernel
theorem dX7_follow_242 : decode cX7_follow 242 = .ok (.ireturn, 1) := by decide +kernel
theorem dX7_follow_243 : decode cX7_follow 243 = .ok (.iconst (-1), 1) := by decide +kernel
theorem dX7_follow_244 : decode cX7_follow 244 = .ok (.ireturn, 1) := by decide +kernel
theorem dX7_canCount_0 : decode cX7_canCount 0 = .ok (.aload_n 0, 1) := by decide +kernel
theorem dX7_canCount_1 : decode cX7_canCount 1 = .ok (.getfield 39, 3) := by decide +kernel
theorem dX7_canCount_4 : decode cX7_canCount 4 = .ok (.aload_n 0, 1) := by decide +kernel
theorem dX7_canCount_5 : decode cX7_canCount 5 = .ok (.getfield 42, 3) := by decide +kernel
theorem dX7_canCount_8 : decode cX7_canCount 8 = .ok (.if_icmp .lt 10, 3) := by decide +kernel
theorem dX7_canCount_11 : decode cX7_canCount 11 = .ok (.aload_n 0, 1) := by decide +kernel
theorem dX7_canCount_12 : decode cX7_canCount 12 = .ok (.iconst 1, 1) := by decide +kernel
theorem dX7_canCount_13 : decode cX7_canCount 13 = .ok (.putfield 35, 3) := by decide +kernel
theorem dX7_canCount_16 : decode cX7_canCount 16 = .ok (.iconst 0, 1) := by decide +kernel
theorem dX7_canCount_17 : decode cX7_canCount 17 = .ok (.ireturn, 1) := by decide +kernel
theorem dX7_canCount_18 : decode cX7_canCount 18 = .ok (.iconst 1, 1) := by decide +kernel
theorem dX7_canCount_19 : decode cX7_canCount 19 = .ok (.ireturn, 1) := by decide +kernel
theorem dX7_valueOf_0 : decode cX7_valueOf 0 = .ok (.aload_n 1, 1) := by decide +kernel
theorem dX7_valueOf_1 : decode cX7_valueOf 1 = .ok (.getfield 115, 3) := by decide +kernel
theorem dX7_valueOf_4 : decode cX7_valueOf 4 = .ok (.ifCond .eq 14, 3) := by decide +kernel
theorem dX7_valueOf_7 : decode cX7_valueOf 7 = .ok (.aload_n 0, 1) := by decide +kernel
theorem dX7_valueOf_8 : decode cX7_valueOf 8 = .ok (.aload_n 1, 1) := by decide +kernel
theorem dX7_valueOf_9 : decode cX7_valueOf 9 = .ok (.getfield 119, 3) := by decide +kernel
theorem dX7_valueOf_12 : decode cX7_valueOf 12 = .ok (.invokevirtual 105, 3) := by decide +kernel
theorem dX7_valueOf_15 : decode cX7_valueOf 15 = .ok (.goto 7, 3) := by decide +kernel
theorem dX7_valueOf_18 : decode cX7_valueOf 18 = .ok (.aload_n 1, 1) := by decide +kernel
theorem dX7_valueOf_19 : decode cX7_valueOf 19 = .ok (.getfield 119, 3) := by decide +kernel
theorem dX7_valueOf_22 : decode cX7_valueOf 22 = .ok (.ireturn, 1) := by decide +kernel
theorem dX7_nameAt_0 : decode cX7_nameAt 0 = .ok (.iload_n 1, 1) := by decide +kernel
theorem dX7_nameAt_1 : decode cX7_nameAt 1 = .ok (.ifCond .lt 21, 3) := by decide +kernel
theorem dX7_nameAt_4 : decode cX7_nameAt 4 = .ok (.iload_n 1, 1) := by decide +kernel
theorem dX7_nameAt_5 : decode cX7_nameAt 5 = .ok (.aload_n 0, 1) := by decide +kernel
theorem dX7_nameAt_6 : decode cX7_nameAt 6 = .ok (.getfield 18, 3) := by decide +kernel
theorem dX7_nameAt_9 : decode cX7_nameAt 9 = .ok (.arraylength, 1) := by decide +kernel
theorem dX7_nameAt_10 : decode cX7_nameAt 10 = .ok (.if_icmp .ge 12, 3) := by decide +kernel
theorem dX7_nameAt_13 : decode cX7_nameAt 13 = .ok (.aload_n 0, 1) := by decide +kernel
theorem dX7_nameAt_14 : decode cX7_nameAt 14 = .ok (.getfield 18, 3) := by decide +kernel
theorem dX7_nameAt_17 : decode cX7_nameAt 17 = .ok (.iload_n 1, 1) := by decide +kernel
theorem dX7_nameAt_18 : decode cX7_nameAt 18 = .ok (.iaload, 1) := by decide +kernel
theorem dX7_nameAt_19 : decode cX7_nameAt 19 = .ok (.goto 4, 3) := by decide +kernel
theorem dX7_nameAt_22 : decode cX7_nameAt 22 = .ok (.iconst 0, 1) := by decide +kernel
theorem dX7_nameAt_23 : decode cX7_nameAt 23 = .ok (.ireturn, 1) := by decide +kernel
theorem dX7_putName_0 : decode cX7_putName 0 = .ok (.iload_n 2, 1) := by decide +kernel
theorem dX7_putName_1 : decode cX7_putName 1 = .ok (.sipush 999, 3) := by decide +kernel
theorem dX7_putName_4 : decode cX7_putName 4 = .ok (.if_icmp .gt 10, 3) := by decide +kernel
theorem dX7_putName_7 : decode cX7_putName 7 = .ok (.iload_n 2, 1) := by decide +kernel
theorem dX7_putName_8 : decode cX7_putName 8 = .ok (.sipush (-999), 3) := by decide +kernel
theorem dX7_putName_11 : decode cX7_putName 11 = .ok (.if_icmp .ge 10, 3) := by decide +kernel
theorem dX7_putName_14 : decode cX7_putName 14 = .ok (.aload_n 0, 1) := by decide +kernel
theorem dX7_putName_15 : decode cX7_putName 15 = .ok (.iconst 3, 1) := by decide +kernel
theorem dX7_putName_16 : decode cX7_putName 16 = .ok (.putfield 35, 3) := by decide +kernel
theorem dX7_putName_19 : decode cX7_putName 19 = .ok (.iconst 0, 1) := by decide +kernel
theorem dX7_putName_20 : decode cX7_putName 20 = .ok (.ireturn, 1) := by decide +kernel
theorem dX7_putName_21 : decode cX7_putName 21 = .ok (.iload_n 1, 1) := by decide +kernel
theorem dX7_putName_22 : decode cX7_putName 22 = .ok (.ifCond .lt 19, 3) := by decide +kernel
theorem dX7_putName_25 : decode cX7_putName 25 = .ok (.iload_n 1, 1) := by decide +kernel
theorem dX7_putName_26 : decode cX7_putName 26 = .ok (.aload_n 0, 1) := by decide +kernel
theorem dX7_putName_27 : decode cX7_putName 27 = .ok (.getfield 18, 3) := by decide +kernel
theorem dX7_putName_30 : decode cX7_putName 30 = .ok (.arraylength, 1) := by decide +kernel
theorem dX7_putName_31 : decode cX7_putName 31 = .ok (.if_icmp .ge 10, 3) := by decide +kernel
theorem dX7_putName_34 : decode cX7_putName 34 = .ok (.aload_n 0, 1) := by decide +kernel
theorem dX7_putName_35 : decode cX7_putName 35 = .ok (.getfield 18, 3) := by decide +kernel
theorem dX7_putName_38 : decode cX7_putName 38 = .ok (.iload_n 1, 1) := by decide +kernel
theorem dX7_putName_39 : decode cX7_putName 39 = .ok (.iload_n 2, 1) := by decide +kernel
theorem dX7_putName_40 : decode cX7_putName 40 = .ok (.iastore, 1) := by decide +kernel
theorem dX7_putName_41 : decode cX7_putName 41 = .ok (.iconst 1, 1) := by decide +kernel
theorem dX7_putName_42 : decode cX7_putName 42 = .ok (.ireturn, 1) := by decide +kernel
theorem dX7_goForward_0 : decode cX7_goForward 0 = .ok (.iload_n 1, 1) := by decide +kernel
theorem dX7_goForward_1 : decode cX7_goForward 1 = .ok (.ifCond .ge 10, 3) := by decide +kernel
theorem dX7_goForward_4 : decode cX7_goForward 4 = .ok (.aload_n 0, 1) := by decide +kernel
theorem dX7_goForward_5 : decode cX7_goForward 5 = .ok (.iconst 3, 1) := by decide +kernel
theorem dX7_goForward_6 : decode cX7_goForward 6 = .ok (.putfield 35, 3) := by decide +kernel
theorem dX7_goForward_9 : decode cX7_goForward 9 = .ok (.iconst 0, 1) := by decide +kernel
theorem dX7_goForward_10 : decode cX7_goForward 10 = .ok (.ireturn, 1) := by decide +kernel
theorem dX7_goForward_11 : decode cX7_goForward 11 = .ok (.iconst 0, 1) := by decide +kernel
theorem dX7_goForward_12 : decode cX7_goForward 12 = .ok (.istore_n 2, 1) := by decide +kernel
theorem dX7_goForward_13 : decode cX7_goForward 13 = .ok (.iload_n 2, 1) := by decide +kernel
theorem dX7_goForward_14 : decode cX7_goForward 14 = .ok (.iload_n 1, 1) := by decide +kernel
theorem dX7_goForward_15 : decode cX7_goForward 15 = .ok (.if_icmp .ge 56, 3) := by decide +kernel
theorem dX7_goForward_18 : decode cX7_goForward 18 = .ok (.aload_n 0, 1) := by decide +kernel
theorem dX7_goForward_19 : decode cX7_goForward 19 = .ok (.invokevirtual 78, 3) := by decide +kernel
theorem dX7_goForward_22 : decode cX7_goForward 22 = .ok (.ifCond .ne 5, 3) := by decide +kernel
theorem dX7_goForward_25 : decode cX7_goForward 25 = .ok (.iconst 0, 1) := by decide +kernel
theorem dX7_goForward_26 : decode cX7_goForward 26 = .ok (.ireturn, 1) := by decide +kernel
theorem dX7_goForward_27 : decode cX7_goForward 27 = .ok (.aload_n 0, 1) := by decide +kernel
theorem dX7_goForward_28 : decode cX7_goForward 28 = .ok (.getfield 12, 3) := by decide +kernel
theorem dX7_goForward_31 : decode cX7_goForward 31 = .ok (.invokevirtual 122, 3) := by decide +kernel
theorem dX7_goForward_34 : decode cX7_goForward 34 = .ok (.ifCond .ne 10, 3) := by decide +kernel
theorem dX7_goForward_37 : decode cX7_goForward 37 = .ok (.aload_n 0, 1) := by decide +kernel
theorem dX7_goForward_38 : decode cX7_goForward 38 = .ok (.iconst 2, 1) := by decide +kernel
theorem dX7_goForward_39 : decode cX7_goForward 39 = .ok (.putfield 35, 3) := by decide +kernel
theorem dX7_goForward_42 : decode cX7_goForward 42 = .ok (.iconst 0, 1) := by decide +kernel
theorem dX7_goForward_43 : decode cX7_goForward 43 = .ok (.ireturn, 1) := by decide +kernel
theorem dX7_goForward_44 : decode cX7_goForward 44 = .ok (.aload_n 0, 1) := by decide +kernel
theorem dX7_goForward_45 : decode cX7_goForward 45 = .ok (.dup, 1) := by decide +kernel
theorem dX7_goForward_46 : decode cX7_goForward 46 = .ok (.getfield 39, 3) := by decide +kernel
theorem dX7_goForward_49 : decode cX7_goForward 49 = .ok (.iconst 1, 1) := by decide +kernel
theorem dX7_goForward_50 : decode cX7_goForward 50 = .ok (.iadd, 1) := by decide +kernel
theorem dX7_goForward_51 : decode cX7_goForward 51 = .ok (.putfield 39, 3) := by decide +kernel
theorem dX7_goForward_54 : decode cX7_goForward 54 = .ok (.aload_n 0, 1) := by decide +kernel
theorem dX7_goForward_55 : decode cX7_goForward 55 = .ok (.getfield 12, 3) := by decide +kernel
theorem dX7_goForward_58 : decode cX7_goForward 58 = .ok (.aload_n 0, 1) := by decide +kernel
theorem dX7_goForward_59 : decode cX7_goForward 59 = .ok (.getfield 31, 3) := by decide +kernel
theorem dX7_goForward_62 : decode cX7_goForward 62 = .ok (.invokevirtual 125, 3) := by decide +kernel
theorem dX7_goForward_65 : decode cX7_goForward 65 = .ok (.iinc 2 1, 3) := by decide +kernel
theorem dX7_goForward_68 : decode cX7_goForward 68 = .ok (.goto (-55), 3) := by decide +kernel
theorem dX7_goForward_71 : decode cX7_goForward 71 = .ok (.iconst 1, 1) := by decide +kernel
theorem dX7_goForward_72 : decode cX7_goForward 72 = .ok (.ireturn, 1) := by decide +kernel
theorem dX7_beginRepeat_0 : decode cX7_beginRepeat 0 = .ok (.aload_n 1, 1) := by decide +kernel
theorem dX7_beginRepeat_1 : decode cX7_beginRepeat 1 = .ok (.iload_n 2, 1) := by decide +kernel
theorem dX7_beginRepeat_2 : decode cX7_beginRepeat 2 = .ok (.invokevirtual 71, 3) := by decide +kernel
theorem dX7_beginRepeat_5 : decode cX7_beginRepeat 5 = .ok (.istore 4, 2) := by decide +kernel
theorem dX7_beginRepeat_7 : decode cX7_beginRepeat 7 = .ok (.aload_n 0, 1) := by decide +kernel
theorem dX7_beginRepeat_8 : decode cX7_beginRepeat 8 = .ok (.getfield 45, 3) := by decide +kernel
theorem dX7_beginRepeat_11 : decode cX7_beginRepeat 11 = .ok (.bipush 30, 2) := by decide +kernel
theorem dX7_beginRepeat_13 : decode cX7_beginRepeat 13 = .ok (.imul, 1) := by decide +kernel
theorem dX7_beginRepeat_14 : decode cX7_beginRepeat 14 = .ok (.iload_n 2, 1) := by decide +kernel
theorem dX7_beginRepeat_15 : decode cX7_beginRepeat 15 = .ok (.iadd, 1) := by decide +kernel
theorem dX7_beginRepeat_16 : decode cX7_beginRepeat 16 = .ok (.istore 5, 2) := by decide +kernel
theorem dX7_beginRepeat_18 : decode cX7_beginRepeat 18 = .ok (.iload_n 3, 1) := by decide +kernel
theorem dX7_beginRepeat_19 : decode cX7_beginRepeat 19 = .ok (.ifCond .le 11, 3) := by decide +kernel
theorem dX7_beginRepeat_22 : decode cX7_beginRepeat 22 = .ok (.iload 4, 2) := by decide +kernel
theorem dX7_beginRepeat_24 : decode cX7_beginRepeat 24 = .ok (.iload_n 2, 1) := by decide +kernel
theorem dX7_beginRepeat_25 : decode cX7_beginRepeat 25 = .ok (.iconst 1, 1) := by decide +kernel
theorem dX7_beginRepeat_26 : decode cX7_beginRepeat 26 = .ok (.iadd, 1) := by decide +kernel
theorem dX7_beginRepeat_27 : decode cX7_beginRepeat 27 = .ok (.if_icmp .ne 7, 3) := by decide +kernel
theorem dX7_beginRepeat_30 : decode cX7_beginRepeat 30 = .ok (.iconst 1, 1) := by decide +kernel
theorem dX7_beginRepeat_31 : decode cX7_beginRepeat 31 = .ok (.goto 4, 3) := by decide +kernel
theorem dX7_beginRepeat_34 : decode cX7_beginRepeat 34 = .ok (.iconst 0, 1) := by decide +kernel
theorem dX7_beginRepeat_35 : decode cX7_beginRepeat 35 = .ok (.istore 6, 2) := by decide +kernel
theorem dX7_beginRepeat_37 : decode cX7_beginRepeat 37 = .ok (.iload 6, 2) := by decide +kernel
theorem dX7_beginRepeat_39 : decode cX7_beginRepeat 39 = .ok (.ifCond .ne 18, 3) := by decide +kernel
theorem dX7_beginRepeat_42 : decode cX7_beginRepeat 42 = .ok (.iload 5, 2) := by decide +kernel
theorem dX7_beginRepeat_44 : decode cX7_beginRepeat 44 = .ok (.ifCond .lt 13, 3) := by decide +kernel
theorem dX7_beginRepeat_47 : decode cX7_beginRepeat 47 = .ok (.iload 5, 2) := by decide +kernel
theorem dX7_beginRepeat_49 : decode cX7_beginRepeat 49 = .ok (.aload_n 0, 1) := by decide +kernel
theorem dX7_beginRepeat_50 : decode cX7_beginRepeat 50 = .ok (.getfield 22, 3) := by decide +kernel
theorem dX7_beginRepeat_53 : decode cX7_beginRepeat 53 = .ok (.arraylength, 1) := by decide +kernel
theorem dX7_beginRepeat_54 : decode cX7_beginRepeat 54 = .ok (.if_icmp .lt 8, 3) := by decide +kernel
theorem dX7_beginRepeat_57 : decode cX7_beginRepeat 57 = .ok (.iload 4, 2) := by decide +kernel
theorem dX7_beginRepeat_59 : decode cX7_beginRepeat 59 = .ok (.iconst 1, 1) := by decide +kernel
theorem dX7_beginRepeat_60 : decode cX7_beginRepeat 60 = .ok (.iadd, 1) := by decide +kernel
theorem dX7_beginRepeat_61 : decode cX7_beginRepeat 61 = .ok (.ireturn, 1) := by decide +kernel
theorem dX7_beginRepeat_62 : decode cX7_beginRepeat 62 = .ok (.aload_n 0, 1) := by decide +kernel
theorem dX7_beginRepeat_63 : decode cX7_beginRepeat 63 = .ok (.getfield 22, 3) := by decide +kernel
theorem dX7_beginRepeat_66 : decode cX7_beginRepeat 66 = .ok (.iload 5, 2) := by decide +kernel
theorem dX7_beginRepeat_68 : decode cX7_beginRepeat 68 = .ok (.iload_n 3, 1) := by decide +kernel
theorem dX7_beginRepeat_69 : decode cX7_beginRepeat 69 = .ok (.iastore, 1) := by decide +kernel
theorem dX7_beginRepeat_70 : decode cX7_beginRepeat 70 = .ok (.iload_n 2, 1) := by decide +kernel
theorem dX7_beginRepeat_71 : decode cX7_beginRepeat 71 = .ok (.iconst 1, 1) := by decide +kernel
theorem dX7_beginRepeat_72 : decode cX7_beginRepeat 72 = .ok (.iadd, 1) := by decide +kernel
theorem dX7_beginRepeat_73 : decode cX7_beginRepeat 73 = .ok (.ireturn, 1) := by decide +kernel
theorem dX7_enterWord_0 : decode cX7_enterWord 0 = .ok (.aload_n 1, 1) := by decide +kernel
theorem dX7_enterWord_1 : decode cX7_enterWord 1 = .ok (.iload_n 3, 1) := by decide +kernel
theorem dX7_enterWord_2 : decode cX7_enterWord 2 = .ok (.invokevirtual 129, 3) := by decide +kernel
theorem dX7_enterWord_5 : decode cX7_enterWord 5 = .ok (.istore 4, 2) := by decide +kernel
theorem dX7_enterWord_7 : decode cX7_enterWord 7 = .ok (.iload 4, 2) := by decide +kernel
theorem dX7_enterWord_9 : decode cX7_enterWord 9 = .ok (.iconst (-1), 1) := by decide +kernel
theorem dX7_enterWord_10 : decode cX7_enterWord 10 = .ok (.if_icmp .ne 10, 3) := by decide +kernel
theorem dX7_enterWord_13 : decode cX7_enterWord 13 = .ok (.aload_n 0, 1) := by decide +kernel
theorem dX7_enterWord_14 : decode cX7_enterWord 14 = .ok (.iconst 5, 1) := by decide +kernel
theorem dX7_enterWord_15 : decode cX7_enterWord 15 = .ok (.putfield 35, 3) := by decide +kernel
theorem dX7_enterWord_18 : decode cX7_enterWord 18 = .ok (.iconst (-1), 1) := by decide +kernel
theorem dX7_enterWord_19 : decode cX7_enterWord 19 = .ok (.ireturn, 1) := by decide +kernel
theorem dX7_enterWord_20 : decode cX7_enterWord 20 = .ok (.aload_n 0, 1) := by decide +kernel
theorem dX7_enterWord_21 : decode cX7_enterWord 21 = .ok (.getfield 45, 3) := by decide +kernel
theorem dX7_enterWord_24 : decode cX7_enterWord 24 = .ok (.ifCond .lt 15, 3) := by decide +kernel
theorem dX7_enterWord_27 : decode cX7_enterWord 27 = .ok (.aload_n 0, 1) := by decide +kernel
theorem dX7_enterWord_28 : decode cX7_enterWord 28 = .ok (.getfield 45, 3) := by decide +kernel
theorem dX7_enterWord_31 : decode cX7_enterWord 31 = .ok (.aload_n 0, 1) := by decide +kernel
theorem dX7_enterWord_32 : decode cX7_enterWord 32 = .ok (.getfield 25, 3) := by decide +kernel
theorem dX7_enterWord_35 : decode cX7_enterWord 35 = .ok (.arraylength, 1) := by decide +kernel
theorem dX7_enterWord_36 : decode cX7_enterWord 36 = .ok (.if_icmp .lt 10, 3) := by decide +kernel
theorem dX7_enterWord_39 : decode cX7_enterWord 39 = .ok (.aload_n 0, 1) := by decide +kernel
theorem dX7_enterWord_40 : decode cX7_enterWord 40 = .ok (.iconst 4, 1) := by decide +kernel
theorem dX7_enterWord_41 : decode cX7_enterWord 41 = .ok (.putfield 35, 3) := by decide +kernel
theorem dX7_enterWord_44 : decode cX7_enterWord 44 = .ok (.iconst (-1), 1) := by decide +kernel
theorem dX7_enterWord_45 : decode cX7_enterWord 45 = .ok (.ireturn, 1) := by decide +kernel
theorem dX7_enterWord_46 : decode cX7_enterWord 46 = .ok (.aload_n 0, 1) := by decide +kernel
theorem dX7_enterWord_47 : decode cX7_enterWord 47 = .ok (.getfield 25, 3) := by decide +kernel
theorem dX7_enterWord_50 : decode cX7_enterWord 50 = .ok (.aload_n 0, 1) := by decide +kernel
theorem dX7_enterWord_51 : decode cX7_enterWord 51 = .ok (.getfield 45, 3) := by decide +kernel
theorem dX7_enterWord_54 : decode cX7_enterWord 54 = .ok (.iload_n 2, 1) := by decide +kernel
theorem dX7_enterWord_55 : decode cX7_enterWord 55 = .ok (.iastore, 1) := by decide +kernel
theorem dX7_enterWord_56 : decode cX7_enterWord 56 = .ok (.aload_n 0, 1) := by decide +kernel
theorem dX7_enterWord_57 : decode cX7_enterWord 57 = .ok (.dup, 1) := by decide +kernel
theorem dX7_enterWord_58 : decode cX7_enterWord 58 = .ok (.getfield 45, 3) := by decide +kernel
theorem dX7_enterWord_61 : decode cX7_enterWord 61 = .ok (.iconst 1, 1) := by decide +kernel
theorem dX7_enterWord_62 : decode cX7_enterWord 62 = .ok (.iadd, 1) := by decide +kernel
theorem dX7_enterWord_63 : decode cX7_enterWord 63 = .ok (.putfield 45, 3) := by decide +kernel
theorem dX7_enterWord_66 : decode cX7_enterWord 66 = .ok (.iload 4, 2) := by decide +kernel
theorem dX7_enterWord_68 : decode cX7_enterWord 68 = .ok (.iconst 1, 1) := by decide +kernel
theorem dX7_enterWord_69 : decode cX7_enterWord 69 = .ok (.iadd, 1) := by decide +kernel
theorem dX7_enterWord_70 : decode cX7_enterWord 70 = .ok (.ireturn, 1) := by decide +kernel
theorem dX7_closeBlock_0 : decode cX7_closeBlock 0 = .ok (.aload_n 1, 1) := by decide +kernel
theorem dX7_closeBlock_1 : decode cX7_closeBlock 1 = .ok (.iload_n 2, 1) := by decide +kernel
theorem dX7_closeBlock_2 : decode cX7_closeBlock 2 = .ok (.invokevirtual 71, 3) := by decide +kernel
theorem dX7_closeBlock_5 : decode cX7_closeBlock 5 = .ok (.istore_n 3, 1) := by decide +kernel
theorem dX7_closeBlock_6 : decode cX7_closeBlock 6 = .ok (.aload_n 1, 1) := by decide +kernel
theorem dX7_closeBlock_7 : decode cX7_closeBlock 7 = .ok (.iload_n 3, 1) := by decide +kernel
theorem dX7_closeBlock_8 : decode cX7_closeBlock 8 = .ok (.invokevirtual 62, 3) := by decide +kernel
theorem dX7_closeBlock_11 : decode cX7_closeBlock 11 = .ok (.astore 4, 2) := by decide +kernel
theorem dX7_closeBlock_13 : decode cX7_closeBlock 13 = .ok (.aload 4, 2) := by decide +kernel
theorem dX7_closeBlock_15 : decode cX7_closeBlock 15 = .ok (.ifnull 18, 3) := by decide +kernel
theorem dX7_closeBlock_18 : decode cX7_closeBlock 18 = .ok (.aload 4, 2) := by decide +kernel
theorem dX7_closeBlock_20 : decode cX7_closeBlock 20 = .ok (.getfield 66, 3) := by decide +kernel
theorem dX7_closeBlock_23 : decode cX7_closeBlock 23 = .ok (.bipush 6, 2) := by decide +kernel
theorem dX7_closeBlock_25 : decode cX7_closeBlock 25 = .ok (.if_icmp .ne 8, 3) := by decide +kernel
theorem dX7_closeBlock_28 : decode cX7_closeBlock 28 = .ok (.aload_n 0, 1) := by decide +kernel
theorem dX7_closeBlock_29 : decode cX7_closeBlock 29 = .ok (.invokevirtual 132, 3) := by decide +kernel
theorem dX7_closeBlock_32 : decode cX7_closeBlock 32 = .ok (.ireturn, 1) := by decide +kernel
theorem dX7_closeBlock_33 : decode cX7_closeBlock 33 = .ok (.aload_n 0, 1) := by decide +kernel
theorem dX7_closeBlock_34 : decode cX7_closeBlock 34 = .ok (.getfield 45, 3) := by decide +kernel
theorem dX7_closeBlock_37 : decode cX7_closeBlock 37 = .ok (.bipush 30, 2) := by decide +kernel
theorem dX7_closeBlock_39 : decode cX7_closeBlock 39 = .ok (.imul, 1) := by decide +kernel
theorem dX7_closeBlock_40 : decode cX7_closeBlock 40 = .ok (.iload_n 3, 1) := by decide +kernel
theorem dX7_closeBlock_41 : decode cX7_closeBlock 41 = .ok (.iadd, 1) := by decide +kernel
theorem dX7_closeBlock_42 : decode cX7_closeBlock 42 = .ok (.istore 5, 2) := by decide +kernel
theorem dX7_closeBlock_44 : decode cX7_closeBlock 44 = .ok (.iload 5, 2) := by decide +kernel
theorem dX7_closeBlock_46 : decode cX7_closeBlock 46 = .ok (.ifCond .lt 13, 3) := by decide +kernel
theorem dX7_closeBlock_49 : decode cX7_closeBlock 49 = .ok (.iload 5, 2) := by decide +kernel
theorem dX7_closeBlock_51 : decode cX7_closeBlock 51 = .ok (.aload_n 0, 1) := by decide +kernel
theorem dX7_closeBlock_52 : decode cX7_closeBlock 52 = .ok (.getfield 22, 3) := by decide +kernel
theorem dX7_closeBlock_55 : decode cX7_closeBlock 55 = .ok (.arraylength, 1) := by decide +kernel
theorem dX7_closeBlock_56 : decode cX7_closeBlock 56 = .ok (.if_icmp .lt 5, 3) := by decide +kernel
theorem dX7_closeBlock_59 : decode cX7_closeBlock 59 = .ok (.iconst (-1), 1) := by decide +kernel
theorem dX7_closeBlock_60 : decode cX7_closeBlock 60 = .ok (.ireturn, 1) := by decide +kernel
theorem dX7_closeBlock_61 : decode cX7_closeBlock 61 = .ok (.aload_n 0, 1) := by decide +kernel
theorem dX7_closeBlock_62 : decode cX7_closeBlock 62 = .ok (.getfield 22, 3) := by decide +kernel
theorem dX7_closeBlock_65 : decode cX7_closeBlock 65 = .ok (.iload 5, 2) := by decide +kernel
theorem dX7_closeBlock_67 : decode cX7_closeBlock 67 = .ok (.dup2, 1) := by decide +kernel
theorem dX7_closeBlock_68 : decode cX7_closeBlock 68 = .ok (.iaload, 1) := by decide +kernel
theorem dX7_closeBlock_69 : decode cX7_closeBlock 69 = .ok (.iconst 1, 1) := by decide +kernel
theorem dX7_closeBlock_70 : decode cX7_closeBlock 70 = .ok (.isub, 1) := by decide +kernel
theorem dX7_closeBlock_71 : decode cX7_closeBlock 71 = .ok (.iastore, 1) := by decide +kernel
theorem dX7_closeBlock_72 : decode cX7_closeBlock 72 = .ok (.aload_n 0, 1) := by decide +kernel
theorem dX7_closeBlock_73 : decode cX7_closeBlock 73 = .ok (.getfield 22, 3) := by decide +kernel
theorem dX7_closeBlock_76 : decode cX7_closeBlock 76 = .ok (.iload 5, 2) := by decide +kernel
theorem dX7_closeBlock_78 : decode cX7_closeBlock 78 = .ok (.iaload, 1) := by decide +kernel
theorem dX7_closeBlock_79 : decode cX7_closeBlock 79 = .ok (.ifCond .le 9, 3) := by decide +kernel
theorem dX7_closeBlock_82 : decode cX7_closeBlock 82 = .ok (.iload_n 3, 1) := by decide +kernel
theorem dX7_closeBlock_83 : decode cX7_closeBlock 83 = .ok (.iconst 1, 1) := by decide +kernel
theorem dX7_closeBlock_84 : decode cX7_closeBlock 84 = .ok (.iadd, 1) := by decide +kernel
theorem dX7_closeBlock_85 : decode cX7_closeBlock 85 = .ok (.goto 6, 3) := by decide +kernel
theorem dX7_closeBlock_88 : decode cX7_closeBlock 88 = .ok (.iload_n 2, 1) := by decide +kernel
theorem dX7_closeBlock_89 : decode cX7_closeBlock 89 = .ok (.iconst 1, 1) := by decide +kernel
theorem dX7_closeBlock_90 : decode cX7_closeBlock 90 = .ok (.iadd, 1) := by decide +kernel
theorem dX7_closeBlock_91 : decode cX7_closeBlock 91 = .ok (.ireturn, 1) := by decide +kernel
theorem dX7_leaveWord_0 : decode cX7_leaveWord 0 = .ok (.aload_n 0, 1) := by decide +kernel
theorem dX7_leaveWord_1 : decode cX7_leaveWord 1 = .ok (.getfield 45, 3) := by decide +kernel
theorem dX7_leaveWord_4 : decode cX7_leaveWord 4 = .ok (.iconst 1, 1) := by decide +kernel
theorem dX7_leaveWord_5 : decode cX7_leaveWord 5 = .ok (.isub, 1) := by decide +kernel
theorem dX7_leaveWord_6 : decode cX7_leaveWord 6 = .ok (.istore_n 1, 1) := by decide +kernel
theorem dX7_leaveWord_7 : decode cX7_leaveWord 7 = .ok (.iload_n 1, 1) := by decide +kernel
theorem dX7_leaveWord_8 : decode cX7_leaveWord 8 = .ok (.ifCond .lt 12, 3) := by decide +kernel
theorem dX7_leaveWord_11 : decode cX7_leaveWord 11 = .ok (.iload_n 1, 1) := by decide +kernel
theorem dX7_leaveWord_12 : decode cX7_leaveWord 12 = .ok (.aload_n 0, 1) := by decide +kernel
theorem dX7_leaveWord_13 : decode cX7_leaveWord 13 = .ok (.getfield 25, 3) := by decide +kernel
theorem dX7_leaveWord_16 : decode cX7_leaveWord 16 = .ok (.arraylength, 1) := by decide +kernel
theorem dX7_leaveWord_17 : decode cX7_leaveWord 17 = .ok (.if_icmp .lt 5, 3) := by decide +kernel
theorem dX7_leaveWord_20 : decode cX7_leaveWord 20 = .ok (.iconst (-1), 1) := by decide +kernel
theorem dX7_leaveWord_21 : decode cX7_leaveWord 21 = .ok (.ireturn, 1) := by decide +kernel
theorem dX7_leaveWord_22 : decode cX7_leaveWord 22 = .ok (.aload_n 0, 1) := by decide +kernel
theorem dX7_leaveWord_23 : decode cX7_leaveWord 23 = .ok (.iload_n 1, 1) := by decide +kernel
theorem dX7_leaveWord_24 : decode cX7_leaveWord 24 = .ok (.putfield 45, 3) := by decide +kernel
theorem dX7_leaveWord_27 : decode cX7_leaveWord 27 = .ok (.aload_n 0, 1) := by decide +kernel
theorem dX7_leaveWord_28 : decode cX7_leaveWord 28 = .ok (.getfield 25, 3) := by decide +kernel
theorem dX7_leaveWord_31 : decode cX7_leaveWord 31 = .ok (.iload_n 1, 1) := by decide +kernel
theorem dX7_leaveWord_32 : decode cX7_leaveWord 32 = .ok (.iaload, 1) := by decide +kernel
theorem dX7_leaveWord_33 : decode cX7_leaveWord 33 = .ok (.iconst 1, 1) := by decide +kernel
theorem dX7_leaveWord_34 : decode cX7_leaveWord 34 = .ok (.iadd, 1) := by decide +kernel
theorem dX7_leaveWord_35 : decode cX7_leaveWord 35 = .ok (.ireturn, 1) := by decide +kernel
theorem dX8_init_0 : decode cX8_init 0 = .ok (.aload_n 0, 1) := by decide +kernel
theorem dX8_init_1 : decode cX8_init 1 = .ok (.invokespecial 3, 3) := by decide +kernel
theorem dX8_init_4 : decode cX8_init 4 = .ok (.return_, 1) := by decide +kernel
theorem dX8_begin_0 : decode cX8_begin 0 = .ok (.aload_n 0, 1) := by decide +kernel
theorem dX8_begin_1 : decode cX8_begin 1 = .ok (.bipush 8, 2) := by decide +kernel
theorem dX8_begin_3 : decode cX8_begin 3 = .ok (.putfield 9, 3) := by decide +kernel
theorem dX8_begin_6 : decode cX8_begin 6 = .ok (.aload_n 0, 1) := by decide +kernel
theorem dX8_begin_7 : decode cX8_begin 7 = .ok (.bipush 8, 2) := by decide +kernel
theorem dX8_begin_9 : decode cX8_begin 9 = .ok (.putfield 15, 3) := by decide +kernel
theorem dX8_begin_12 : decode cX8_begin 12 = .ok (.aload_n 0, 1) := by decide +kernel
theorem dX8_begin_13 : decode cX8_begin 13 = .ok (.iconst 0, 1) := by decide +kernel
theorem dX8_begin_14 : decode cX8_begin 14 = .ok (.putfield 18, 3) := by decide +kernel
theorem dX8_begin_17 : decode cX8_begin 17 = .ok (.aload_n 0, 1) := by decide +kernel
theorem dX8_begin_18 : decode cX8_begin 18 = .ok (.iconst 1, 1) := by decide +kernel
theorem dX8_begin_19 : decode cX8_begin 19 = .ok (.putfield 21, 3) := by decide +kernel
theorem dX8_begin_22 : decode cX8_begin 22 = .ok (.return_, 1) := by decide +kernel
theorem dX8_turnBy_0 : decode cX8_turnBy 0 = .ok (.aload_n 0, 1) := by decide +kernel
theorem dX8_turnBy_1 : decode cX8_turnBy 1 = .ok (.aload_n 0, 1) := by decide +kernel
theorem dX8_turnBy_2 : decode cX8_turnBy 2 = .ok (.getfield 18, 3) := by decide +kernel
theorem dX8_turnBy_5 : decode cX8_turnBy 5 = .ok (.iload_n 1, 1) := by decide +kernel
theorem dX8_turnBy_6 : decode cX8_turnBy 6 = .ok (.iadd, 1) := by decide +kernel
theorem dX8_turnBy_7 : decode cX8_turnBy 7 = .ok (.iconst 4, 1) := by decide +kernel
theorem dX8_turnBy_8 : decode cX8_turnBy 8 = .ok (.invokestatic 25, 3) := by decide +kernel
theorem dX8_turnBy_11 : decode cX8_turnBy 11 = .ok (.putfield 18, 3) := by decide +kernel
theorem dX8_turnBy_14 : decode cX8_turnBy 14 = .ok (.return_, 1) := by decide +kernel
theorem dX8_putPen_0 : decode cX8_putPen 0 = .ok (.aload_n 0, 1) := by decide +kernel
theorem dX8_putPen_1 : decode cX8_putPen 1 = .ok (.iload_n 1, 1) := by decide +kernel
theorem dX8_putPen_2 : decode cX8_putPen 2 = .ok (.putfield 21, 3) := by decide +kernel
theorem dX8_putPen_5 : decode cX8_putPen 5 = .ok (.return_, 1) := by decide +kernel
theorem dX8_canGo_0 : decode cX8_canGo 0 = .ok (.aload_n 0, 1) := by decide +kernel
theorem dX8_canGo_1 : decode cX8_canGo 1 = .ok (.getfield 9, 3) := by decide +kernel
theorem dX8_canGo_4 : decode cX8_canGo 4 = .ok (.aload_n 0, 1) := by decide +kernel
theorem dX8_canGo_5 : decode cX8_canGo 5 = .ok (.invokevirtual 31, 3) := by decide +kernel
theorem dX8_canGo_8 : decode cX8_canGo 8 = .ok (.iadd, 1) := by decide +kernel
theorem dX8_canGo_9 : decode cX8_canGo 9 = .ok (.invokestatic 35, 3) := by decide +kernel
theorem dX8_canGo_12 : decode cX8_canGo 12 = .ok (.ifCond .eq 22, 3) := by decide +kernel
theorem dX8_canGo_15 : decode cX8_canGo 15 = .ok (.aload_n 0, 1) := by decide +kernel
theorem dX8_canGo_16 : decode cX8_canGo 16 = .ok (.getfield 15, 3) := by decide +kernel
theorem dX8_canGo_19 : decode cX8_canGo 19 = .ok (.aload_n 0, 1) := by decide +kernel
theorem dX8_canGo_20 : decode cX8_canGo 20 = .ok (.invokevirtual 39, 3) := by decide +kernel
theorem dX8_canGo_23 : decode cX8_canGo 23 = .ok (.iadd, 1) := by decide +kernel
theorem dX8_canGo_24 : decode cX8_canGo 24 = .ok (.invokestatic 35, 3) := by decide +kernel
theorem dX8_canGo_27 : decode cX8_canGo 27 = .ok (.ifCond .eq 7, 3) := by decide +kernel
theorem dX8_canGo_30 : decode cX8_canGo 30 = .ok (.iconst 1, 1) := by decide +kernel
theorem dX8_canGo_31 : decode cX8_canGo 31 = .ok (.goto 4, 3) := by decide +kernel
theorem dX8_canGo_34 : decode cX8_canGo 34 = .ok (.iconst 0, 1) := by decide +kernel
theorem dX8_canGo_35 : decode cX8_canGo 35 = .ok (.ireturn, 1) := by decide +kernel
theorem dX8_go_0 : decode cX8_go 0 = .ok (.aload_n 0, 1) := by decide +kernel
theorem dX8_go_1 : decode cX8_go 1 = .ok (.getfield 9, 3) := by decide +kernel
theorem dX8_go_4 : decode cX8_go 4 = .ok (.aload_n 0, 1) := by decide +kernel
theorem dX8_go_5 : decode cX8_go 5 = .ok (.invokevirtual 31, 3) := by decide +kernel
theorem dX8_go_8 : decode cX8_go 8 = .ok (.iadd, 1) := by decide +kernel
theorem dX8_go_9 : decode cX8_go 9 = .ok (.istore_n 2, 1) := by decide +kernel
theorem dX8_go_10 : decode cX8_go 10 = .ok (.aload_n 0, 1) := by decide +kernel
theorem dX8_go_11 : decode cX8_go 11 = .ok (.getfield 15, 3) := by decide +kernel
theorem dX8_go_14 : decode cX8_go 14 = .ok (.aload_n 0, 1) := by decide +kernel
theorem dX8_go_15 : decode cX8_go 15 = .ok (.invokevirtual 39, 3) := by decide +kernel
theorem dX8_go_18 : decode cX8_go 18 = .ok (.iadd, 1) := by decide +kernel
theorem dX8_go_19 : decode cX8_go 19 = .ok (.istore_n 3, 1) := by decide +kernel
theorem dX8_go_20 : decode cX8_go 20 = .ok (.aload_n 0, 1) := by decide +kernel
theorem dX8_go_21 : decode cX8_go 21 = .ok (.getfield 21, 3) := by decide +kernel
theorem dX8_go_24 : decode cX8_go 24 = .ok (.ifCond .eq 36, 3) := by decide +kernel
theorem dX8_go_27 : decode cX8_go 27 = .ok (.aload_n 1, 1) := by decide +kernel
theorem dX8_go_28 : decode cX8_go 28 = .ok (.aload_n 0, 1) := by decide +kernel
theorem dX8_go_29 : decode cX8_go 29 = .ok (.getfield 9, 3) := by decide +kernel
theorem dX8_go_32 : decode cX8_go 32 = .ok (.iload_n 2, 1) := by decide +kernel
theorem dX8_go_33 : decode cX8_go 33 = .ok (.invokestatic 42, 3) := by decide +kernel
theorem dX8_go_36 : decode cX8_go 36 = .ok (.aload_n 0, 1) := by decide +kernel
theorem dX8_go_37 : decode cX8_go 37 = .ok (.getfield 15, 3) := by decide +kernel
theorem dX8_go_40 : decode cX8_go 40 = .ok (.iload_n 3, 1) := by decide +kernel
theorem dX8_go_41 : decode cX8_go 41 = .ok (.invokestatic 42, 3) := by decide +kernel
theorem dX8_go_44 : decode cX8_go 44 = .ok (.aload_n 0, 1) := by decide +kernel
theorem dX8_go_45 : decode cX8_go 45 = .ok (.getfield 9, 3) := by decide +kernel
theorem dX8_go_48 : decode cX8_go 48 = .ok (.iload_n 2, 1) := by decide +kernel
theorem dX8_go_49 : decode cX8_go 49 = .ok (.if_icmp .ne 7, 3) := by decide +kernel
theorem dX8_go_52 : decode cX8_go 52 = .ok (.iconst 1, 1) := by decide +kernel
theorem dX8_go_53 : decode cX8_go 53 = .ok (.goto 4, 3) := by decide +kernel
theorem dX8_go_56 : decode cX8_go 56 = .ok (.iconst 0, 1) := by decide +kernel
theorem dX8_go_57 : decode cX8_go 57 = .ok (.invokevirtual 45, 3) := by decide +kernel
theorem dX8_go_60 : decode cX8_go 60 = .ok (.aload_n 0, 1) := by decide +kernel
theorem dX8_go_61 : decode cX8_go 61 = .ok (.iload_n 2, 1) := by decide +kernel
theorem dX8_go_62 : decode cX8_go 62 = .ok (.putfield 9, 3) := by decide +kernel
theorem dX8_go_65 : decode cX8_go 65 = .ok (.aload_n 0, 1) := by decide +kernel
theorem dX8_go_66 : decode cX8_go 66 = .ok (.iload_n 3, 1) := by decide +kernel
theorem dX8_go_67 : decode cX8_go 67 = .ok (.putfield 15, 3) := by decide +kernel
theorem dX8_go_70 : decode cX8_go 70 = .ok (.return_, 1) := by decide +kernel
theorem dX8_aheadX_0 : decode cX8_aheadX 0 = .ok (.aload_n 0, 1) := by decide +kernel
theorem dX8_aheadX_1 : decode cX8_aheadX 1 = .ok (.getfield 18, 3) := by decide +kernel
theorem dX8_aheadX_4 : decode cX8_aheadX 4 = .ok (.iconst 1, 1) := by decide +kernel
theorem dX8_aheadX_5 : decode cX8_aheadX 5 = .ok (.if_icmp .ne 7, 3) := by decide +kernel
theorem dX8_aheadX_8 : decode cX8_aheadX 8 = .ok (.iconst 1, 1) := by decide +kernel
theorem dX8_aheadX_9 : decode cX8_aheadX 9 = .ok (.goto 16, 3) := by decide +kernel
theorem dX8_aheadX_12 : decode cX8_aheadX 12 = .ok (.aload_n 0, 1) := by decide +kernel
theorem dX8_aheadX_13 : decode cX8_aheadX 13 = .ok (.getfield 18, 3) := by decide +kernel
theorem dX8_aheadX_16 : decode cX8_aheadX 16 = .ok (.iconst 3, 1) := by decide +kernel
theorem dX8_aheadX_17 : decode cX8_aheadX 17 = .ok (.if_icmp .ne 7, 3) := by decide +kernel
theorem dX8_aheadX_20 : decode cX8_aheadX 20 = .ok (.iconst (-1), 1) := by decide +kernel
theorem dX8_aheadX_21 : decode cX8_aheadX 21 = .ok (.goto 4, 3) := by decide +kernel
theorem dX8_aheadX_24 : decode cX8_aheadX 24 = .ok (.iconst 0, 1) := by decide +kernel
theorem dX8_aheadX_25 : decode cX8_aheadX 25 = .ok (.ireturn, 1) := by decide +kernel
theorem dX8_aheadY_0 : decode cX8_aheadY 0 = .ok (.aload_n 0, 1) := by decide +kernel
theorem dX8_aheadY_1 : decode cX8_aheadY 1 = .ok (.getfield 18, 3) := by decide +kernel
theorem dX8_aheadY_4 : decode cX8_aheadY 4 = .ok (.ifCond .ne 7, 3) := by decide +kernel
theorem dX8_aheadY_7 : decode cX8_aheadY 7 = .ok (.iconst 1, 1) := by decide +kernel
theorem dX8_aheadY_8 : decode cX8_aheadY 8 = .ok (.goto 16, 3) := by decide +kernel
theorem dX8_aheadY_11 : decode cX8_aheadY 11 = .ok (.aload_n 0, 1) := by decide +kernel
theorem dX8_aheadY_12 : decode cX8_aheadY 12 = .ok (.getfield 18, 3) := by decide +kernel
theorem dX8_aheadY_15 : decode cX8_aheadY 15 = .ok (.iconst 2, 1) := by decide +kernel
theorem dX8_aheadY_16 : decode cX8_aheadY 16 = .ok (.if_icmp .ne 7, 3) := by decide +kernel
theorem dX8_aheadY_19 : decode cX8_aheadY 19 = .ok (.iconst (-1), 1) := by decide +kernel
theorem dX8_aheadY_20 : decode cX8_aheadY 20 = .ok (.goto 4, 3) := by decide +kernel
theorem dX8_aheadY_23 : decode cX8_aheadY 23 = .ok (.iconst 0, 1) := by decide +kernel
theorem dX8_aheadY_24 : decode cX8_aheadY 24 = .ok (.ireturn, 1) := by decide +kernel
theorem dX9_init_0 : decode cX9_init 0 = .ok (.aload_n 0, 1) := by decide +kernel
theorem dX9_init_1 : decode cX9_init 1 = .ok (.invokespecial 3, 3) := by decide +kernel
theorem dX9_init_4 : decode cX9_init 4 = .ok (.aload_n 0, 1) := by decide +kernel
theorem dX9_init_5 : decode cX9_init 5 = .ok (.bipush 40, 2) := by decide +kernel
theorem dX9_init_7 : decode cX9_init 7 = .ok (.newarray .long, 2) := by decide +kernel
theorem dX9_init_9 : decode cX9_init 9 = .ok (.putfield 9, 3) := by decide +kernel
theorem dX9_init_12 : decode cX9_init 12 = .ok (.aload_n 0, 1) := by decide +kernel
theorem dX9_init_13 : decode cX9_init 13 = .ok (.bipush 20, 2) := by decide +kernel
theorem dX9_init_15 : decode cX9_init 15 = .ok (.putfield 15, 3) := by decide +kernel
theorem dX9_init_18 : decode cX9_init 18 = .ok (.aload_n 0, 1) := by decide +kernel
theorem dX9_init_19 : decode cX9_init 19 = .ok (.bipush 20, 2) := by decide +kernel
theorem dX9_init_21 : decode cX9_init 21 = .ok (.putfield 19, 3) := by decide +kernel
theorem dX9_init_24 : decode cX9_init 24 = .ok (.return_, 1) := by decide +kernel
theorem dX9_measure_0 : decode cX9_measure 0 = .ok (.aload_n 0, 1) := by decide +kernel
theorem dX9_measure_1 : decode cX9_measure 1 = .ok (.iload_n 1, 1) := by decide +kernel
theorem dX9_measure_2 : decode cX9_measure 2 = .ok (.putfield 15, 3) := by decide +kernel
theorem dX9_measure_5 : decode cX9_measure 5 = .ok (.aload_n 0, 1) := by decide +kernel
theorem dX9_measure_6 : decode cX9_measure 6 = .ok (.iload_n 2, 1) := by decide +kernel
theorem dX9_measure_7 : decode cX9_measure 7 = .ok (.putfield 19, 3) := by decide +kernel
theorem dX9_measure_10 : decode cX9_measure 10 = .ok (.return_, 1) := by decide +kernel
theorem dX9_makeEmpty_0 : decode cX9_makeEmpty 0 = .ok (.iconst 0, 1) := by decide +kernel
theorem dX9_makeEmpty_1 : decode cX9_makeEmpty 1 = .ok (.istore_n 1, 1) := by decide +kernel
theorem dX9_makeEmpty_2 : decode cX9_makeEmpty 2 = .ok (.iload_n 1, 1) := by decide +kernel
theorem dX9_makeEmpty_3 : decode cX9_makeEmpty 3 = .ok (.aload_n 0, 1) := by decide +kernel
theorem dX9_makeEmpty_4 : decode cX9_makeEmpty 4 = .ok (.getfield 9, 3) := by decide +kernel
theorem dX9_makeEmpty_7 : decode cX9_makeEmpty 7 = .ok (.arraylength, 1) := by decide +kernel
theorem dX9_makeEmpty_8 : decode cX9_makeEmpty 8 = .ok (.if_icmp .ge 16, 3) := by decide +kernel
theorem dX9_makeEmpty_11 : decode cX9_makeEmpty 11 = .ok (.aload_n 0, 1) := by decide +kernel
theorem dX9_makeEmpty_12 : decode cX9_makeEmpty 12 = .ok (.getfield 9, 3) := by decide +kernel
theorem dX9_makeEmpty_15 : decode cX9_makeEmpty 15 = .ok (.iload_n 1, 1) := by decide +kernel
theorem dX9_makeEmpty_16 : decode cX9_makeEmpty 16 = .ok (.lconst 0, 1) := by decide +kernel
theorem dX9_makeEmpty_17 : decode cX9_makeEmpty 17 = .ok (.lastore, 1) := by decide +kernel
theorem dX9_makeEmpty_18 : decode cX9_makeEmpty 18 = .ok (.iinc 1 1, 3) := by decide +kernel
theorem dX9_makeEmpty_21 : decode cX9_makeEmpty 21 = .ok (.goto (-19), 3) := by decide +kernel
theorem dX9_makeEmpty_24 : decode cX9_makeEmpty 24 = .ok (.return_, 1) := by decide +kernel
theorem dX9_hasCell_0 : decode cX9_hasCell 0 = .ok (.iload_n 1, 1) := by decide +kernel
theorem dX9_hasCell_1 : decode cX9_hasCell 1 = .ok (.ifCond .lt 27, 3) := by decide +kernel
theorem dX9_hasCell_4 : decode cX9_hasCell 4 = .ok (.iload_n 1, 1) := by decide +kernel
theorem dX9_hasCell_5 : decode cX9_hasCell 5 = .ok (.aload_n 0, 1) := by decide +kernel
theorem dX9_hasCell_6 : decode cX9_hasCell 6 = .ok (.getfield 15, 3) := by decide +kernel
theorem dX9_hasCell_9 : decode cX9_hasCell 9 = .ok (.if_icmp .ge 19, 3) := by decide +kernel
theorem dX9_hasCell_12 : decode cX9_hasCell 12 = .ok (.iload_n 2, 1) := by decide +kernel
theorem dX9_hasCell_13 : decode cX9_hasCell 13 = .ok (.ifCond .lt 15, 3) := by decide +kernel
theorem dX9_hasCell_16 : decode cX9_hasCell 16 = .ok (.iload_n 2, 1) := by decide +kernel
theorem dX9_hasCell_17 : decode cX9_hasCell 17 = .ok (.aload_n 0, 1) := by decide +kernel
theorem dX9_hasCell_18 : decode cX9_hasCell 18 = .ok (.getfield 19, 3) := by decide +kernel
theorem dX9_hasCell_21 : decode cX9_hasCell 21 = .ok (.if_icmp .ge 7, 3) := by decide +kernel
theorem dX9_hasCell_24 : decode cX9_hasCell 24 = .ok (.iconst 1, 1) := by decide +kernel
theorem dX9_hasCell_25 : decode cX9_hasCell 25 = .ok (.goto 4, 3) := by decide +kernel
theorem dX9_hasCell_28 : decode cX9_hasCell 28 = .ok (.iconst 0, 1) := by decide +kernel
theorem dX9_hasCell_29 : decode cX9_hasCell 29 = .ok (.ireturn, 1) := by decide +kernel
theorem dX9_place_0 : decode cX9_place 0 = .ok (.aload_n 1, 1) := by decide +kernel
theorem dX9_place_1 : decode cX9_place 1 = .ok (.getfield 22, 3) := by decide +kernel
theorem dX9_place_4 : decode cX9_place 4 = .ok (.getfield 28, 3) := by decide +kernel
theorem dX9_place_7 : decode cX9_place 7 = .ok (.invokevirtual 34, 3) := by decide +kernel
theorem dX9_place_10 : decode cX9_place 10 = .ok (.istore_n 2, 1) := by decide +kernel
theorem dX9_place_11 : decode cX9_place 11 = .ok (.aload_n 1, 1) := by decide +kernel
theorem dX9_place_12 : decode cX9_place 12 = .ok (.getfield 22, 3) := by decide +kernel
theorem dX9_place_15 : decode cX9_place 15 = .ok (.getfield 28, 3) := by decide +kernel
theorem dX9_place_18 : decode cX9_place 18 = .ok (.invokevirtual 40, 3) := by decide +kernel
theorem dX9_place_21 : decode cX9_place 21 = .ok (.istore_n 3, 1) := by decide +kernel
theorem dX9_place_22 : decode cX9_place 22 = .ok (.lconst 1, 1) := by decide +kernel
theorem dX9_place_23 : decode cX9_place 23 = .ok (.iload_n 2, 1) := by decide +kernel
theorem dX9_place_24 : decode cX9_place 24 = .ok (.lshl, 1) := by decide +kernel
theorem dX9_place_25 : decode cX9_place 25 = .ok (.lconst 1, 1) := by decide +kernel
theorem dX9_place_26 : decode cX9_place 26 = .ok (.lsub, 1) := by decide +kernel
theorem dX9_place_27 : decode cX9_place 27 = .ok (.lstore 4, 2) := by decide +kernel
theorem dX9_place_29 : decode cX9_place 29 = .ok (.iconst 0, 1) := by decide +kernel
theorem dX9_place_30 : decode cX9_place 30 = .ok (.istore 6, 2) := by decide +kernel
theorem dX9_place_32 : decode cX9_place 32 = .ok (.iload 6, 2) := by decide +kernel
theorem dX9_place_34 : decode cX9_place 34 = .ok (.aload_n 0, 1) := by decide +kernel
theorem dX9_place_35 : decode cX9_place 35 = .ok (.getfield 19, 3) := by decide +kernel
theorem dX9_place_38 : decode cX9_place 38 = .ok (.iload_n 3, 1) := by decide +kernel
theorem dX9_place_39 : decode cX9_place 39 = .ok (.isub, 1) := by decide +kernel
theorem dX9_place_40 : decode cX9_place 40 = .ok (.if_icmp .gt 56, 3) := by decide +kernel
theorem dX9_place_43 : decode cX9_place 43 = .ok (.aload_n 0, 1) := by decide +kernel
theorem dX9_place_44 : decode cX9_place 44 = .ok (.iload 6, 2) := by decide +kernel
theorem dX9_place_46 : decode cX9_place 46 = .ok (.iload_n 3, 1) := by decide +kernel
theorem dX9_place_47 : decode cX9_place 47 = .ok (.invokevirtual 43, 3) := by decide +kernel
theorem dX9_place_50 : decode cX9_place 50 = .ok (.lload 4, 2) := by decide +kernel
theorem dX9_place_52 : decode cX9_place 52 = .ok (.aload_n 0, 1) := by decide +kernel
theorem dX9_place_53 : decode cX9_place 53 = .ok (.getfield 15, 3) := by decide +kernel
theorem dX9_place_56 : decode cX9_place 56 = .ok (.iload_n 2, 1) := by decide +kernel
theorem dX9_place_57 : decode cX9_place 57 = .ok (.isub, 1) := by decide +kernel
theorem dX9_place_58 : decode cX9_place 58 = .ok (.invokestatic 47, 3) := by decide +kernel
theorem dX9_place_61 : decode cX9_place 61 = .ok (.istore 7, 2) := by decide +kernel
theorem dX9_place_63 : decode cX9_place 63 = .ok (.iload 7, 2) := by decide +kernel
theorem dX9_place_65 : decode cX9_place 65 = .ok (.iconst (-1), 1) := by decide +kernel
theorem dX9_place_66 : decode cX9_place 66 = .ok (.if_icmp .eq 24, 3) := by decide +kernel
theorem dX9_place_69 : decode cX9_place 69 = .ok (.aload_n 0, 1) := by decide +kernel
theorem dX9_place_70 : decode cX9_place 70 = .ok (.iload 6, 2) := by decide +kernel
theorem dX9_place_72 : decode cX9_place 72 = .ok (.iload_n 3, 1) := by decide +kernel
theorem dX9_place_73 : decode cX9_place 73 = .ok (.lload 4, 2) := by decide +kernel
theorem dX9_place_75 : decode cX9_place 75 = .ok (.iload 7, 2) := by decide +kernel
theorem dX9_place_77 : decode cX9_place 77 = .ok (.lshl, 1) := by decide +kernel
theorem dX9_place_78 : decode cX9_place 78 = .ok (.invokevirtual 51, 3) := by decide +kernel
theorem dX9_place_81 : decode cX9_place 81 = .ok (.aload_n 1, 1) := by decide +kernel
theorem dX9_place_82 : decode cX9_place 82 = .ok (.iload 7, 2) := by decide +kernel
theorem dX9_place_84 : decode cX9_place 84 = .ok (.iload 6, 2) := by decide +kernel
theorem dX9_place_86 : decode cX9_place 86 = .ok (.invokevirtual 55, 3) := by decide +kernel
theorem dX9_place_89 : decode cX9_place 89 = .ok (.return_, 1) := by decide +kernel
theorem dX9_place_90 : decode cX9_place 90 = .ok (.iinc 6 1, 3) := by decide +kernel
theorem dX9_place_93 : decode cX9_place 93 = .ok (.goto (-61), 3) := by decide +kernel
theorem dX9_place_96 : decode cX9_place 96 = .ok (.return_, 1) := by decide +kernel
theorem dX9_firstFree_0 : decode cX9_firstFree 0 = .ok (.iconst 0, 1) := by decide +kernel
theorem dX9_firstFree_1 : decode cX9_firstFree 1 = .ok (.istore 5, 2) := by decide +kernel
theorem dX9_firstFree_3 : decode cX9_firstFree 3 = .ok (.iload 5, 2) := by decide +kernel
theorem dX9_firstFree_5 : decode cX9_firstFree 5 = .ok (.iload 4, 2) := by decide +kernel
theorem dX9_firstFree_7 : decode cX9_firstFree 7 = .ok (.if_icmp .gt 23, 3) := by decide +kernel
theorem dX9_firstFree_10 : decode cX9_firstFree 10 = .ok (.lload_n 0, 1) := by decide +kernel
theorem dX9_firstFree_11 : decode cX9_firstFree 11 = .ok (.iload 5, 2) := by decide +kernel
theorem dX9_firstFree_13 : decode cX9_firstFree 13 = .ok (.lshr, 1) := by decide +kernel
theorem dX9_firstFree_14 : decode cX9_firstFree 14 = .ok (.lload_n 2, 1) := by decide +kernel
theorem dX9_firstFree_15 : decode cX9_firstFree 15 = .ok (.land, 1) := by decide +kernel
theorem dX9_firstFree_16 : decode cX9_firstFree 16 = .ok (.lconst 0, 1) := by decide +kernel
theorem dX9_firstFree_17 : decode cX9_firstFree 17 = .ok (.lcmp, 1) := by decide +kernel
theorem dX9_firstFree_18 : decode cX9_firstFree 18 = .ok (.ifCond .ne 6, 3) := by decide +kernel
theorem dX9_firstFree_21 : decode cX9_firstFree 21 = .ok (.iload 5, 2) := by decide +kernel
theorem dX9_firstFree_23 : decode cX9_firstFree 23 = .ok (.ireturn, 1) := by decide +kernel
theorem dX9_firstFree_24 : decode cX9_firstFree 24 = .ok (.iinc 5 1, 3) := by decide +kernel
theorem dX9_firstFree_27 : decode cX9_firstFree 27 = .ok (.goto (-24), 3) := by decide +kernel
theorem dX9_firstFree_30 : decode cX9_firstFree 30 = .ok (.iconst (-1), 1) := by decide +kernel
theorem dX9_firstFree_31 : decode cX9_firstFree 31 = .ok (.ireturn, 1) := by decide +kernel
theorem dX9_takenFrom_0 : decode cX9_takenFrom 0 = .ok (.lconst 0, 1) := by decide +kernel
theorem dX9_takenFrom_1 : decode cX9_takenFrom 1 = .ok (.lstore_n 3, 1) := by decide +kernel
theorem dX9_takenFrom_2 : decode cX9_takenFrom 2 = .ok (.iload_n 1, 1) := by decide +kernel
theorem dX9_takenFrom_3 : decode cX9_takenFrom 3 = .ok (.istore 5, 2) := by decide +kernel
theorem dX9_takenFrom_5 : decode cX9_takenFrom 5 = .ok (.iload 5, 2) := by decide +kernel
theorem dX9_takenFrom_7 : decode cX9_takenFrom 7 = .ok (.iload_n 1, 1) := by decide +kernel
theorem dX9_takenFrom_8 : decode cX9_takenFrom 8 = .ok (.iload_n 2, 1) := by decide +kernel
theorem dX9_takenFrom_9 : decode cX9_takenFrom 9 = .ok (.iadd, 1) := by decide +kernel
theorem dX9_takenFrom_10 : decode cX9_takenFrom 10 = .ok (.if_icmp .ge 34, 3) := by decide +kernel
theorem dX9_takenFrom_13 : decode cX9_takenFrom 13 = .ok (.iload 5, 2) := by decide +kernel
theorem dX9_takenFrom_15 : decode cX9_takenFrom 15 = .ok (.ifCond .lt 29, 3) := by decide +kernel
theorem dX9_takenFrom_18 : decode cX9_takenFrom 18 = .ok (.iload 5, 2) := by decide +kernel
theorem dX9_takenFrom_20 : decode cX9_takenFrom 20 = .ok (.aload_n 0, 1) := by decide +kernel
theorem dX9_takenFrom_21 : decode cX9_takenFrom 21 = .ok (.getfield 9, 3) := by decide +kernel
theorem dX9_takenFrom_24 : decode cX9_takenFrom 24 = .ok (.arraylength, 1) := by decide +kernel
theorem dX9_takenFrom_25 : decode cX9_takenFrom 25 = .ok (.if_icmp .ge 19, 3) := by decide +kernel
theorem dX9_takenFrom_28 : decode cX9_takenFrom 28 = .ok (.lload_n 3, 1) := by decide +kernel
theorem dX9_takenFrom_29 : decode cX9_takenFrom 29 = .ok (.aload_n 0, 1) := by decide +kernel
theorem dX9_takenFrom_30 : decode cX9_takenFrom 30 = .ok (.getfield 9, 3) := by decide +kernel
theorem dX9_takenFrom_33 : decode cX9_takenFrom 33 = .ok (.iload 5, 2) := by decide +kernel
theorem dX9_takenFrom_35 : decode cX9_takenFrom 35 = .ok (.laload, 1) := by decide +kernel
theorem dX9_takenFrom_36 : decode cX9_takenFrom 36 = .ok (.lor, 1) := by decide +kernel
theorem dX9_takenFrom_37 : decode cX9_takenFrom 37 = .ok (.lstore_n 3, 1) := by decide +kernel
theorem dX9_takenFrom_38 : decode cX9_takenFrom 38 = .ok (.iinc 5 1, 3) := by decide +kernel
theorem dX9_takenFrom_41 : decode cX9_takenFrom 41 = .ok (.goto (-36), 3) := by decide +kernel
theorem dX9_takenFrom_44 : decode cX9_takenFrom 44 = .ok (.lload_n 3, 1) := by decide +kernel
theorem dX9_takenFrom_45 : decode cX9_takenFrom 45 = .ok (.lreturn, 1) := by decide +kernel
theorem dX9_take_0 : decode cX9_take 0 = .ok (.iload_n 1, 1) := by decide +kernel
theorem dX9_take_1 : decode cX9_take 1 = .ok (.istore 5, 2) := by decide +kernel
theorem dX9_take_3 : decode cX9_take 3 = .ok (.iload 5, 2) := by decide +kernel
theorem dX9_take_5 : decode cX9_take 5 = .ok (.iload_n 1, 1) := by decide +kernel
theorem dX9_take_6 : decode cX9_take 6 = .ok (.iload_n 2, 1) := by decide +kernel
theorem dX9_take_7 : decode cX9_take 7 = .ok (.iadd, 1) := by decide +kernel
theorem dX9_take_8 : decode cX9_take 8 = .ok (.if_icmp .ge 35, 3) := by decide +kernel
theorem dX9_take_11 : decode cX9_take 11 = .ok (.iload 5, 2) := by decide +kernel
theorem dX9_take_13 : decode cX9_take 13 = .ok (.ifCond .lt 30, 3) := by decide +kernel
theorem dX9_take_16 : decode cX9_take 16 = .ok (.iload 5, 2) := by decide +kernel
theorem dX9_take_18 : decode cX9_take 18 = .ok (.aload_n 0, 1) := by decide +kernel
theorem dX9_take_19 : decode cX9_take 19 = .ok (.getfield 9, 3) := by decide +kernel
theorem dX9_take_22 : decode cX9_take 22 = .ok (.arraylength, 1) := by decide +kernel
theorem dX9_take_23 : decode cX9_take 23 = .ok (.if_icmp .ge 20, 3) := by decide +kernel
theorem dX9_take_26 : decode cX9_take 26 = .ok (.aload_n 0, 1) := by decide +kernel
theorem dX9_take_27 : decode cX9_take 27 = .ok (.getfield 9, 3) := by decide +kernel
theorem dX9_take_30 : decode cX9_take 30 = .ok (.iload 5, 2) := by decide +kernel
theorem dX9_take_32 : decode cX9_take 32 = .ok (.dup2, 1) := by decide +kernel
theorem dX9_take_33 : decode cX9_take 33 = .ok (.laload, 1) := by decide +kernel
theorem dX9_take_34 : decode cX9_take 34 = .ok (.lload_n 3, 1) := by decide +kernel
theorem dX9_take_35 : decode cX9_take 35 = .ok (.lor, 1) := by decide +kernel
theorem dX9_take_36 : decode cX9_take 36 = .ok (.lastore, 1) := by decide +kernel
theorem dX9_take_37 : decode cX9_take 37 = .ok (.iinc 5 1, 3) := by decide +kernel
theorem dX9_take_40 : decode cX9_take 40 = .ok (.goto (-37), 3) := by decide +kernel
theorem dX9_take_43 : decode cX9_take 43 = .ok (.return_, 1) := by decide +kernel
theorem dX10_init_0 : decode cX10_init 0 = .ok (.aload_n 0, 1) := by decide +kernel
theorem dX10_init_1 : decode cX10_init 1 = .ok (.invokespecial 3, 3) := by decide +kernel
theorem dX10_init_4 : decode cX10_init 4 = .ok (.aload_n 0, 1) := by decide +kernel
theorem dX10_init_5 : decode cX10_init 5 = .ok (.aload_n 1, 1) := by decide +kernel
theorem dX10_init_6 : decode cX10_init 6 = .ok (.putfield 9, 3) := by decide +kernel
theorem dX10_init_9 : decode cX10_init 9 = .ok (.aload_n 0, 1) := by decide +kernel
theorem dX10_init_10 : decode cX10_init 10 = .ok (.aload_n 2, 1) := by decide +kernel
theorem dX10_init_11 : decode cX10_init 11 = .ok (.putfield 15, 3) := by decide +kernel
theorem dX10_init_14 : decode cX10_init 14 = .ok (.aload_n 0, 1) := by decide +kernel
theorem dX10_init_15 : decode cX10_init 15 = .ok (.iload_n 3, 1) := by decide +kernel
theorem dX10_init_16 : decode cX10_init 16 = .ok (.putfield 19, 3) := by decide +kernel
theorem dX10_init_19 : decode cX10_init 19 = .ok (.return_, 1) := by decide +kernel
theorem dX10_meetsExercise_0 : decode cX10_meetsExercise 0 = .ok (.aload_n 0, 1) := by decide +kernel
theorem dX10_meetsExercise_1 : decode cX10_meetsExercise 1 = .ok (.getfield 15, 3) := by decide +kernel
theorem dX10_meetsExercise_4 : decode cX10_meetsExercise 4 = .ok (.aload_n 0, 1) := by decide +kernel
theorem dX10_meetsExercise_5 : decode cX10_meetsExercise 5 = .ok (.getfield 9, 3) := by decide +kernel
theorem dX10_meetsExercise_8 : decode cX10_meetsExercise 8 = .ok (.invokevirtual 23, 3) := by decide +kernel
theorem dX10_meetsExercise_11 : decode cX10_meetsExercise 11 = .ok (.ireturn, 1) := by decide +kernel
theorem dX10_isInDoubt_0 : decode cX10_isInDoubt 0 = .ok (.aload_n 0, 1) := by decide +kernel
theorem dX10_isInDoubt_1 : decode cX10_isInDoubt 1 = .ok (.getfield 19, 3) := by decide +kernel
theorem dX10_isInDoubt_4 : decode cX10_isInDoubt 4 = .ok (.iconst (-1), 1) := by decide +kernel
theorem dX10_isInDoubt_5 : decode cX10_isInDoubt 5 = .ok (.if_icmp .eq 14, 3) := by decide +kernel
theorem dX10_isInDoubt_8 : decode cX10_isInDoubt 8 = .ok (.aload_n 0, 1) := by decide +kernel
theorem dX10_isInDoubt_9 : decode cX10_isInDoubt 9 = .ok (.getfield 29, 3) := by decide +kernel
theorem dX10_isInDoubt_12 : decode cX10_isInDoubt 12 = .ok (.ifCond .ne 7, 3) := by decide +kernel
theorem dX10_isInDoubt_15 : decode cX10_isInDoubt 15 = .ok (.iconst 1, 1) := by decide +kernel
theorem dX10_isInDoubt_16 : decode cX10_isInDoubt 16 = .ok (.goto 4, 3) := by decide +kernel
theorem dX10_isInDoubt_19 : decode cX10_isInDoubt 19 = .ok (.iconst 0, 1) := by decide +kernel
theorem dX10_isInDoubt_20 : decode cX10_isInDoubt 20 = .ok (.ireturn, 1) := by decide +kernel
theorem dX10_covers_0 : decode cX10_covers 0 = .ok (.aload_n 0, 1) := by decide +kernel
theorem dX10_covers_1 : decode cX10_covers 1 = .ok (.getfield 33, 3) := by decide +kernel
theorem dX10_covers_4 : decode cX10_covers 4 = .ok (.ifCond .eq 61, 3) := by decide +kernel
theorem dX10_covers_7 : decode cX10_covers 7 = .ok (.iload_n 1, 1) := by decide +kernel
theorem dX10_covers_8 : decode cX10_covers 8 = .ok (.aload_n 0, 1) := by decide +kernel
theorem dX10_covers_9 : decode cX10_covers 9 = .ok (.getfield 36, 3) := by decide +kernel
theorem dX10_covers_12 : decode cX10_covers 12 = .ok (.if_icmp .lt 53, 3) := by decide +kernel
theorem dX10_covers_15 : decode cX10_covers 15 = .ok (.iload_n 1, 1) := by decide +kernel
theorem dX10_covers_16 : decode cX10_covers 16 = .ok (.aload_n 0, 1) := by decide +kernel
theorem dX10_covers_17 : decode cX10_covers 17 = .ok (.getfield 36, 3) := by decide +kernel
theorem dX10_covers_20 : decode cX10_covers 20 = .ok (.aload_n 0, 1) := by decide +kernel
theorem dX10_covers_21 : decode cX10_covers 21 = .ok (.getfield 9, 3) := by decide +kernel
theorem dX10_covers_24 : decode cX10_covers 24 = .ok (.getfield 39, 3) := by decide +kernel
theorem dX10_covers_27 : decode cX10_covers 27 = .ok (.invokevirtual 45, 3) := by decide +kernel
theorem dX10_covers_30 : decode cX10_covers 30 = .ok (.iadd, 1) := by decide +kernel
theorem dX10_covers_31 : decode cX10_covers 31 = .ok (.if_icmp .ge 34, 3) := by decide +kernel
theorem dX10_covers_34 : decode cX10_covers 34 = .ok (.iload_n 2, 1) := by decide +kernel
theorem dX10_covers_35 : decode cX10_covers 35 = .ok (.aload_n 0, 1) := by decide +kernel
theorem dX10_covers_36 : decode cX10_covers 36 = .ok (.getfield 51, 3) := by decide +kernel
theorem dX10_covers_39 : decode cX10_covers 39 = .ok (.if_icmp .lt 26, 3) := by decide +kernel
theorem dX10_covers_42 : decode cX10_covers 42 = .ok (.iload_n 2, 1) := by decide +kernel
theorem dX10_covers_43 : decode cX10_covers 43 = .ok (.aload_n 0, 1) := by decide +kernel
theorem dX10_covers_44 : decode cX10_covers 44 = .ok (.getfield 51, 3) := by decide +kernel
theorem dX10_covers_47 : decode cX10_covers 47 = .ok (.aload_n 0, 1) := by decide +kernel
theorem dX10_covers_48 : decode cX10_covers 48 = .ok (.getfield 9, 3) := by decide +kernel
theorem dX10_covers_51 : decode cX10_covers 51 = .ok (.getfield 39, 3) := by decide +kernel
theorem dX10_covers_54 : decode cX10_covers 54 = .ok (.invokevirtual 54, 3) := by decide +kernel
theorem dX10_covers_57 : decode cX10_covers 57 = .ok (.iadd, 1) := by decide +kernel
theorem dX10_covers_58 : decode cX10_covers 58 = .ok (.if_icmp .ge 7, 3) := by decide +kernel
theorem dX10_covers_61 : decode cX10_covers 61 = .ok (.iconst 1, 1) := by decide +kernel
theorem dX10_covers_62 : decode cX10_covers 62 = .ok (.goto 4, 3) := by decide +kernel
theorem dX10_covers_65 : decode cX10_covers 65 = .ok (.iconst 0, 1) := by decide +kernel
theorem dX10_covers_66 : decode cX10_covers 66 = .ok (.ireturn, 1) := by decide +kernel
theorem dX10_hangAt_0 : decode cX10_hangAt 0 = .ok (.aload_n 0, 1) := by decide +kernel
theorem dX10_hangAt_1 : decode cX10_hangAt 1 = .ok (.iload_n 1, 1) := by decide +kernel
theorem dX10_hangAt_2 : decode cX10_hangAt 2 = .ok (.putfield 36, 3) := by decide +kernel
theorem dX10_hangAt_5 : decode cX10_hangAt 5 = .ok (.aload_n 0, 1) := by decide +kernel
theorem dX10_hangAt_6 : decode cX10_hangAt 6 = .ok (.iload_n 2, 1) := by decide +kernel
theorem dX10_hangAt_7 : decode cX10_hangAt 7 = .ok (.putfield 51, 3) := by decide +kernel
theorem dX10_hangAt_10 : decode cX10_hangAt 10 = .ok (.aload_n 0, 1) := by decide +kernel
theorem dX10_hangAt_11 : decode cX10_hangAt 11 = .ok (.iconst 1, 1) := by decide +kernel
theorem dX10_hangAt_12 : decode cX10_hangAt 12 = .ok (.putfield 33, 3) := by decide +kernel
theorem dX10_hangAt_15 : decode cX10_hangAt 15 = .ok (.return_, 1) := by decide +kernel
theorem dX11_init_0 : decode cX11_init 0 = .ok (.aload_n 0, 1) := by decide +kernel
theorem dX11_init_1 : decode cX11_init 1 = .ok (.invokespecial 1, 3) := by decide +kernel
theorem dX11_init_4 : decode cX11_init 4 = .ok (.aload_n 0, 1) := by decide +kernel
theorem dX11_init_5 : decode cX11_init 5 = .ok (.new 7, 3) := by decide +kernel
theorem dX11_init_8 : decode cX11_init 8 = .ok (.dup, 1) := by decide +kernel
theorem dX11_init_9 : decode cX11_init 9 = .ok (.invokespecial 9, 3) := by decide +kernel
theorem dX11_init_12 : decode cX11_init 12 = .ok (.putfield 10, 3) := by decide +kernel
theorem dX11_init_15 : decode cX11_init 15 = .ok (.aload_n 0, 1) := by decide +kernel
theorem dX11_init_16 : decode cX11_init 16 = .ok (.new 16, 3) := by decide +kernel
theorem dX11_init_19 : decode cX11_init 19 = .ok (.dup, 1) := by decide +kernel
theorem dX11_init_20 : decode cX11_init 20 = .ok (.invokespecial 18, 3) := by decide +kernel
theorem dX11_init_23 : decode cX11_init 23 = .ok (.putfield 19, 3) := by decide +kernel
theorem dX11_init_26 : decode cX11_init 26 = .ok (.aload_n 0, 1) := by decide +kernel
theorem dX11_init_27 : decode cX11_init 27 = .ok (.new 23, 3) := by decide +kernel
theorem dX11_init_30 : decode cX11_init 30 = .ok (.dup, 1) := by decide +kernel
theorem dX11_init_31 : decode cX11_init 31 = .ok (.invokespecial 25, 3) := by decide +kernel
theorem dX11_init_34 : decode cX11_init 34 = .ok (.putfield 26, 3) := by decide +kernel
theorem dX11_init_37 : decode cX11_init 37 = .ok (.aload_n 0, 1) := by decide +kernel
theorem dX11_init_38 : decode cX11_init 38 = .ok (.new 30, 3) := by decide +kernel
theorem dX11_init_41 : decode cX11_init 41 = .ok (.dup, 1) := by decide +kernel
theorem dX11_init_42 : decode cX11_init 42 = .ok (.invokespecial 32, 3) := by decide +kernel
theorem dX11_init_45 : decode cX11_init 45 = .ok (.putfield 33, 3) := by decide +kernel
theorem dX11_init_48 : decode cX11_init 48 = .ok (.aload_n 0, 1) := by decide +kernel
theorem dX11_init_49 : decode cX11_init 49 = .ok (.new 37, 3) := by decide +kernel
theorem dX11_init_52 : decode cX11_init 52 = .ok (.dup, 1) := by decide +kernel
theorem dX11_init_53 : decode cX11_init 53 = .ok (.invokespecial 39, 3) := by decide +kernel
theorem dX11_init_56 : decode cX11_init 56 = .ok (.putfield 40, 3) := by decide +kernel
theorem dX11_init_59 : decode cX11_init 59 = .ok (.aload_n 0, 1) := by decide +kernel
theorem dX11_init_60 : decode cX11_init 60 = .ok (.bipush 30, 2) := by decide +kernel
theorem dX11_init_62 : decode cX11_init 62 = .ok (.anewarray 44, 3) := by decide +kernel
theorem dX11_init_65 : decode cX11_init 65 = .ok (.putfield 46, 3) := by decide +kernel
theorem dX11_init_68 : decode cX11_init 68 = .ok (.aload_n 0, 1) := by decide +kernel
theorem dX11_init_69 : decode cX11_init 69 = .ok (.bipush 6, 2) := by decide +kernel
theorem dX11_init_71 : decode cX11_init 71 = .ok (.anewarray 50, 3) := by decide +kernel
theorem dX11_init_74 : decode cX11_init 74 = .ok (.putfield 52, 3) := by decide +kernel
theorem dX11_init_77 : decode cX11_init 77 = .ok (.aload_n 0, 1) := by decide +kernel
theorem dX11_init_78 : decode cX11_init 78 = .ok (.bipush 24, 2) := by decide +kernel
theorem dX11_init_80 : decode cX11_init 80 = .ok (.anewarray 56, 3) := by decide +kernel
theorem dX11_init_83 : decode cX11_init 83 = .ok (.putfield 58, 3) := by decide +kernel
theorem dX11_init_86 : decode cX11_init 86 = .ok (.return_, 1) := by decide +kernel
theorem dX11_forward_0 : decode cX11_forward 0 = .ok (.iload_n 1, 1) := by decide +kernel
theorem dX11_forward_1 : decode cX11_forward 1 = .ok (.iload_n 2, 1) := by decide +kernel
theorem dX11_forward_2 : decode cX11_forward 2 = .ok (.iconst 0, 1) := by decide +kernel
theorem dX11_forward_3 : decode cX11_forward 3 = .ok (.invokestatic 62, 3) := by decide +kernel
theorem dX11_forward_6 : decode cX11_forward 6 = .ok (.aload_n 0, 1) := by decide +kernel
theorem dX11_forward_7 : decode cX11_forward 7 = .ok (.iconst 0, 1) := by decide +kernel
theorem dX11_forward_8 : decode cX11_forward 8 = .ok (.iconst 0, 1) := by decide +kernel
theorem dX11_forward_9 : decode cX11_forward 9 = .ok (.iload_n 1, 1) := by decide +kernel
theorem dX11_forward_10 : decode cX11_forward 10 = .ok (.iload_n 2, 1) := by decide +kernel
theorem dX11_forward_11 : decode cX11_forward 11 = .ok (.invokevirtual 66, 3) := by decide +kernel
theorem dX11_forward_14 : decode cX11_forward 14 = .ok (.ireturn, 1) := by decide +kernel
theorem dX11_turn_0 : decode cX11_turn 0 = .ok (.iload_n 1, 1) := by decide +kernel
theorem dX11_turn_1 : decode cX11_turn 1 = .ok (.iload_n 2, 1) := by decide +kernel
theorem dX11_turn_2 : decode cX11_turn 2 = .ok (.iconst 0, 1) := by decide +kernel
theorem dX11_turn_3 : decode cX11_turn 3 = .ok (.invokestatic 62, 3) := by decide +kernel
theorem dX11_turn_6 : decode cX11_turn 6 = .ok (.aload_n 0, 1) := by decide +kernel
theorem dX11_turn_7 : decode cX11_turn 7 = .ok (.iconst 1, 1) := by decide +kernel
theorem dX11_turn_8 : decode cX11_turn 8 = .ok (.iconst 0, 1) := by decide +kernel
theorem dX11_turn_9 : decode cX11_turn 9 = .ok (.iload_n 1, 1) := by decide +kernel
theorem dX11_turn_10 : decode cX11_turn 10 = .ok (.iload_n 2, 1) := by decide +kernel
theorem dX11_turn_11 : decode cX11_turn 11 = .ok (.invokevirtual 66, 3) := by decide +kernel
theorem dX11_turn_14 : decode cX11_turn 14 = .ok (.ireturn, 1) := by decide +kernel
theorem dX11_pen_0 : decode cX11_pen 0 = .ok (.aload_n 0, 1) := by decide +kernel
theorem dX11_pen_1 : decode cX11_pen 1 = .ok (.iconst 2, 1) := by decide +kernel
theorem dX11_pen_2 : decode cX11_pen 2 = .ok (.iconst 0, 1) := by decide +kernel
theorem dX11_pen_3 : decode cX11_pen 3 = .ok (.iload_n 1, 1) := by decide +kernel
theorem dX11_pen_4 : decode cX11_pen 4 = .ok (.ifCond .eq 7, 3) := by decide +kernel
theorem dX11_pen_7 : decode cX11_pen 7 = .ok (.iconst 1, 1) := by decide +kernel
theorem dX11_pen_8 : decode cX11_pen 8 = .ok (.goto 4, 3) := by decide +kernel
theorem dX11_pen_11 : decode cX11_pen 11 = .ok (.iconst 0, 1) := by decide +kernel
theorem dX11_pen_12 : decode cX11_pen 12 = .ok (.iconst 0, 1) := by decide +kernel
theorem dX11_pen_13 : decode cX11_pen 13 = .ok (.invokevirtual 66, 3) := by decide +kernel
theorem dX11_pen_16 : decode cX11_pen 16 = .ok (.ireturn, 1) := by decide +kernel
theorem dX11_set_0 : decode cX11_set 0 = .ok (.iload_n 1, 1) := by decide +kernel
theorem dX11_set_1 : decode cX11_set 1 = .ok (.invokestatic 70, 3) := by decide +kernel
theorem dX11_set_4 : decode cX11_set 4 = .ok (.iload_n 2, 1) := by decide +kernel
theorem dX11_set_5 : decode cX11_set 5 = .ok (.iload_n 3, 1) := by decide +kernel
theorem dX11_set_6 : decode cX11_set 6 = .ok (.bipush (-99), 2) := by decide +kernel
theorem dX11_set_8 : decode cX11_set 8 = .ok (.invokestatic 62, 3) := by decide +kernel
theorem dX11_set_11 : decode cX11_set 11 = .ok (.aload_n 0, 1) := by decide +kernel
theorem dX11_set_12 : decode cX11_set 12 = .ok (.iconst 3, 1) := by decide +kernel
theorem dX11_set_13 : decode cX11_set 13 = .ok (.iload_n 1, 1) := by decide +kernel
theorem dX11_set_14 : decode cX11_set 14 = .ok (.iload_n 2, 1) := by decide +kernel
theorem dX11_set_15 : decode cX11_set 15 = .ok (.iload_n 3, 1) := by decide +kernel
theorem dX11_set_16 : decode cX11_set 16 = .ok (.invokevirtual 66, 3) := by decide +kernel
theorem dX11_set_19 : decode cX11_set 19 = .ok (.ireturn, 1) := by decide +kernel
theorem dX11_add_0 : decode cX11_add 0 = .ok (.iload_n 1, 1) := by decide +kernel
theorem dX11_add_1 : decode cX11_add 1 = .ok (.invokestatic 70, 3) := by decide +kernel
theorem dX11_add_4 : decode cX11_add 4 = .ok (.iload_n 2, 1) := by decide +kernel
theorem dX11_add_5 : decode cX11_add 5 = .ok (.iload_n 3, 1) := by decide +kernel
theorem dX11_add_6 : decode cX11_add 6 = .ok (.bipush (-99), 2) := by decide +kernel
theorem dX11_add_8 : decode cX11_add 8 = .ok (.invokestatic 62, 3) := by decide +kernel
theorem dX11_add_11 : decode cX11_add 11 = .ok (.aload_n 0, 1) := by decide +kernel
theorem dX11_add_12 : decode cX11_add 12 = .ok (.iconst 4, 1) := by decide +kernel
theorem dX11_add_13 : decode cX11_add 13 = .ok (.iload_n 1, 1) := by decide +kernel
theorem dX11_add_14 : decode cX11_add 14 = .ok (.iload_n 2, 1) := by decide +kernel
theorem dX11_add_15 : decode cX11_add 15 = .ok (.iload_n 3, 1) := by decide +kernel
theorem dX11_add_16 : decode cX11_add 16 = .ok (.invokevirtual 66, 3) := by decide +kernel
theorem dX11_add_19 : decode cX11_add 19 = .ok (.ireturn, 1) := by decide +kernel
theorem dX11_repeat_0 : decode cX11_repeat 0 = .ok (.iload_n 1, 1) := by decide +kernel
theorem dX11_repeat_1 : decode cX11_repeat 1 = .ok (.iload_n 2, 1) := by decide +kernel
theorem dX11_repeat_2 : decode cX11_repeat 2 = .ok (.iconst 0, 1) := by decide +kernel
theorem dX11_repeat_3 : decode cX11_repeat 3 = .ok (.invokestatic 62, 3) := by decide +kernel
theorem dX11_repeat_6 : decode cX11_repeat 6 = .ok (.aload_n 0, 1) := by decide +kernel
theorem dX11_repeat_7 : decode cX11_repeat 7 = .ok (.iconst 5, 1) := by decide +kernel
theorem dX11_repeat_8 : decode cX11_repeat 8 = .ok (.iconst 0, 1) := by decide +kernel
theorem dX11_repeat_9 : decode cX11_repeat 9 = .ok (.iload_n 1, 1) := by decide +kernel
theorem dX11_repeat_10 : decode cX11_repeat 10 = .ok (.iload_n 2, 1) := by decide +kernel
theorem dX11_repeat_11 : decode cX11_repeat 11 = .ok (.invokevirtual 66, 3) := by decide +kernel
theorem dX11_repeat_14 : decode cX11_repeat 14 = .ok (.ireturn, 1) := by decide +kernel
theorem dX11_word_0 : decode cX11_word 0 = .ok (.iload_n 1, 1) := by decide +kernel
theorem dX11_word_1 : decode cX11_word 1 = .ok (.invokestatic 74, 3) := by decide +kernel
theorem dX11_word_4 : decode cX11_word 4 = .ok (.aload_n 0, 1) := by decide +kernel
theorem dX11_word_5 : decode cX11_word 5 = .ok (.getfield 10, 3) := by decide +kernel
theorem dX11_word_8 : decode cX11_word 8 = .ok (.invokevirtual 77, 3) := by decide +kernel
theorem dX11_word_11 : decode cX11_word 11 = .ok (.ifCond .gt 14, 3) := by decide +kernel
theorem dX11_word_14 : decode cX11_word 14 = .ok (.aload_n 0, 1) := by decide +kernel
theorem dX11_word_15 : decode cX11_word 15 = .ok (.getfield 10, 3) := by decide +kernel
theorem dX11_word_18 : decode cX11_word 18 = .ok (.iload_n 1, 1) := by decide +kernel
theorem dX11_word_19 : decode cX11_word 19 = .ok (.invokevirtual 81, 3) := by decide +kernel
theorem dX11_word_22 : decode cX11_word 22 = .ok (.ifCond .eq 13, 3) := by decide +kernel
theorem dX11_word_25 : decode cX11_word 25 = .ok (.new 85, 3) := by decide +kernel
theorem dX11_word_28 : decode cX11_word 28 = .ok (.dup, 1) := by decide +kernel
theorem dX11_word_29 : decode cX11_word 29 = .ok (.ldc 87, 2) := by decide +kernel
theorem dX11_word_31 : decode cX11_word 31 = .ok (.invokespecial 89, 3) := by decide +kernel
theorem dX11_word_34 : decode cX11_word 34 = .ok (.athrow, 1) := by decide +kernel
theorem dX11_word_35 : decode cX11_word 35 = .ok (.aload_n 0, 1) := by decide +kernel
theorem dX11_word_36 : decode cX11_word 36 = .ok (.bipush 6, 2) := by decide +kernel
theorem dX11_word_38 : decode cX11_word 38 = .ok (.iload_n 1, 1) := by decide +kernel
theorem dX11_word_39 : decode cX11_word 39 = .ok (.iconst 0, 1) := by decide +kernel
theorem dX11_word_40 : decode cX11_word 40 = .ok (.iconst 0, 1) := by decide +kernel
theorem dX11_word_41 : decode cX11_word 41 = .ok (.invokevirtual 66, 3) := by decide +kernel
theorem dX11_word_44 : decode cX11_word 44 = .ok (.ireturn, 1) := by decide +kernel
theorem dX11_call_0 : decode cX11_call 0 = .ok (.iload_n 1, 1) := by decide +kernel
theorem dX11_call_1 : decode cX11_call 1 = .ok (.invokestatic 74, 3) := by decide +kernel
theorem dX11_call_4 : decode cX11_call 4 = .ok (.aload_n 0, 1) := by decide +kernel
theorem dX11_call_5 : decode cX11_call 5 = .ok (.bipush 7, 2) := by decide +kernel
theorem dX11_call_7 : decode cX11_call 7 = .ok (.iload_n 1, 1) := by decide +kernel
theorem dX11_call_8 : decode cX11_call 8 = .ok (.iconst 0, 1) := by decide +kernel
theorem dX11_call_9 : decode cX11_call 9 = .ok (.iconst 0, 1) := by decide +kernel
theorem dX11_call_10 : decode cX11_call 10 = .ok (.invokevirtual 66, 3) := by decide +kernel
theorem dX11_call_13 : decode cX11_call 13 = .ok (.ireturn, 1) := by decide +kernel
theorem dX11_end_0 : decode cX11_end 0 = .ok (.aload_n 0, 1) := by decide +kernel
theorem dX11_end_1 : decode cX11_end 1 = .ok (.getfield 10, 3) := by decide +kernel
theorem dX11_end_4 : decode cX11_end 4 = .ok (.invokevirtual 77, 3) := by decide +kernel
theorem dX11_end_7 : decode cX11_end 7 = .ok (.ifCond .gt 13, 3) := by decide +kernel
theorem dX11_end_10 : decode cX11_end 10 = .ok (.new 85, 3) := by decide +kernel
theorem dX11_end_13 : decode cX11_end 13 = .ok (.dup, 1) := by decide +kernel
theorem dX11_end_14 : decode cX11_end 14 = .ok (.ldc 92, 2) := by decide +kernel
theorem dX11_end_16 : decode cX11_end 16 = .ok (.invokespecial 89, 3) := by decide +kernel
theorem dX11_end_19 : decode cX11_end 19 = .ok (.athrow, 1) := by decide +kernel
theorem dX11_end_20 : decode cX11_end 20 = .ok (.aload_n 0, 1) := by decide +kernel
theorem dX11_end_21 : decode cX11_end 21 = .ok (.bipush 8, 2) := by decide +kernel
theorem dX11_end_23 : decode cX11_end 23 = .ok (.iconst 0, 1) := by decide +kernel
theorem dX11_end_24 : decode cX11_end 24 = .ok (.iconst 0, 1) := by decide +kernel
theorem dX11_end_25 : decode cX11_end 25 = .ok (.iconst 0, 1) := by decide +kernel
theorem dX11_end_26 : decode cX11_end 26 = .ok (.invokevirtual 66, 3) := by decide +kernel
theorem dX11_end_29 : decode cX11_end 29 = .ok (.pop, 1) := by decide +kernel
theorem dX11_end_30 : decode cX11_end 30 = .ok (.aload_n 0, 1) := by decide +kernel
theorem dX11_end_31 : decode cX11_end 31 = .ok (.getfield 10, 3) := by decide +kernel
theorem dX11_end_34 : decode cX11_end 34 = .ok (.invokevirtual 77, 3) := by decide +kernel
theorem dX11_end_37 : decode cX11_end 37 = .ok (.ireturn, 1) := by decide +kernel
theorem dX11_wipe_0 : decode cX11_wipe 0 = .ok (.aload_n 0, 1) := by decide +kernel
theorem dX11_wipe_1 : decode cX11_wipe 1 = .ok (.getfield 10, 3) := by decide +kernel
theorem dX11_wipe_4 : decode cX11_wipe 4 = .ok (.invokevirtual 94, 3) := by decide +kernel
theorem dX11_wipe_7 : decode cX11_wipe 7 = .ok (.istore_n 1, 1) := by decide +kernel
theorem dX11_wipe_8 : decode cX11_wipe 8 = .ok (.aload_n 0, 1) := by decide +kernel
theorem dX11_wipe_9 : decode cX11_wipe 9 = .ok (.getfield 10, 3) := by decide +kernel
theorem dX11_wipe_12 : decode cX11_wipe 12 = .ok (.invokevirtual 97, 3) := by decide +kernel
theorem dX11_wipe_15 : decode cX11_wipe 15 = .ok (.iload_n 1, 1) := by decide +kernel
theorem dX11_wipe_16 : decode cX11_wipe 16 = .ok (.ireturn, 1) := by decide +kernel
theorem dX11_write_0 : decode cX11_write 0 = .ok (.iload_n 1, 1) := by decide +kernel
theorem dX11_write_1 : decode cX11_write 1 = .ok (.invokestatic 100, 3) := by decide +kernel
theorem dX11_write_4 : decode cX11_write 4 = .ok (.aload_n 0, 1) := by decide +kernel
theorem dX11_write_5 : decode cX11_write 5 = .ok (.getfield 10, 3) := by decide +kernel
theorem dX11_write_8 : decode cX11_write 8 = .ok (.invokevirtual 94, 3) := by decide +kernel
theorem dX11_write_11 : decode cX11_write 11 = .ok (.ifCond .eq 13, 3) := by decide +kernel
theorem dX11_write_14 : decode cX11_write 14 = .ok (.aload_n 0, 1) := by decide +kernel
theorem dX11_write_15 : decode cX11_write 15 = .ok (.getfield 10, 3) := by decide +kernel
theorem dX11_write_18 : decode cX11_write 18 = .ok (.invokevirtual 77, 3) := by decide +kernel
theorem dX11_write_21 : decode cX11_write 21 = .ok (.ifCond .le 13, 3) := by decide +kernel
theorem dX11_write_24 : decode cX11_write 24 = .ok (.new 85, 3) := by decide +kernel
theorem dX11_write_27 : decode cX11_write 27 = .ok (.dup, 1) := by decide +kernel
theorem dX11_write_28 : decode cX11_write 28 = .ok (.ldc 103, 2) := by decide +kernel
theorem dX11_write_30 : decode cX11_write 30 = .ok (.invokespecial 89, 3) := by decide +kernel
theorem dX11_write_33 : decode cX11_write 33 = .ok (.athrow, 1) := by decide +kernel
theorem dX11_write_34 : decode cX11_write 34 = .ok (.aload_n 0, 1) := by decide +kernel
theorem dX11_write_35 : decode cX11_write 35 = .ok (.getfield 105, 3) := by decide +kernel
theorem dX11_write_38 : decode cX11_write 38 = .ok (.istore_n 2, 1) := by decide +kernel
theorem dX11_write_39 : decode cX11_write 39 = .ok (.iload_n 2, 1) := by decide +kernel
theorem dX11_write_40 : decode cX11_write 40 = .ok (.ifCond .lt 12, 3) := by decide +kernel
theorem dX11_write_43 : decode cX11_write 43 = .ok (.iload_n 2, 1) := by decide +kernel
theorem dX11_write_44 : decode cX11_write 44 = .ok (.aload_n 0, 1) := by decide +kernel
theorem dX11_write_45 : decode cX11_write 45 = .ok (.getfield 46, 3) := by decide +kernel
theorem dX11_write_48 : decode cX11_write 48 = .ok (.arraylength, 1) := by decide +kernel
theorem dX11_write_49 : decode cX11_write 49 = .ok (.if_icmp .lt 13, 3) := by decide +kernel
theorem dX11_write_52 : decode cX11_write 52 = .ok (.new 85, 3) := by decide +kernel
theorem dX11_write_55 : decode cX11_write 55 = .ok (.dup, 1) := by decide +kernel
theorem dX11_write_56 : decode cX11_write 56 = .ok (.ldc 109, 2) := by decide +kernel
theorem dX11_write_58 : decode cX11_write 58 = .ok (.invokespecial 89, 3) := by decide +kernel
theorem dX11_write_61 : decode cX11_write 61 = .ok (.athrow, 1) := by decide +kernel
theorem dX11_write_62 : decode cX11_write 62 = .ok (.new 44, 3) := by decide +kernel
theorem dX11_write_65 : decode cX11_write 65 = .ok (.dup, 1) := by decide +kernel
theorem dX11_write_66 : decode cX11_write 66 = .ok (.iload_n 1, 1) := by decide +kernel
theorem dX11_write_67 : decode cX11_write 67 = .ok (.aload_n 0, 1) := by decide +kernel
theorem dX11_write_68 : decode cX11_write 68 = .ok (.getfield 10, 3) := by decide +kernel
theorem dX11_write_71 : decode cX11_write 71 = .ok (.invokespecial 111, 3) := by decide +kernel
theorem dX11_write_74 : decode cX11_write 74 = .ok (.astore_n 3, 1) := by decide +kernel
theorem dX11_write_75 : decode cX11_write 75 = .ok (.aload_n 0, 1) := by decide +kernel
theorem dX11_write_76 : decode cX11_write 76 = .ok (.getfield 19, 3) := by decide +kernel
theorem dX11_write_79 : decode cX11_write 79 = .ok (.aload_n 3, 1) := by decide +kernel
theorem dX11_write_80 : decode cX11_write 80 = .ok (.aload_n 3, 1) := by decide +kernel
theorem dX11_write_81 : decode cX11_write 81 = .ok (.getfield 114, 3) := by decide +kernel
theorem dX11_write_84 : decode cX11_write 84 = .ok (.sipush 600, 3) := by decide +kernel
theorem dX11_write_87 : decode cX11_write 87 = .ok (.invokevirtual 117, 3) := by decide +kernel
theorem dX11_write_90 : decode cX11_write 90 = .ok (.aload_n 3, 1) := by decide +kernel
theorem dX11_write_91 : decode cX11_write 91 = .ok (.aload_n 0, 1) := by decide +kernel
theorem dX11_write_92 : decode cX11_write 92 = .ok (.getfield 19, 3) := by decide +kernel
theorem dX11_write_95 : decode cX11_write 95 = .ok (.invokevirtual 121, 3) := by decide +kernel
theorem dX11_write_98 : decode cX11_write 98 = .ok (.aload_n 0, 1) := by decide +kernel
theorem dX11_write_99 : decode cX11_write 99 = .ok (.getfield 19, 3) := by decide +kernel
theorem dX11_write_102 : decode cX11_write 102 = .ok (.invokevirtual 124, 3) := by decide +kernel
theorem dX11_write_105 : decode cX11_write 105 = .ok (.invokevirtual 127, 3) := by decide +kernel
theorem dX11_write_108 : decode cX11_write 108 = .ok (.aload_n 0, 1) := by decide +kernel
theorem dX11_write_109 : decode cX11_write 109 = .ok (.getfield 46, 3) := by decide +kernel
theorem dX11_write_112 : decode cX11_write 112 = .ok (.iload_n 2, 1) := by decide +kernel
theorem dX11_write_113 : decode cX11_write 113 = .ok (.aload_n 3, 1) := by decide +kernel
theorem dX11_write_114 : decode cX11_write 114 = .ok (.aastore, 1) := by decide +kernel
theorem dX11_write_115 : decode cX11_write 115 = .ok (.aload_n 0, 1) := by decide +kernel
theorem dX11_write_116 : decode cX11_write 116 = .ok (.iload_n 2, 1) := by decide +kernel
theorem dX11_write_117 : decode cX11_write 117 = .ok (.iconst 1, 1) := by decide +kernel
theorem dX11_write_118 : decode cX11_write 118 = .ok (.iadd, 1) := by decide +kernel
theorem dX11_write_119 : decode cX11_write 119 = .ok (.putfield 105, 3) := by decide +kernel
theorem dX11_write_122 : decode cX11_write 122 = .ok (.aload_n 0, 1) := by decide +kernel
theorem dX11_write_123 : decode cX11_write 123 = .ok (.getfield 10, 3) := by decide +kernel
theorem dX11_write_126 : decode cX11_write 126 = .ok (.invokevirtual 97, 3) := by decide +kernel
theorem dX11_write_129 : decode cX11_write 129 = .ok (.iload_n 2, 1) := by decide +kernel
theorem dX11_write_130 : decode cX11_write 130 = .ok (.ireturn, 1) := by decide +kernel
theorem dX11_exercise_0 : decode cX11_exercise 0 = .ok (.aload_n 0, 1) := by decide +kernel
theorem dX11_exercise_1 : decode cX11_exercise 1 = .ok (.iload_n 1, 1) := by decide +kernel
theorem dX11_exercise_2 : decode cX11_exercise 2 = .ok (.invokevirtual 131, 3) := by decide +kernel
theorem dX11_exercise_5 : decode cX11_exercise 5 = .ok (.astore 4, 2) := by decide +kernel
theorem dX11_exercise_7 : decode cX11_exercise 7 = .ok (.iload_n 2, 1) := by decide +kernel
theorem dX11_exercise_8 : decode cX11_exercise 8 = .ok (.iload_n 3, 1) := by decide +kernel
theorem dX11_exercise_9 : decode cX11_exercise 9 = .ok (.invokestatic 135, 3) := by decide +kernel
theorem dX11_exercise_12 : decode cX11_exercise 12 = .ok (.aload_n 0, 1) := by decide +kernel
theorem dX11_exercise_13 : decode cX11_exercise 13 = .ok (.getfield 138, 3) := by decide +kernel
theorem dX11_exercise_16 : decode cX11_exercise 16 = .ok (.istore 5, 2) := by decide +kernel
theorem dX11_exercise_18 : decode cX11_exercise 18 = .ok (.iload 5, 2) := by decide +kernel
theorem dX11_exercise_20 : decode cX11_exercise 20 = .ok (.ifCond .lt 13, 3) := by decide +kernel
theorem dX11_exercise_23 : decode cX11_exercise 23 = .ok (.iload 5, 2) := by decide +kernel
theorem dX11_exercise_25 : decode cX11_exercise 25 = .ok (.aload_n 0, 1) := by decide +kernel
theorem dX11_exercise_26 : decode cX11_exercise 26 = .ok (.getfield 52, 3) := by decide +kernel
theorem dX11_exercise_29 : decode cX11_exercise 29 = .ok (.arraylength, 1) := by decide +kernel
theorem dX11_exercise_30 : decode cX11_exercise 30 = .ok (.if_icmp .lt 13, 3) := by decide +kernel
theorem dX11_exercise_33 : decode cX11_exercise 33 = .ok (.new 85, 3) := by decide +kernel
theorem dX11_exercise_36 : decode cX11_exercise 36 = .ok (.dup, 1) := by decide +kernel
theorem dX11_exercise_37 : decode cX11_exercise 37 = .ok (.ldc 141, 2) := by decide +kernel
theorem dX11_exercise_39 : decode cX11_exercise 39 = .ok (.invokespecial 89, 3) := by decide +kernel
theorem dX11_exercise_42 : decode cX11_exercise 42 = .ok (.athrow, 1) := by decide +kernel
theorem dX11_exercise_43 : decode cX11_exercise 43 = .ok (.aload_n 0, 1) := by decide +kernel
theorem dX11_exercise_44 : decode cX11_exercise 44 = .ok (.getfield 52, 3) := by decide +kernel
theorem dX11_exercise_47 : decode cX11_exercise 47 = .ok (.iload 5, 2) := by decide +kernel
theorem dX11_exercise_49 : decode cX11_exercise 49 = .ok (.new 50, 3) := by decide +kernel
theorem dX11_exercise_52 : decode cX11_exercise 52 = .ok (.dup, 1) := by decide +kernel
theorem dX11_exercise_53 : decode cX11_exercise 53 = .ok (.aload 4, 2) := by decide +kernel
theorem dX11_exercise_55 : decode cX11_exercise 55 = .ok (.iload_n 2, 1) := by decide +kernel
theorem dX11_exercise_56 : decode cX11_exercise 56 = .ok (.iload_n 3, 1) := by decide +kernel
theorem dX11_exercise_57 : decode cX11_exercise 57 = .ok (.invokespecial 143, 3) := by decide +kernel
theorem dX11_exercise_60 : decode cX11_exercise 60 = .ok (.aastore, 1) := by decide +kernel
theorem dX11_exercise_61 : decode cX11_exercise 61 = .ok (.aload_n 0, 1) := by decide +kernel
theorem dX11_exercise_62 : decode cX11_exercise 62 = .ok (.iload 5, 2) := by decide +kernel
theorem dX11_exercise_64 : decode cX11_exercise 64 = .ok (.iconst 1, 1) := by decide +kernel
theorem dX11_exercise_65 : decode cX11_exercise 65 = .ok (.iadd, 1) := by decide +kernel
theorem dX11_exercise_66 : decode cX11_exercise 66 = .ok (.putfield 138, 3) := by decide +kernel
theorem dX11_exercise_69 : decode cX11_exercise 69 = .ok (.iload 5, 2) := by decide +kernel
theorem dX11_exercise_71 : decode cX11_exercise 71 = .ok (.ireturn, 1) := by decide +kernel
theorem dX11_allow_0 : decode cX11_allow 0 = .ok (.aload_n 0, 1) := by decide +kernel
theorem dX11_allow_1 : decode cX11_allow 1 = .ok (.iload_n 1, 1) := by decide +kernel
theorem dX11_allow_2 : decode cX11_allow 2 = .ok (.invokevirtual 146, 3) := by decide +kernel
theorem dX11_allow_5 : decode cX11_allow 5 = .ok (.astore 4, 2) := by decide +kernel
theorem dX11_allow_7 : decode cX11_allow 7 = .ok (.iload_n 2, 1) := by decide +kernel
theorem dX11_allow_8 : decode cX11_allow 8 = .ok (.iload_n 3, 1) := by decide +kernel
theorem dX11_allow_9 : decode cX11_allow 9 = .ok (.invokestatic 135, 3) := by decide +kernel
theorem dX11_allow_12 : decode cX11_allow 12 = .ok (.aload 4, 2) := by decide +kernel
theorem dX11_allow_14 : decode cX11_allow 14 = .ok (.iload_n 2, 1) := by decide +kernel
theorem dX11_allow_15 : decode cX11_allow 15 = .ok (.iload_n 3, 1) := by decide +kernel
theorem dX11_allow_16 : decode cX11_allow 16 = .ok (.invokevirtual 150, 3) := by decide +kernel
theorem dX11_allow_19 : decode cX11_allow 19 = .ok (.aload_n 0, 1) := by decide +kernel
theorem dX11_allow_20 : decode cX11_allow 20 = .ok (.invokevirtual 153, 3) := by decide +kernel
theorem dX11_allow_23 : decode cX11_allow 23 = .ok (.aload_n 0, 1) := by decide +kernel
theorem dX11_allow_24 : decode cX11_allow 24 = .ok (.aload 4, 2) := by decide +kernel
theorem dX11_allow_26 : decode cX11_allow 26 = .ok (.invokevirtual 156, 3) := by decide +kernel
theorem dX11_allow_29 : decode cX11_allow 29 = .ok (.ireturn, 1) := by decide +kernel
theorem dX11_handIn_0 : decode cX11_handIn 0 = .ok (.aload_n 0, 1) := by decide +kernel
theorem dX11_handIn_1 : decode cX11_handIn 1 = .ok (.iload_n 1, 1) := by decide +kernel
theorem dX11_handIn_2 : decode cX11_handIn 2 = .ok (.invokevirtual 131, 3) := by decide +kernel
theorem dX11_handIn_5 : decode cX11_handIn 5 = .ok (.astore_n 3, 1) := by decide +kernel
theorem dX11_handIn_6 : decode cX11_handIn 6 = .ok (.aload_n 0, 1) := by decide +kernel
theorem dX11_handIn_7 : decode cX11_handIn 7 = .ok (.iload_n 2, 1) := by decide +kernel
theorem dX11_handIn_8 : decode cX11_handIn 8 = .ok (.invokevirtual 146, 3) := by decide +kernel
theorem dX11_handIn_11 : decode cX11_handIn 11 = .ok (.astore 4, 2) := by decide +kernel
theorem dX11_handIn_13 : decode cX11_handIn 13 = .ok (.aload_n 0, 1) := by decide +kernel
theorem dX11_handIn_14 : decode cX11_handIn 14 = .ok (.getfield 160, 3) := by decide +kernel
theorem dX11_handIn_17 : decode cX11_handIn 17 = .ok (.istore 5, 2) := by decide +kernel
theorem dX11_handIn_19 : decode cX11_handIn 19 = .ok (.iload 5, 2) := by decide +kernel
theorem dX11_handIn_21 : decode cX11_handIn 21 = .ok (.ifCond .lt 13, 3) := by decide +kernel
theorem dX11_handIn_24 : decode cX11_handIn 24 = .ok (.iload 5, 2) := by decide +kernel
theorem dX11_handIn_26 : decode cX11_handIn 26 = .ok (.aload_n 0, 1) := by decide +kernel
theorem dX11_handIn_27 : decode cX11_handIn 27 = .ok (.getfield 58, 3) := by decide +kernel
theorem dX11_handIn_30 : decode cX11_handIn 30 = .ok (.arraylength, 1) := by decide +kernel
theorem dX11_handIn_31 : decode cX11_handIn 31 = .ok (.if_icmp .lt 13, 3) := by decide +kernel
theorem dX11_handIn_34 : decode cX11_handIn 34 = .ok (.new 85, 3) := by decide +kernel
theorem dX11_handIn_37 : decode cX11_handIn 37 = .ok (.dup, 1) := by decide +kernel
theorem dX11_handIn_38 : decode cX11_handIn 38 = .ok (.ldc 163, 2) := by decide +kernel
theorem dX11_handIn_40 : decode cX11_handIn 40 = .ok (.invokespecial 89, 3) := by decide +kernel
theorem dX11_handIn_43 : decode cX11_handIn 43 = .ok (.athrow, 1) := by decide +kernel
theorem dX11_handIn_44 : decode cX11_handIn 44 = .ok (.aload_n 0, 1) := by decide +kernel
theorem dX11_handIn_45 : decode cX11_handIn 45 = .ok (.getfield 58, 3) := by decide +kernel
theorem dX11_handIn_48 : decode cX11_handIn 48 = .ok (.iload 5, 2) := by decide +kernel
theorem dX11_handIn_50 : decode cX11_handIn 50 = .ok (.new 56, 3) := by decide +kernel
theorem dX11_handIn_53 : decode cX11_handIn 53 = .ok (.dup, 1) := by decide +kernel
theorem dX11_handIn_54 : decode cX11_handIn 54 = .ok (.aload_n 3, 1) := by decide +kernel
theorem dX11_handIn_55 : decode cX11_handIn 55 = .ok (.aload 4, 2) := by decide +kernel
theorem dX11_handIn_57 : decode cX11_handIn 57 = .ok (.aload_n 0, 1) := by decide +kernel
theorem dX11_handIn_58 : decode cX11_handIn 58 = .ok (.aload_n 3, 1) := by decide +kernel
theorem dX11_handIn_59 : decode cX11_handIn 59 = .ok (.aload 4, 2) := by decide +kernel
theorem dX11_handIn_61 : decode cX11_handIn 61 = .ok (.invokevirtual 165, 3) := by decide +kernel
theorem dX11_handIn_64 : decode cX11_handIn 64 = .ok (.invokespecial 169, 3) := by decide +kernel
theorem dX11_handIn_67 : decode cX11_handIn 67 = .ok (.aastore, 1) := by decide +kernel
theorem dX11_handIn_68 : decode cX11_handIn 68 = .ok (.aload_n 0, 1) := by decide +kernel
theorem dX11_handIn_69 : decode cX11_handIn 69 = .ok (.iload 5, 2) := by decide +kernel
theorem dX11_handIn_71 : decode cX11_handIn 71 = .ok (.iconst 1, 1) := by decide +kernel
theorem dX11_handIn_72 : decode cX11_handIn 72 = .ok (.iadd, 1) := by decide +kernel
theorem dX11_handIn_73 : decode cX11_handIn 73 = .ok (.putfield 160, 3) := by decide +kernel
theorem dX11_handIn_76 : decode cX11_handIn 76 = .ok (.aload_n 0, 1) := by decide +kernel
theorem dX11_handIn_77 : decode cX11_handIn 77 = .ok (.invokevirtual 153, 3) := by decide +kernel
theorem dX11_handIn_80 : decode cX11_handIn 80 = .ok (.iload 5, 2) := by decide +kernel
theorem dX11_handIn_82 : decode cX11_handIn 82 = .ok (.ireturn, 1) := by decide +kernel
theorem dX11_clear_0 : decode cX11_clear 0 = .ok (.aload_n 0, 1) := by decide +kernel
theorem dX11_clear_1 : decode cX11_clear 1 = .ok (.iload_n 1, 1) := by decide +kernel
theorem dX11_clear_2 : decode cX11_clear 2 = .ok (.invokevirtual 172, 3) := by decide +kernel
theorem dX11_clear_5 : decode cX11_clear 5 = .ok (.astore_n 3, 1) := by decide +kernel
theorem dX11_clear_6 : decode cX11_clear 6 = .ok (.aload_n 3, 1) := by decide +kernel
theorem dX11_clear_7 : decode cX11_clear 7 = .ok (.getfield 176, 3) := by decide +kernel
theorem dX11_clear_10 : decode cX11_clear 10 = .ok (.istore 4, 2) := by decide +kernel
theorem dX11_clear_12 : decode cX11_clear 12 = .ok (.aload_n 3, 1) := by decide +kernel
theorem dX11_clear_13 : decode cX11_clear 13 = .ok (.iload_n 2, 1) := by decide +kernel
theorem dX11_clear_14 : decode cX11_clear 14 = .ok (.putfield 176, 3) := by decide +kernel
theorem dX11_clear_17 : decode cX11_clear 17 = .ok (.aload_n 0, 1) := by decide +kernel
theorem dX11_clear_18 : decode cX11_clear 18 = .ok (.invokevirtual 153, 3) := by decide +kernel
theorem dX11_clear_21 : decode cX11_clear 21 = .ok (.iload 4, 2) := by decide +kernel
theorem dX11_clear_23 : decode cX11_clear 23 = .ok (.ireturn, 1) := by decide +kernel
theorem dX11_setWall_0 : decode cX11_setWall 0 = .ok (.iload_n 1, 1) := by decide +kernel
theorem dX11_setWall_1 : decode cX11_setWall 1 = .ok (.iconst 1, 1) := by decide +kernel
theorem dX11_setWall_2 : decode cX11_setWall 2 = .ok (.if_icmp .lt 20, 3) := by decide +kernel
theorem dX11_setWall_5 : decode cX11_setWall 5 = .ok (.iload_n 1, 1) := by decide +kernel
theorem dX11_setWall_6 : decode cX11_setWall 6 = .ok (.bipush 40, 2) := by decide +kernel
theorem dX11_setWall_8 : decode cX11_setWall 8 = .ok (.if_icmp .gt 14, 3) := by decide +kernel
theorem dX11_setWall_11 : decode cX11_setWall 11 = .ok (.iload_n 2, 1) := by decide +kernel
theorem dX11_setWall_12 : decode cX11_setWall 12 = .ok (.iconst 1, 1) := by decide +kernel
theorem dX11_setWall_13 : decode cX11_setWall 13 = .ok (.if_icmp .lt 9, 3) := by decide +kernel
theorem dX11_setWall_16 : decode cX11_setWall 16 = .ok (.iload_n 2, 1) := by decide +kernel
theorem dX11_setWall_17 : decode cX11_setWall 17 = .ok (.bipush 40, 2) := by decide +kernel
theorem dX11_setWall_19 : decode cX11_setWall 19 = .ok (.if_icmp .le 13, 3) := by decide +kernel
theorem dX11_setWall_22 : decode cX11_setWall 22 = .ok (.new 180, 3) := by decide +kernel
theorem dX11_setWall_25 : decode cX11_setWall 25 = .ok (.dup, 1) := by decide +kernel
theorem dX11_setWall_26 : decode cX11_setWall 26 = .ok (.ldc 182, 2) := by decide +kernel
theorem dX11_setWall_28 : decode cX11_setWall 28 = .ok (.invokespecial 184, 3) := by decide +kernel
theorem dX11_setWall_31 : decode cX11_setWall 31 = .ok (.athrow, 1) := by decide +kernel
theorem dX11_setWall_32 : decode cX11_setWall 32 = .ok (.aload_n 0, 1) := by decide +kernel
theorem dX11_setWall_33 : decode cX11_setWall 33 = .ok (.getfield 40, 3) := by decide +kernel
theorem dX11_setWall_36 : decode cX11_setWall 36 = .ok (.iload_n 1, 1) := by decide +kernel
theorem dX11_setWall_37 : decode cX11_setWall 37 = .ok (.iload_n 2, 1) := by decide +kernel
theorem dX11_setWall_38 : decode cX11_setWall 38 = .ok (.invokevirtual 185, 3) := by decide +kernel
theorem dX11_setWall_41 : decode cX11_setWall 41 = .ok (.aload_n 0, 1) := by decide +kernel
theorem dX11_setWall_42 : decode cX11_setWall 42 = .ok (.invokevirtual 153, 3) := by decide +kernel
theorem dX11_setWall_45 : decode cX11_setWall 45 = .ok (.aload_n 0, 1) := by decide +kernel
theorem dX11_setWall_46 : decode cX11_setWall 46 = .ok (.invokevirtual 188, 3) := by decide +kernel
theorem dX11_setWall_49 : decode cX11_setWall 49 = .ok (.ireturn, 1) := by decide +kernel
theorem dX11_drafted_0 : decode cX11_drafted 0 = .ok (.aload_n 0, 1) := by decide +kernel
theorem dX11_drafted_1 : decode cX11_drafted 1 = .ok (.getfield 10, 3) := by decide +kernel
theorem dX11_drafted_4 : decode cX11_drafted 4 = .ok (.invokevirtual 94, 3) := by decide +kernel
theorem dX11_drafted_7 : decode cX11_drafted 7 = .ok (.ireturn, 1) := by decide +kernel
theorem dX11_programs_0 : decode cX11_programs 0 = .ok (.aload_n 0, 1) := by decide +kernel
theorem dX11_programs_1 : decode cX11_programs 1 = .ok (.getfield 105, 3) := by decide +kernel
theorem dX11_programs_4 : decode cX11_programs 4 = .ok (.ireturn, 1) := by decide +kernel
theorem dX11_fault_0 : decode cX11_fault 0 = .ok (.aload_n 0, 1) := by decide +kernel
theorem dX11_fault_1 : decode cX11_fault 1 = .ok (.iload_n 1, 1) := by decide +kernel
theorem dX11_fault_2 : decode cX11_fault 2 = .ok (.invokevirtual 131, 3) := by decide +kernel
theorem dX11_fault_5 : decode cX11_fault 5 = .ok (.getfield 191, 3) := by decide +kernel
theorem dX11_fault_8 : decode cX11_fault 8 = .ok (.ireturn, 1) := by decide +kernel
theorem dX11_steps_0 : decode cX11_steps 0 = .ok (.aload_n 0, 1) := by decide +kernel
theorem dX11_steps_1 : decode cX11_steps 1 = .ok (.iload_n 1, 1) := by decide +kernel
theorem dX11_steps_2 : decode cX11_steps 2 = .ok (.invokevirtual 131, 3) := by decide +kernel
theorem dX11_steps_5 : decode cX11_steps 5 = .ok (.getfield 193, 3) := by decide +kernel
theorem dX11_steps_8 : decode cX11_steps 8 = .ok (.ireturn, 1) := by decide +kernel
theorem dX11_strokes_0 : decode cX11_strokes 0 = .ok (.aload_n 0, 1) := by decide +kernel
theorem dX11_strokes_1 : decode cX11_strokes 1 = .ok (.iload_n 1, 1) := by decide +kernel
theorem dX11_strokes_2 : decode cX11_strokes 2 = .ok (.invokevirtual 131, 3) := by decide +kernel
theorem dX11_strokes_5 : decode cX11_strokes 5 = .ok (.getfield 114, 3) := by decide +kernel
theorem dX11_strokes_8 : decode cX11_strokes 8 = .ok (.getfield 195, 3) := by decide +kernel
theorem dX11_strokes_11 : decode cX11_strokes 11 = .ok (.ireturn, 1) := by decide +kernel
theorem dX11_strokesBySteps_0 : decode cX11_strokesBySteps 0 = .ok (.aload_n 0, 1) := by decide +kernel
theorem dX11_strokesBySteps_1 : decode cX11_strokesBySteps 1 = .ok (.iload_n 1, 1) := by decide +kernel
theorem dX11_strokesBySteps_2 : decode cX11_strokesBySteps 2 = .ok (.invokevirtual 131, 3) := by decide +kernel
theorem dX11_strokesBySteps_5 : decode cX11_strokesBySteps 5 = .ok (.astore_n 3, 1) := by decide +kernel
theorem dX11_strokesBySteps_6 : decode cX11_strokesBySteps 6 = .ok (.iload_n 2, 1) := by decide +kernel
theorem dX11_strokesBySteps_7 : decode cX11_strokesBySteps 7 = .ok (.ifCond .lt 10, 3) := by decide +kernel
theorem dX11_strokesBySteps_10 : decode cX11_strokesBySteps 10 = .ok (.iload_n 2, 1) := by decide +kernel
theorem dX11_strokesBySteps_11 : decode cX11_strokesBySteps 11 = .ok (.sipush 600, 3) := by decide +kernel
theorem dX11_strokesBySteps_14 : decode cX11_strokesBySteps 14 = .ok (.if_icmp .le 13, 3) := by decide +kernel
theorem dX11_strokesBySteps_17 : decode cX11_strokesBySteps 17 = .ok (.new 180, 3) := by decide +kernel
theorem dX11_strokesBySteps_20 : decode cX11_strokesBySteps 20 = .ok (.dup, 1) := by decide +kernel
theorem dX11_strokesBySteps_21 : decode cX11_strokesBySteps 21 = .ok (.ldc 198, 2) := by decide +kernel
theorem dX11_strokesBySteps_23 : decode cX11_strokesBySteps 23 = .ok (.invokespecial 184, 3) := by decide +kernel
theorem dX11_strokesBySteps_26 : decode cX11_strokesBySteps 26 = .ok (.athrow, 1) := by decide +kernel
theorem dX11_strokesBySteps_27 : decode cX11_strokesBySteps 27 = .ok (.aload_n 0, 1) := by decide +kernel
theorem dX11_strokesBySteps_28 : decode cX11_strokesBySteps 28 = .ok (.getfield 26, 3) := by decide +kernel
theorem dX11_strokesBySteps_31 : decode cX11_strokesBySteps 31 = .ok (.invokevirtual 200, 3) := by decide +kernel
theorem dX11_strokesBySteps_34 : decode cX11_strokesBySteps 34 = .ok (.aload_n 0, 1) := by decide +kernel
theorem dX11_strokesBySteps_35 : decode cX11_strokesBySteps 35 = .ok (.getfield 19, 3) := by decide +kernel
theorem dX11_strokesBySteps_38 : decode cX11_strokesBySteps 38 = .ok (.aload_n 3, 1) := by decide +kernel
theorem dX11_strokesBySteps_39 : decode cX11_strokesBySteps 39 = .ok (.aload_n 0, 1) := by decide +kernel
theorem dX11_strokesBySteps_40 : decode cX11_strokesBySteps 40 = .ok (.getfield 26, 3) := by decide +kernel
theorem dX11_strokesBySteps_43 : decode cX11_strokesBySteps 43 = .ok (.iload_n 2, 1) := by decide +kernel
theorem dX11_strokesBySteps_44 : decode cX11_strokesBySteps 44 = .ok (.invokevirtual 117, 3) := by decide +kernel
theorem dX11_strokesBySteps_47 : decode cX11_strokesBySteps 47 = .ok (.aload_n 0, 1) := by decide +kernel
theorem dX11_strokesBySteps_48 : decode cX11_strokesBySteps 48 = .ok (.getfield 26, 3) := by decide +kernel
theorem dX11_strokesBySteps_51 : decode cX11_strokesBySteps 51 = .ok (.getfield 195, 3) := by decide +kernel
theorem dX11_strokesBySteps_54 : decode cX11_strokesBySteps 54 = .ok (.ireturn, 1) := by decide +kernel
theorem dX11_isDrawn_0 : decode cX11_isDrawn 0 = .ok (.aload_n 0, 1) := by decide +kernel
theorem dX11_isDrawn_1 : decode cX11_isDrawn 1 = .ok (.iload_n 1, 1) := by decide +kernel
theorem dX11_isDrawn_2 : decode cX11_isDrawn 2 = .ok (.invokevirtual 131, 3) := by decide +kernel
theorem dX11_isDrawn_5 : decode cX11_isDrawn 5 = .ok (.astore 5, 2) := by decide +kernel
theorem dX11_isDrawn_7 : decode cX11_isDrawn 7 = .ok (.iload_n 2, 1) := by decide +kernel
theorem dX11_isDrawn_8 : decode cX11_isDrawn 8 = .ok (.invokestatic 201, 3) := by decide +kernel
theorem dX11_isDrawn_11 : decode cX11_isDrawn 11 = .ok (.ifCond .eq 10, 3) := by decide +kernel
theorem dX11_isDrawn_14 : decode cX11_isDrawn 14 = .ok (.iload_n 3, 1) := by decide +kernel
theorem dX11_isDrawn_15 : decode cX11_isDrawn 15 = .ok (.invokestatic 201, 3) := by decide +kernel
theorem dX11_isDrawn_18 : decode cX11_isDrawn 18 = .ok (.ifCond .ne 13, 3) := by decide +kernel
theorem dX11_isDrawn_21 : decode cX11_isDrawn 21 = .ok (.new 204, 3) := by decide +kernel
theorem dX11_isDrawn_24 : decode cX11_isDrawn 24 = .ok (.dup, 1) := by decide +kernel
theorem dX11_isDrawn_25 : decode cX11_isDrawn 25 = .ok (.ldc 206, 2) := by decide +kernel
theorem dX11_isDrawn_27 : decode cX11_isDrawn 27 = .ok (.invokespecial 208, 3) := by decide +kernel
theorem dX11_isDrawn_30 : decode cX11_isDrawn 30 = .ok (.athrow, 1) := by decide +kernel
theorem dX11_isDrawn_31 : decode cX11_isDrawn 31 = .ok (.aload 5, 2) := by decide +kernel
theorem dX11_isDrawn_33 : decode cX11_isDrawn 33 = .ok (.getfield 114, 3) := by decide +kernel
theorem dX11_isDrawn_36 : decode cX11_isDrawn 36 = .ok (.iload_n 2, 1) := by decide +kernel
theorem dX11_isDrawn_37 : decode cX11_isDrawn 37 = .ok (.iload_n 3, 1) := by decide +kernel
theorem dX11_isDrawn_38 : decode cX11_isDrawn 38 = .ok (.iload 4, 2) := by decide +kernel
theorem dX11_isDrawn_40 : decode cX11_isDrawn 40 = .ok (.invokevirtual 209, 3) := by decide +kernel
theorem dX11_isDrawn_43 : decode cX11_isDrawn 43 = .ok (.ireturn, 1) := by decide +kernel
