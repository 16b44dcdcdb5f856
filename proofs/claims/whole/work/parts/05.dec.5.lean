theorem dX7_judge_49 : decode cX7_judge 49 = .ok (.iconst 0, 1) := by decide +kernel
theorem dX7_judge_50 : decode cX7_judge 50 = .ok (.ireturn, 1) := by decide +kernel
theorem dX7_judge_51 : decode cX7_judge 51 = .ok (.iconst 0, 1) := by decide +kernel
theorem dX7_judge_52 : decode cX7_judge 52 = .ok (.istore_n 2, 1) := by decide +kernel
theorem dX7_judge_53 : decode cX7_judge 53 = .ok (.iconst 1, 1) := by decide +kernel
theorem dX7_judge_54 : decode cX7_judge 54 = .ok (.istore_n 3, 1) := by decide +kernel
theorem dX7_judge_55 : decode cX7_judge 55 = .ok (.iconst 0, 1) := by decide +kernel
theorem dX7_judge_56 : decode cX7_judge 56 = .ok (.istore 4, 2) := by decide +kernel
theorem dX7_judge_58 : decode cX7_judge 58 = .ok (.iload 4, 2) := by decide +kernel
theorem dX7_judge_60 : decode cX7_judge 60 = .ok (.aload_n 0, 1) := by decide +kernel
theorem dX7_judge_61 : decode cX7_judge 61 = .ok (.getfield 107, 3) := by decide +kernel
theorem dX7_judge_64 : decode cX7_judge 64 = .ok (.if_icmp .ge 172, 3) := by decide +kernel
theorem dX7_judge_67 : decode cX7_judge 67 = .ok (.iload_n 3, 1) := by decide +kernel
theorem dX7_judge_68 : decode cX7_judge 68 = .ok (.ifCond .eq 32, 3) := by decide +kernel
theorem dX7_judge_71 : decode cX7_judge 71 = .ok (.iload 4, 2) := by decide +kernel
theorem dX7_judge_73 : decode cX7_judge 73 = .ok (.ifCond .eq 23, 3) := by decide +kernel
theorem dX7_judge_76 : decode cX7_judge 76 = .ok (.aload_n 0, 1) := by decide +kernel
theorem dX7_judge_77 : decode cX7_judge 77 = .ok (.getfield 38, 3) := by decide +kernel
theorem dX7_judge_80 : decode cX7_judge 80 = .ok (.iload 4, 2) := by decide +kernel
theorem dX7_judge_82 : decode cX7_judge 82 = .ok (.iaload, 1) := by decide +kernel
theorem dX7_judge_83 : decode cX7_judge 83 = .ok (.ifCond .ne 13, 3) := by decide +kernel
theorem dX7_judge_86 : decode cX7_judge 86 = .ok (.aload_n 0, 1) := by decide +kernel
theorem dX7_judge_87 : decode cX7_judge 87 = .ok (.getfield 41, 3) := by decide +kernel
theorem dX7_judge_90 : decode cX7_judge 90 = .ok (.iload 4, 2) := by decide +kernel
theorem dX7_judge_92 : decode cX7_judge 92 = .ok (.iaload, 1) := by decide +kernel
theorem dX7_judge_93 : decode cX7_judge 93 = .ok (.ifCond .eq 7, 3) := by decide +kernel
theorem dX7_judge_96 : decode cX7_judge 96 = .ok (.iconst 1, 1) := by decide +kernel
theorem dX7_judge_97 : decode cX7_judge 97 = .ok (.goto 4, 3) := by decide +kernel
theorem dX7_judge_100 : decode cX7_judge 100 = .ok (.iconst 0, 1) := by decide +kernel
theorem dX7_judge_101 : decode cX7_judge 101 = .ok (.istore_n 3, 1) := by decide +kernel
theorem dX7_judge_102 : decode cX7_judge 102 = .ok (.aload_n 0, 1) := by decide +kernel
theorem dX7_judge_103 : decode cX7_judge 103 = .ok (.getfield 26, 3) := by decide +kernel
theorem dX7_judge_106 : decode cX7_judge 106 = .ok (.iload 4, 2) := by decide +kernel
theorem dX7_judge_108 : decode cX7_judge 108 = .ok (.iaload, 1) := by decide +kernel
theorem dX7_judge_109 : decode cX7_judge 109 = .ok (.iconst 1, 1) := by decide +kernel
theorem dX7_judge_110 : decode cX7_judge 110 = .ok (.if_icmp .ne 17, 3) := by decide +kernel
theorem dX7_judge_113 : decode cX7_judge 113 = .ok (.iload_n 3, 1) := by decide +kernel
theorem dX7_judge_114 : decode cX7_judge 114 = .ok (.ifCond .eq 11, 3) := by decide +kernel
theorem dX7_judge_117 : decode cX7_judge 117 = .ok (.iload_n 1, 1) := by decide +kernel
theorem dX7_judge_118 : decode cX7_judge 118 = .ok (.ifCond .ne 7, 3) := by decide +kernel
theorem dX7_judge_121 : decode cX7_judge 121 = .ok (.iconst 1, 1) := by decide +kernel
theorem dX7_judge_122 : decode cX7_judge 122 = .ok (.goto 4, 3) := by decide +kernel
theorem dX7_judge_125 : decode cX7_judge 125 = .ok (.iconst 0, 1) := by decide +kernel
theorem dX7_judge_126 : decode cX7_judge 126 = .ok (.istore_n 3, 1) := by decide +kernel
theorem dX7_judge_127 : decode cX7_judge 127 = .ok (.aload_n 0, 1) := by decide +kernel
theorem dX7_judge_128 : decode cX7_judge 128 = .ok (.getfield 26, 3) := by decide +kernel
theorem dX7_judge_131 : decode cX7_judge 131 = .ok (.iload 4, 2) := by decide +kernel
theorem dX7_judge_133 : decode cX7_judge 133 = .ok (.iaload, 1) := by decide +kernel
theorem dX7_judge_134 : decode cX7_judge 134 = .ok (.ifCond .ne 41, 3) := by decide +kernel
theorem dX7_judge_137 : decode cX7_judge 137 = .ok (.iload_n 3, 1) := by decide +kernel
theorem dX7_judge_138 : decode cX7_judge 138 = .ok (.ifCond .eq 35, 3) := by decide +kernel
theorem dX7_judge_141 : decode cX7_judge 141 = .ok (.iload_n 1, 1) := by decide +kernel
theorem dX7_judge_142 : decode cX7_judge 142 = .ok (.iconst 1, 1) := by decide +kernel
theorem dX7_judge_143 : decode cX7_judge 143 = .ok (.if_icmp .ne 7, 3) := by decide +kernel
theorem dX7_judge_146 : decode cX7_judge 146 = .ok (.iload_n 2, 1) := by decide +kernel
theorem dX7_judge_147 : decode cX7_judge 147 = .ok (.ifCond .ne 26, 3) := by decide +kernel
theorem dX7_judge_150 : decode cX7_judge 150 = .ok (.iload_n 1, 1) := by decide +kernel
theorem dX7_judge_151 : decode cX7_judge 151 = .ok (.iconst 2, 1) := by decide +kernel
theorem dX7_judge_152 : decode cX7_judge 152 = .ok (.if_icmp .ne 17, 3) := by decide +kernel
theorem dX7_judge_155 : decode cX7_judge 155 = .ok (.aload_n 0, 1) := by decide +kernel
theorem dX7_judge_156 : decode cX7_judge 156 = .ok (.getfield 29, 3) := by decide +kernel
theorem dX7_judge_159 : decode cX7_judge 159 = .ok (.iload 4, 2) := by decide +kernel
theorem dX7_judge_161 : decode cX7_judge 161 = .ok (.iaload, 1) := by decide +kernel
theorem dX7_judge_162 : decode cX7_judge 162 = .ok (.aload_n 0, 1) := by decide +kernel
theorem dX7_judge_163 : decode cX7_judge 163 = .ok (.getfield 74, 3) := by decide +kernel
theorem dX7_judge_166 : decode cX7_judge 166 = .ok (.if_icmp .ne 7, 3) := by decide +kernel
theorem dX7_judge_169 : decode cX7_judge 169 = .ok (.iconst 1, 1) := by decide +kernel
theorem dX7_judge_170 : decode cX7_judge 170 = .ok (.goto 4, 3) := by decide +kernel
theorem dX7_judge_173 : decode cX7_judge 173 = .ok (.iconst 0, 1) := by decide +kernel
theorem dX7_judge_174 : decode cX7_judge 174 = .ok (.istore_n 3, 1) := by decide +kernel
theorem dX7_judge_175 : decode cX7_judge 175 = .ok (.iload_n 2, 1) := by decide +kernel
theorem dX7_judge_176 : decode cX7_judge 176 = .ok (.ifCond .ne 14, 3) := by decide +kernel
theorem dX7_judge_179 : decode cX7_judge 179 = .ok (.aload_n 0, 1) := by decide +kernel
theorem dX7_judge_180 : decode cX7_judge 180 = .ok (.getfield 26, 3) := by decide +kernel
theorem dX7_judge_183 : decode cX7_judge 183 = .ok (.iload 4, 2) := by decide +kernel
theorem dX7_judge_185 : decode cX7_judge 185 = .ok (.iaload, 1) := by decide +kernel
theorem dX7_judge_186 : decode cX7_judge 186 = .ok (.iconst 2, 1) := by decide +kernel
theorem dX7_judge_187 : decode cX7_judge 187 = .ok (.if_icmp .ne 7, 3) := by decide +kernel
theorem dX7_judge_190 : decode cX7_judge 190 = .ok (.iconst 1, 1) := by decide +kernel
theorem dX7_judge_191 : decode cX7_judge 191 = .ok (.goto 4, 3) := by decide +kernel
theorem dX7_judge_194 : decode cX7_judge 194 = .ok (.iconst 0, 1) := by decide +kernel
theorem dX7_judge_195 : decode cX7_judge 195 = .ok (.istore_n 2, 1) := by decide +kernel
theorem dX7_judge_196 : decode cX7_judge 196 = .ok (.aload_n 0, 1) := by decide +kernel
theorem dX7_judge_197 : decode cX7_judge 197 = .ok (.iload 4, 2) := by decide +kernel
theorem dX7_judge_199 : decode cX7_judge 199 = .ok (.iconst 1, 1) := by decide +kernel
theorem dX7_judge_200 : decode cX7_judge 200 = .ok (.iadd, 1) := by decide +kernel
theorem dX7_judge_201 : decode cX7_judge 201 = .ok (.invokevirtual 120, 3) := by decide +kernel
theorem dX7_judge_204 : decode cX7_judge 204 = .ok (.iload_n 3, 1) := by decide +kernel
theorem dX7_judge_205 : decode cX7_judge 205 = .ok (.ifCond .eq 23, 3) := by decide +kernel
theorem dX7_judge_208 : decode cX7_judge 208 = .ok (.iload_n 1, 1) := by decide +kernel
theorem dX7_judge_209 : decode cX7_judge 209 = .ok (.iconst 2, 1) := by decide +kernel
theorem dX7_judge_210 : decode cX7_judge 210 = .ok (.if_icmp .ne 14, 3) := by decide +kernel
theorem dX7_judge_213 : decode cX7_judge 213 = .ok (.aload_n 0, 1) := by decide +kernel
theorem dX7_judge_214 : decode cX7_judge 214 = .ok (.aload_n 0, 1) := by decide +kernel
theorem dX7_judge_215 : decode cX7_judge 215 = .ok (.getfield 74, 3) := by decide +kernel
theorem dX7_judge_218 : decode cX7_judge 218 = .ok (.invokevirtual 174, 3) := by decide +kernel
theorem dX7_judge_221 : decode cX7_judge 221 = .ok (.ifCond .eq 7, 3) := by decide +kernel
theorem dX7_judge_224 : decode cX7_judge 224 = .ok (.iconst 1, 1) := by decide +kernel
theorem dX7_judge_225 : decode cX7_judge 225 = .ok (.goto 4, 3) := by decide +kernel
theorem dX7_judge_228 : decode cX7_judge 228 = .ok (.iconst 0, 1) := by decide +kernel
theorem dX7_judge_229 : decode cX7_judge 229 = .ok (.istore_n 3, 1) := by decide +kernel
theorem dX7_judge_230 : decode cX7_judge 230 = .ok (.iinc 4 1, 3) := by decide +kernel
theorem dX7_judge_233 : decode cX7_judge 233 = .ok (.goto (-175), 3) := by decide +kernel
theorem dX7_judge_236 : decode cX7_judge 236 = .ok (.iload_n 3, 1) := by decide +kernel
theorem dX7_judge_237 : decode cX7_judge 237 = .ok (.ifCond .eq 7, 3) := by decide +kernel
theorem dX7_judge_240 : decode cX7_judge 240 = .ok (.iconst 1, 1) := by decide +kernel
theorem dX7_judge_241 : decode cX7_judge 241 = .ok (.goto 4, 3) := by decide +kernel
theorem dX7_judge_244 : decode cX7_judge 244 = .ok (.iconst 0, 1) := by decide +kernel
theorem dX7_judge_245 : decode cX7_judge 245 = .ok (.ireturn, 1) := by decide +kernel
theorem dX7_cutOf_0 : decode cX7_cutOf 0 = .ok (.iconst 0, 1) := by decide +kernel
theorem dX7_cutOf_1 : decode cX7_cutOf 1 = .ok (.istore_n 2, 1) := by decide +kernel
theorem dX7_cutOf_2 : decode cX7_cutOf 2 = .ok (.iconst 0, 1) := by decide +kernel
theorem dX7_cutOf_3 : decode cX7_cutOf 3 = .ok (.istore_n 3, 1) := by decide +kernel
theorem dX7_cutOf_4 : decode cX7_cutOf 4 = .ok (.iload_n 3, 1) := by decide +kernel
theorem dX7_cutOf_5 : decode cX7_cutOf 5 = .ok (.bipush 18, 2) := by decide +kernel
theorem dX7_cutOf_7 : decode cX7_cutOf 7 = .ok (.if_icmp .ge 105, 3) := by decide +kernel
theorem dX7_cutOf_10 : decode cX7_cutOf 10 = .ok (.aload_n 0, 1) := by decide +kernel
theorem dX7_cutOf_11 : decode cX7_cutOf 11 = .ok (.getfield 16, 3) := by decide +kernel
theorem dX7_cutOf_14 : decode cX7_cutOf 14 = .ok (.iload_n 3, 1) := by decide +kernel
theorem dX7_cutOf_15 : decode cX7_cutOf 15 = .ok (.baload, 1) := by decide +kernel
theorem dX7_cutOf_16 : decode cX7_cutOf 16 = .ok (.ifCond .ne 6, 3) := by decide +kernel
theorem dX7_cutOf_19 : decode cX7_cutOf 19 = .ok (.goto 87, 3) := by decide +kernel
theorem dX7_cutOf_22 : decode cX7_cutOf 22 = .ok (.iload_n 1, 1) := by decide +kernel
theorem dX7_cutOf_23 : decode cX7_cutOf 23 = .ok (.aload_n 0, 1) := by decide +kernel
theorem dX7_cutOf_24 : decode cX7_cutOf 24 = .ok (.getfield 7, 3) := by decide +kernel
theorem dX7_cutOf_27 : decode cX7_cutOf 27 = .ok (.iload_n 3, 1) := by decide +kernel
theorem dX7_cutOf_28 : decode cX7_cutOf 28 = .ok (.iaload, 1) := by decide +kernel
theorem dX7_cutOf_29 : decode cX7_cutOf 29 = .ok (.ishr, 1) := by decide +kernel
theorem dX7_cutOf_30 : decode cX7_cutOf 30 = .ok (.iconst 1, 1) := by decide +kernel
theorem dX7_cutOf_31 : decode cX7_cutOf 31 = .ok (.iand, 1) := by decide +kernel
theorem dX7_cutOf_32 : decode cX7_cutOf 32 = .ok (.iconst 1, 1) := by decide +kernel
theorem dX7_cutOf_33 : decode cX7_cutOf 33 = .ok (.if_icmp .ne 7, 3) := by decide +kernel
theorem dX7_cutOf_36 : decode cX7_cutOf 36 = .ok (.iconst 1, 1) := by decide +kernel
theorem dX7_cutOf_37 : decode cX7_cutOf 37 = .ok (.goto 4, 3) := by decide +kernel
theorem dX7_cutOf_40 : decode cX7_cutOf 40 = .ok (.iconst 0, 1) := by decide +kernel
theorem dX7_cutOf_41 : decode cX7_cutOf 41 = .ok (.istore 4, 2) := by decide +kernel
theorem dX7_cutOf_43 : decode cX7_cutOf 43 = .ok (.iload_n 1, 1) := by decide +kernel
theorem dX7_cutOf_44 : decode cX7_cutOf 44 = .ok (.aload_n 0, 1) := by decide +kernel
theorem dX7_cutOf_45 : decode cX7_cutOf 45 = .ok (.getfield 13, 3) := by decide +kernel
theorem dX7_cutOf_48 : decode cX7_cutOf 48 = .ok (.iload_n 3, 1) := by decide +kernel
theorem dX7_cutOf_49 : decode cX7_cutOf 49 = .ok (.iaload, 1) := by decide +kernel
theorem dX7_cutOf_50 : decode cX7_cutOf 50 = .ok (.ishr, 1) := by decide +kernel
theorem dX7_cutOf_51 : decode cX7_cutOf 51 = .ok (.iconst 1, 1) := by decide +kernel
theorem dX7_cutOf_52 : decode cX7_cutOf 52 = .ok (.iand, 1) := by decide +kernel
theorem dX7_cutOf_53 : decode cX7_cutOf 53 = .ok (.iconst 1, 1) := by decide +kernel
theorem dX7_cutOf_54 : decode cX7_cutOf 54 = .ok (.if_icmp .ne 7, 3) := by decide +kernel
theorem dX7_cutOf_57 : decode cX7_cutOf 57 = .ok (.iconst 1, 1) := by decide +kernel
theorem dX7_cutOf_58 : decode cX7_cutOf 58 = .ok (.goto 4, 3) := by decide +kernel
theorem dX7_cutOf_61 : decode cX7_cutOf 61 = .ok (.iconst 0, 1) := by decide +kernel
theorem dX7_cutOf_62 : decode cX7_cutOf 62 = .ok (.istore 5, 2) := by decide +kernel
theorem dX7_cutOf_64 : decode cX7_cutOf 64 = .ok (.iload 4, 2) := by decide +kernel
theorem dX7_cutOf_66 : decode cX7_cutOf 66 = .ok (.ifCond .eq 19, 3) := by decide +kernel
theorem dX7_cutOf_69 : decode cX7_cutOf 69 = .ok (.iload 5, 2) := by decide +kernel
theorem dX7_cutOf_71 : decode cX7_cutOf 71 = .ok (.ifCond .ne 14, 3) := by decide +kernel
theorem dX7_cutOf_74 : decode cX7_cutOf 74 = .ok (.iload_n 2, 1) := by decide +kernel
theorem dX7_cutOf_75 : decode cX7_cutOf 75 = .ok (.iconst 1, 1) := by decide +kernel
theorem dX7_cutOf_76 : decode cX7_cutOf 76 = .ok (.aload_n 0, 1) := by decide +kernel
theorem dX7_cutOf_77 : decode cX7_cutOf 77 = .ok (.getfield 7, 3) := by decide +kernel
theorem dX7_cutOf_80 : decode cX7_cutOf 80 = .ok (.iload_n 3, 1) := by decide +kernel
theorem dX7_cutOf_81 : decode cX7_cutOf 81 = .ok (.iaload, 1) := by decide +kernel
theorem dX7_cutOf_82 : decode cX7_cutOf 82 = .ok (.ishl, 1) := by decide +kernel
theorem dX7_cutOf_83 : decode cX7_cutOf 83 = .ok (.ior, 1) := by decide +kernel
theorem dX7_cutOf_84 : decode cX7_cutOf 84 = .ok (.istore_n 2, 1) := by decide +kernel
theorem dX7_cutOf_85 : decode cX7_cutOf 85 = .ok (.iload 5, 2) := by decide +kernel
theorem dX7_cutOf_87 : decode cX7_cutOf 87 = .ok (.ifCond .eq 19, 3) := by decide +kernel
theorem dX7_cutOf_90 : decode cX7_cutOf 90 = .ok (.iload 4, 2) := by decide +kernel
theorem dX7_cutOf_92 : decode cX7_cutOf 92 = .ok (.ifCond .ne 14, 3) := by decide +kernel
theorem dX7_cutOf_95 : decode cX7_cutOf 95 = .ok (.iload_n 2, 1) := by decide +kernel
theorem dX7_cutOf_96 : decode cX7_cutOf 96 = .ok (.iconst 1, 1) := by decide +kernel
theorem dX7_cutOf_97 : decode cX7_cutOf 97 = .ok (.aload_n 0, 1) := by decide +kernel
theorem dX7_cutOf_98 : decode cX7_cutOf 98 = .ok (.getfield 13, 3) := by decide +kernel
theorem dX7_cutOf_101 : decode cX7_cutOf 101 = .ok (.iload_n 3, 1) := by decide +kernel
theorem dX7_cutOf_102 : decode cX7_cutOf 102 = .ok (.iaload, 1) := by decide +kernel
theorem dX7_cutOf_103 : decode cX7_cutOf 103 = .ok (.ishl, 1) := by decide +kernel
theorem dX7_cutOf_104 : decode cX7_cutOf 104 = .ok (.ior, 1) := by decide +kernel
theorem dX7_cutOf_105 : decode cX7_cutOf 105 = .ok (.istore_n 2, 1) := by decide +kernel
theorem dX7_cutOf_106 : decode cX7_cutOf 106 = .ok (.iinc 3 1, 3) := by decide +kernel
theorem dX7_cutOf_109 : decode cX7_cutOf 109 = .ok (.goto (-105), 3) := by decide +kernel
theorem dX7_cutOf_112 : decode cX7_cutOf 112 = .ok (.iload_n 2, 1) := by decide +kernel
theorem dX7_cutOf_113 : decode cX7_cutOf 113 = .ok (.invokestatic 134, 3) := by decide +kernel
theorem dX7_cutOf_116 : decode cX7_cutOf 116 = .ok (.ireturn, 1) := by decide +kernel
theorem dX7_place_0 : decode cX7_place 0 = .ok (.iload_n 1, 1) := by decide +kernel
theorem dX7_place_1 : decode cX7_place 1 = .ok (.ifCond .lt 19, 3) := by decide +kernel
theorem dX7_place_4 : decode cX7_place 4 = .ok (.iload_n 1, 1) := by decide +kernel
theorem dX7_place_5 : decode cX7_place 5 = .ok (.aload_n 0, 1) := by decide +kernel
theorem dX7_place_6 : decode cX7_place 6 = .ok (.getfield 68, 3) := by decide +kernel
theorem dX7_place_9 : decode cX7_place 9 = .ok (.if_icmp .ge 11, 3) := by decide +kernel
theorem dX7_place_12 : decode cX7_place 12 = .ok (.aload_n 0, 1) := by decide +kernel
theorem dX7_place_13 : decode cX7_place 13 = .ok (.iload_n 2, 1) := by decide +kernel
theorem dX7_place_14 : decode cX7_place 14 = .ok (.invokevirtual 80, 3) := by decide +kernel
theorem dX7_place_17 : decode cX7_place 17 = .ok (.ifCond .ne 5, 3) := by decide +kernel
theorem dX7_place_20 : decode cX7_place 20 = .ok (.iconst 0, 1) := by decide +kernel
theorem dX7_place_21 : decode cX7_place 21 = .ok (.ireturn, 1) := by decide +kernel
theorem dX7_place_22 : decode cX7_place 22 = .ok (.aload_n 0, 1) := by decide +kernel
theorem dX7_place_23 : decode cX7_place 23 = .ok (.iload_n 2, 1) := by decide +kernel
theorem dX7_place_24 : decode cX7_place 24 = .ok (.invokevirtual 147, 3) := by decide +kernel
theorem dX7_place_27 : decode cX7_place 27 = .ok (.istore_n 3, 1) := by decide +kernel
theorem dX7_place_28 : decode cX7_place 28 = .ok (.aload_n 0, 1) := by decide +kernel
theorem dX7_place_29 : decode cX7_place 29 = .ok (.getfield 20, 3) := by decide +kernel
theorem dX7_place_32 : decode cX7_place 32 = .ok (.iload_n 3, 1) := by decide +kernel
theorem dX7_place_33 : decode cX7_place 33 = .ok (.aload_n 0, 1) := by decide +kernel
theorem dX7_place_34 : decode cX7_place 34 = .ok (.getfield 20, 3) := by decide +kernel
theorem dX7_place_37 : decode cX7_place 37 = .ok (.iload_n 1, 1) := by decide +kernel
theorem dX7_place_38 : decode cX7_place 38 = .ok (.iaload, 1) := by decide +kernel
theorem dX7_place_39 : decode cX7_place 39 = .ok (.iastore, 1) := by decide +kernel
theorem dX7_place_40 : decode cX7_place 40 = .ok (.aload_n 0, 1) := by decide +kernel
theorem dX7_place_41 : decode cX7_place 41 = .ok (.getfield 20, 3) := by decide +kernel
theorem dX7_place_44 : decode cX7_place 44 = .ok (.iload_n 1, 1) := by decide +kernel
theorem dX7_place_45 : decode cX7_place 45 = .ok (.iload_n 2, 1) := by decide +kernel
theorem dX7_place_46 : decode cX7_place 46 = .ok (.iastore, 1) := by decide +kernel
theorem dX7_place_47 : decode cX7_place 47 = .ok (.iconst 1, 1) := by decide +kernel
theorem dX7_place_48 : decode cX7_place 48 = .ok (.ireturn, 1) := by decide +kernel
theorem dX7_cutBehind_0 : decode cX7_cutBehind 0 = .ok (.iconst 0, 1) := by decide +kernel
theorem dX7_cutBehind_1 : decode cX7_cutBehind 1 = .ok (.istore_n 2, 1) := by decide +kernel
theorem dX7_cutBehind_2 : decode cX7_cutBehind 2 = .ok (.iconst 0, 1) := by decide +kernel
theorem dX7_cutBehind_3 : decode cX7_cutBehind 3 = .ok (.istore_n 3, 1) := by decide +kernel
theorem dX7_cutBehind_4 : decode cX7_cutBehind 4 = .ok (.iload_n 3, 1) := by decide +kernel
theorem dX7_cutBehind_5 : decode cX7_cutBehind 5 = .ok (.iload_n 1, 1) := by decide +kernel
theorem dX7_cutBehind_6 : decode cX7_cutBehind 6 = .ok (.if_icmp .ge 20, 3) := by decide +kernel
theorem dX7_cutBehind_9 : decode cX7_cutBehind 9 = .ok (.iload_n 2, 1) := by decide +kernel
theorem dX7_cutBehind_10 : decode cX7_cutBehind 10 = .ok (.iconst 1, 1) := by decide +kernel
theorem dX7_cutBehind_11 : decode cX7_cutBehind 11 = .ok (.aload_n 0, 1) := by decide +kernel
theorem dX7_cutBehind_12 : decode cX7_cutBehind 12 = .ok (.getfield 20, 3) := by decide +kernel
theorem dX7_cutBehind_15 : decode cX7_cutBehind 15 = .ok (.iload_n 3, 1) := by decide +kernel
theorem dX7_cutBehind_16 : decode cX7_cutBehind 16 = .ok (.iaload, 1) := by decide +kernel
theorem dX7_cutBehind_17 : decode cX7_cutBehind 17 = .ok (.ishl, 1) := by decide +kernel
theorem dX7_cutBehind_18 : decode cX7_cutBehind 18 = .ok (.ior, 1) := by decide +kernel
theorem dX7_cutBehind_19 : decode cX7_cutBehind 19 = .ok (.istore_n 2, 1) := by decide +kernel
theorem dX7_cutBehind_20 : decode cX7_cutBehind 20 = .ok (.iinc 3 1, 3) := by decide +kernel
theorem dX7_cutBehind_23 : decode cX7_cutBehind 23 = .ok (.goto (-19), 3) := by decide +kernel
theorem dX7_cutBehind_26 : decode cX7_cutBehind 26 = .ok (.aload_n 0, 1) := by decide +kernel
theorem dX7_cutBehind_27 : decode cX7_cutBehind 27 = .ok (.iload_n 2, 1) := by decide +kernel
theorem dX7_cutBehind_28 : decode cX7_cutBehind 28 = .ok (.invokevirtual 187, 3) := by decide +kernel
theorem dX7_cutBehind_31 : decode cX7_cutBehind 31 = .ok (.ireturn, 1) := by decide +kernel
theorem dX7_cut_0 : decode cX7_cut 0 = .ok (.iload_n 1, 1) := by decide +kernel
theorem dX7_cut_1 : decode cX7_cut 1 = .ok (.ifCond .lt 18, 3) := by decide +kernel
theorem dX7_cut_4 : decode cX7_cut 4 = .ok (.iload_n 1, 1) := by decide +kernel
theorem dX7_cut_5 : decode cX7_cut 5 = .ok (.aload_n 0, 1) := by decide +kernel
theorem dX7_cut_6 : decode cX7_cut 6 = .ok (.getfield 68, 3) := by decide +kernel
theorem dX7_cut_9 : decode cX7_cut 9 = .ok (.if_icmp .gt 10, 3) := by decide +kernel
theorem dX7_cut_12 : decode cX7_cut 12 = .ok (.aload_n 0, 1) := by decide +kernel
theorem dX7_cut_13 : decode cX7_cut 13 = .ok (.getfield 68, 3) := by decide +kernel
theorem dX7_cut_16 : decode cX7_cut 16 = .ok (.ifCond .ne 5, 3) := by decide +kernel
theorem dX7_cut_19 : decode cX7_cut 19 = .ok (.iconst (-1), 1) := by decide +kernel
theorem dX7_cut_20 : decode cX7_cut 20 = .ok (.ireturn, 1) := by decide +kernel
theorem dX7_cut_21 : decode cX7_cut 21 = .ok (.iload_n 1, 1) := by decide +kernel
theorem dX7_cut_22 : decode cX7_cut 22 = .ok (.ifCond .le 9, 3) := by decide +kernel
theorem dX7_cut_25 : decode cX7_cut 25 = .ok (.aload_n 0, 1) := by decide +kernel
theorem dX7_cut_26 : decode cX7_cut 26 = .ok (.iload_n 1, 1) := by decide +kernel
theorem dX7_cut_27 : decode cX7_cut 27 = .ok (.invokevirtual 190, 3) := by decide +kernel
theorem dX7_cut_30 : decode cX7_cut 30 = .ok (.ireturn, 1) := by decide +kernel
theorem dX7_cut_31 : decode cX7_cut 31 = .ok (.iconst 0, 1) := by decide +kernel
theorem dX7_cut_32 : decode cX7_cut 32 = .ok (.istore_n 2, 1) := by decide +kernel
theorem dX7_cut_33 : decode cX7_cut 33 = .ok (.iconst 1, 1) := by decide +kernel
theorem dX7_cut_34 : decode cX7_cut 34 = .ok (.istore_n 3, 1) := by decide +kernel
theorem dX7_cut_35 : decode cX7_cut 35 = .ok (.iload_n 3, 1) := by decide +kernel
theorem dX7_cut_36 : decode cX7_cut 36 = .ok (.aload_n 0, 1) := by decide +kernel
theorem dX7_cut_37 : decode cX7_cut 37 = .ok (.getfield 68, 3) := by decide +kernel
theorem dX7_cut_40 : decode cX7_cut 40 = .ok (.if_icmp .gt 24, 3) := by decide +kernel
theorem dX7_cut_43 : decode cX7_cut 43 = .ok (.aload_n 0, 1) := by decide +kernel
theorem dX7_cut_44 : decode cX7_cut 44 = .ok (.iload_n 3, 1) := by decide +kernel
theorem dX7_cut_45 : decode cX7_cut 45 = .ok (.invokevirtual 190, 3) := by decide +kernel
theorem dX7_cut_48 : decode cX7_cut 48 = .ok (.iload_n 2, 1) := by decide +kernel
theorem dX7_cut_49 : decode cX7_cut 49 = .ok (.if_icmp .le 9, 3) := by decide +kernel
theorem dX7_cut_52 : decode cX7_cut 52 = .ok (.aload_n 0, 1) := by decide +kernel
theorem dX7_cut_53 : decode cX7_cut 53 = .ok (.iload_n 3, 1) := by decide +kernel
theorem dX7_cut_54 : decode cX7_cut 54 = .ok (.invokevirtual 190, 3) := by decide +kernel
theorem dX7_cut_57 : decode cX7_cut 57 = .ok (.istore_n 2, 1) := by decide +kernel
theorem dX7_cut_58 : decode cX7_cut 58 = .ok (.iinc 3 1, 3) := by decide +kernel
theorem dX7_cut_61 : decode cX7_cut 61 = .ok (.goto (-26), 3) := by decide +kernel
theorem dX7_cut_64 : decode cX7_cut 64 = .ok (.iload_n 2, 1) := by decide +kernel
theorem dX7_cut_65 : decode cX7_cut 65 = .ok (.ireturn, 1) := by decide +kernel
theorem dX7_width_0 : decode cX7_width 0 = .ok (.aload_n 0, 1) := by decide +kernel
theorem dX7_width_1 : decode cX7_width 1 = .ok (.getfield 68, 3) := by decide +kernel
theorem dX7_width_4 : decode cX7_width 4 = .ok (.ifCond .ne 5, 3) := by decide +kernel
theorem dX7_width_7 : decode cX7_width 7 = .ok (.iconst (-1), 1) := by decide +kernel
theorem dX7_width_8 : decode cX7_width 8 = .ok (.ireturn, 1) := by decide +kernel
theorem dX7_width_9 : decode cX7_width 9 = .ok (.iconst 1, 1) := by decide +kernel
theorem dX7_width_10 : decode cX7_width 10 = .ok (.aload_n 0, 1) := by decide +kernel
theorem dX7_width_11 : decode cX7_width 11 = .ok (.getfield 68, 3) := by decide +kernel
theorem dX7_width_14 : decode cX7_width 14 = .ok (.ishl, 1) := by decide +kernel
theorem dX7_width_15 : decode cX7_width 15 = .ok (.iconst 1, 1) := by decide +kernel
theorem dX7_width_16 : decode cX7_width 16 = .ok (.isub, 1) := by decide +kernel
theorem dX7_width_17 : decode cX7_width 17 = .ok (.istore_n 1, 1) := by decide +kernel
theorem dX7_width_18 : decode cX7_width 18 = .ok (.aload_n 0, 1) := by decide +kernel
theorem dX7_width_19 : decode cX7_width 19 = .ok (.getfield 65, 3) := by decide +kernel
theorem dX7_width_22 : decode cX7_width 22 = .ok (.iload_n 1, 1) := by decide +kernel
theorem dX7_width_23 : decode cX7_width 23 = .ok (.iconst 0, 1) := by decide +kernel
theorem dX7_width_24 : decode cX7_width 24 = .ok (.iastore, 1) := by decide +kernel
theorem dX7_width_25 : decode cX7_width 25 = .ok (.iload_n 1, 1) := by decide +kernel
theorem dX7_width_26 : decode cX7_width 26 = .ok (.iconst 1, 1) := by decide +kernel
theorem dX7_width_27 : decode cX7_width 27 = .ok (.isub, 1) := by decide +kernel
theorem dX7_width_28 : decode cX7_width 28 = .ok (.istore_n 2, 1) := by decide +kernel
theorem dX7_width_29 : decode cX7_width 29 = .ok (.iload_n 2, 1) := by decide +kernel
theorem dX7_width_30 : decode cX7_width 30 = .ok (.ifCond .lt 71, 3) := by decide +kernel
theorem dX7_width_33 : decode cX7_width 33 = .ok (.bipush 13, 2) := by decide +kernel
theorem dX7_width_35 : decode cX7_width 35 = .ok (.istore_n 3, 1) := by decide +kernel
theorem dX7_width_36 : decode cX7_width 36 = .ok (.iconst 0, 1) := by decide +kernel
theorem dX7_width_37 : decode cX7_width 37 = .ok (.istore 4, 2) := by decide +kernel
theorem dX7_width_39 : decode cX7_width 39 = .ok (.iload 4, 2) := by decide +kernel
theorem dX7_width_41 : decode cX7_width 41 = .ok (.aload_n 0, 1) := by decide +kernel
theorem dX7_width_42 : decode cX7_width 42 = .ok (.getfield 68, 3) := by decide +kernel
theorem dX7_width_45 : decode cX7_width 45 = .ok (.if_icmp .ge 43, 3) := by decide +kernel
theorem dX7_width_48 : decode cX7_width 48 = .ok (.iload_n 2, 1) := by decide +kernel
theorem dX7_width_49 : decode cX7_width 49 = .ok (.iload 4, 2) := by decide +kernel
theorem dX7_width_51 : decode cX7_width 51 = .ok (.ishr, 1) := by decide +kernel
theorem dX7_width_52 : decode cX7_width 52 = .ok (.iconst 1, 1) := by decide +kernel
theorem dX7_width_53 : decode cX7_width 53 = .ok (.iand, 1) := by decide +kernel
theorem dX7_width_54 : decode cX7_width 54 = .ok (.iconst 1, 1) := by decide +kernel
theorem dX7_width_55 : decode cX7_width 55 = .ok (.if_icmp .ne 6, 3) := by decide +kernel
theorem dX7_width_58 : decode cX7_width 58 = .ok (.goto 24, 3) := by decide +kernel
theorem dX7_width_61 : decode cX7_width 61 = .ok (.aload_n 0, 1) := by decide +kernel
theorem dX7_width_62 : decode cX7_width 62 = .ok (.iload_n 2, 1) := by decide +kernel
theorem dX7_width_63 : decode cX7_width 63 = .ok (.iconst 1, 1) := by decide +kernel
theorem dX7_width_64 : decode cX7_width 64 = .ok (.iload 4, 2) := by decide +kernel
theorem dX7_width_66 : decode cX7_width 66 = .ok (.ishl, 1) := by decide +kernel
theorem dX7_width_67 : decode cX7_width 67 = .ok (.ior, 1) := by decide +kernel
theorem dX7_width_68 : decode cX7_width 68 = .ok (.invokevirtual 193, 3) := by decide +kernel
theorem dX7_width_71 : decode cX7_width 71 = .ok (.istore 5, 2) := by decide +kernel
theorem dX7_width_73 : decode cX7_width 73 = .ok (.iload 5, 2) := by decide +kernel
theorem dX7_width_75 : decode cX7_width 75 = .ok (.iload_n 3, 1) := by decide +kernel
theorem dX7_width_76 : decode cX7_width 76 = .ok (.if_icmp .ge 6, 3) := by decide +kernel
theorem dX7_width_79 : decode cX7_width 79 = .ok (.iload 5, 2) := by decide +kernel
theorem dX7_width_81 : decode cX7_width 81 = .ok (.istore_n 3, 1) := by decide +kernel
theorem dX7_width_82 : decode cX7_width 82 = .ok (.iinc 4 1, 3) := by decide +kernel
theorem dX7_width_85 : decode cX7_width 85 = .ok (.goto (-46), 3) := by decide +kernel
theorem dX7_width_88 : decode cX7_width 88 = .ok (.aload_n 0, 1) := by decide +kernel
theorem dX7_width_89 : decode cX7_width 89 = .ok (.getfield 65, 3) := by decide +kernel
theorem dX7_width_92 : decode cX7_width 92 = .ok (.iload_n 2, 1) := by decide +kernel
theorem dX7_width_93 : decode cX7_width 93 = .ok (.iload_n 3, 1) := by decide +kernel
theorem dX7_width_94 : decode cX7_width 94 = .ok (.iastore, 1) := by decide +kernel
theorem dX7_width_95 : decode cX7_width 95 = .ok (.iinc 2 (-1), 3) := by decide +kernel
theorem dX7_width_98 : decode cX7_width 98 = .ok (.goto (-69), 3) := by decide +kernel
theorem dX7_width_101 : decode cX7_width 101 = .ok (.iconst 0, 1) := by decide +kernel
theorem dX7_width_102 : decode cX7_width 102 = .ok (.istore_n 2, 1) := by decide +kernel
theorem dX7_width_103 : decode cX7_width 103 = .ok (.iconst 0, 1) := by decide +kernel
theorem dX7_width_104 : decode cX7_width 104 = .ok (.istore_n 3, 1) := by decide +kernel
theorem dX7_width_105 : decode cX7_width 105 = .ok (.iload_n 3, 1) := by decide +kernel
theorem dX7_width_106 : decode cX7_width 106 = .ok (.aload_n 0, 1) := by decide +kernel
theorem dX7_width_107 : decode cX7_width 107 = .ok (.getfield 68, 3) := by decide +kernel
theorem dX7_width_110 : decode cX7_width 110 = .ok (.if_icmp .ge 65, 3) := by decide +kernel
theorem dX7_width_113 : decode cX7_width 113 = .ok (.iconst 0, 1) := by decide +kernel
theorem dX7_width_114 : decode cX7_width 114 = .ok (.istore 4, 2) := by decide +kernel
theorem dX7_width_116 : decode cX7_width 116 = .ok (.iload_n 2, 1) := by decide +kernel
theorem dX7_width_117 : decode cX7_width 117 = .ok (.iload 4, 2) := by decide +kernel
theorem dX7_width_119 : decode cX7_width 119 = .ok (.ishr, 1) := by decide +kernel
theorem dX7_width_120 : decode cX7_width 120 = .ok (.iconst 1, 1) := by decide +kernel
theorem dX7_width_121 : decode cX7_width 121 = .ok (.iand, 1) := by decide +kernel
theorem dX7_width_122 : decode cX7_width 122 = .ok (.iconst 1, 1) := by decide +kernel
theorem dX7_width_123 : decode cX7_width 123 = .ok (.if_icmp .eq 22, 3) := by decide +kernel
theorem dX7_width_126 : decode cX7_width 126 = .ok (.aload_n 0, 1) := by decide +kernel
theorem dX7_width_127 : decode cX7_width 127 = .ok (.iload_n 2, 1) := by decide +kernel
theorem dX7_width_128 : decode cX7_width 128 = .ok (.iconst 1, 1) := by decide +kernel
theorem dX7_width_129 : decode cX7_width 129 = .ok (.iload 4, 2) := by decide +kernel
theorem dX7_width_131 : decode cX7_width 131 = .ok (.ishl, 1) := by decide +kernel
theorem dX7_width_132 : decode cX7_width 132 = .ok (.ior, 1) := by decide +kernel
theorem dX7_width_133 : decode cX7_width 133 = .ok (.invokevirtual 193, 3) := by decide +kernel
theorem dX7_width_136 : decode cX7_width 136 = .ok (.aload_n 0, 1) := by decide +kernel
theorem dX7_width_137 : decode cX7_width 137 = .ok (.getfield 65, 3) := by decide +kernel
theorem dX7_width_140 : decode cX7_width 140 = .ok (.iconst 0, 1) := by decide +kernel
theorem dX7_width_141 : decode cX7_width 141 = .ok (.iaload, 1) := by decide +kernel
theorem dX7_width_142 : decode cX7_width 142 = .ok (.if_icmp .le 12, 3) := by decide +kernel
theorem dX7_width_145 : decode cX7_width 145 = .ok (.iload 4, 2) := by decide +kernel
theorem dX7_width_147 : decode cX7_width 147 = .ok (.iconst 1, 1) := by decide +kernel
theorem dX7_width_148 : decode cX7_width 148 = .ok (.iadd, 1) := by decide +kernel
theorem dX7_width_149 : decode cX7_width 149 = .ok (.istore 4, 2) := by decide +kernel
theorem dX7_width_151 : decode cX7_width 151 = .ok (.goto (-35), 3) := by decide +kernel
theorem dX7_width_154 : decode cX7_width 154 = .ok (.aload_n 0, 1) := by decide +kernel
theorem dX7_width_155 : decode cX7_width 155 = .ok (.getfield 20, 3) := by decide +kernel
theorem dX7_width_158 : decode cX7_width 158 = .ok (.iload_n 3, 1) := by decide +kernel
theorem dX7_width_159 : decode cX7_width 159 = .ok (.iload 4, 2) := by decide +kernel
theorem dX7_width_161 : decode cX7_width 161 = .ok (.iastore, 1) := by decide +kernel
theorem dX7_width_162 : decode cX7_width 162 = .ok (.iload_n 2, 1) := by decide +kernel
theorem dX7_width_163 : decode cX7_width 163 = .ok (.iconst 1, 1) := by decide +kernel
theorem dX7_width_164 : decode cX7_width 164 = .ok (.iload 4, 2) := by decide +kernel
theorem dX7_width_166 : decode cX7_width 166 = .ok (.ishl, 1) := by decide +kernel
theorem dX7_width_167 : decode cX7_width 167 = .ok (.ior, 1) := by decide +kernel
theorem dX7_width_168 : decode cX7_width 168 = .ok (.istore_n 2, 1) := by decide +kernel
theorem dX7_width_169 : decode cX7_width 169 = .ok (.iinc 3 1, 3) := by decide +kernel
theorem dX7_width_172 : decode cX7_width 172 = .ok (.goto (-67), 3) := by decide +kernel
theorem dX7_width_175 : decode cX7_width 175 = .ok (.aload_n 0, 1) := by decide +kernel
theorem dX7_width_176 : decode cX7_width 176 = .ok (.getfield 65, 3) := by decide +kernel
theorem dX7_width_179 : decode cX7_width 179 = .ok (.iconst 0, 1) := by decide +kernel
theorem dX7_width_180 : decode cX7_width 180 = .ok (.iaload, 1) := by decide +kernel
theorem dX7_width_181 : decode cX7_width 181 = .ok (.ireturn, 1) := by decide +kernel
theorem dX7_worst_0 : decode cX7_worst 0 = .ok (.aload_n 0, 1) := by decide +kernel
theorem dX7_worst_1 : decode cX7_worst 1 = .ok (.iload_n 1, 1) := by decide +kernel
theorem dX7_worst_2 : decode cX7_worst 2 = .ok (.invokevirtual 187, 3) := by decide +kernel
theorem dX7_worst_5 : decode cX7_worst 5 = .ok (.istore_n 2, 1) := by decide +kernel
theorem dX7_worst_6 : decode cX7_worst 6 = .ok (.iload_n 2, 1) := by decide +kernel
theorem dX7_worst_7 : decode cX7_worst 7 = .ok (.aload_n 0, 1) := by decide +kernel
theorem dX7_worst_8 : decode cX7_worst 8 = .ok (.getfield 65, 3) := by decide +kernel
theorem dX7_worst_11 : decode cX7_worst 11 = .ok (.iload_n 1, 1) := by decide +kernel
theorem dX7_worst_12 : decode cX7_worst 12 = .ok (.iaload, 1) := by decide +kernel
theorem dX7_worst_13 : decode cX7_worst 13 = .ok (.if_icmp .le 7, 3) := by decide +kernel
theorem dX7_worst_16 : decode cX7_worst 16 = .ok (.iload_n 2, 1) := by decide +kernel
theorem dX7_worst_17 : decode cX7_worst 17 = .ok (.goto 9, 3) := by decide +kernel
theorem dX7_worst_20 : decode cX7_worst 20 = .ok (.aload_n 0, 1) := by decide +kernel
theorem dX7_worst_21 : decode cX7_worst 21 = .ok (.getfield 65, 3) := by decide +kernel
theorem dX7_worst_24 : decode cX7_worst 24 = .ok (.iload_n 1, 1) := by decide +kernel
theorem dX7_worst_25 : decode cX7_worst 25 = .ok (.iaload, 1) := by decide +kernel
theorem dX7_worst_26 : decode cX7_worst 26 = .ok (.ireturn, 1) := by decide +kernel
theorem dJ6_bitCount_0f7a4_0 : decode cJ6_bitCount_0f7a4 0 = .ok (.iload_n 0, 1) := by decide +kernel
theorem dJ6_bitCount_0f7a4_1 : decode cJ6_bitCount_0f7a4 1 = .ok (.iload_n 0, 1) := by decide +kernel
theorem dJ6_bitCount_0f7a4_2 : decode cJ6_bitCount_0f7a4 2 = .ok (.iconst 1, 1) := by decide +kernel
theorem dJ6_bitCount_0f7a4_3 : decode cJ6_bitCount_0f7a4 3 = .ok (.iushr, 1) := by decide +kernel
theorem dJ6_bitCount_0f7a4_4 : decode cJ6_bitCount_0f7a4 4 = .ok (.ldc_w 265, 3) := by decide +kernel
theorem dJ6_bitCount_0f7a4_7 : decode cJ6_bitCount_0f7a4 7 = .ok (.iand, 1) := by decide +kernel
theorem dJ6_bitCount_0f7a4_8 : decode cJ6_bitCount_0f7a4 8 = .ok (.isub, 1) := by decide +kernel
theorem dJ6_bitCount_0f7a4_9 : decode cJ6_bitCount_0f7a4 9 = .ok (.istore_n 0, 1) := by decide +kernel
theorem dJ6_bitCount_0f7a4_10 : decode cJ6_bitCount_0f7a4 10 = .ok (.iload_n 0, 1) := by decide +kernel
theorem dJ6_bitCount_0f7a4_11 : decode cJ6_bitCount_0f7a4 11 = .ok (.ldc_w 266, 3) := by decide +kernel
theorem dJ6_bitCount_0f7a4_14 : decode cJ6_bitCount_0f7a4 14 = .ok (.iand, 1) := by decide +kernel
theorem dJ6_bitCount_0f7a4_15 : decode cJ6_bitCount_0f7a4 15 = .ok (.iload_n 0, 1) := by decide +kernel
theorem dJ6_bitCount_0f7a4_16 : decode cJ6_bitCount_0f7a4 16 = .ok (.iconst 2, 1) := by decide +kernel
theorem dJ6_bitCount_0f7a4_17 : decode cJ6_bitCount_0f7a4 17 = .ok (.iushr, 1) := by decide +kernel
theorem dJ6_bitCount_0f7a4_18 : decode cJ6_bitCount_0f7a4 18 = .ok (.ldc_w 266, 3) := by decide +kernel
theorem dJ6_bitCount_0f7a4_21 : decode cJ6_bitCount_0f7a4 21 = .ok (.iand, 1) := by decide +kernel
theorem dJ6_bitCount_0f7a4_22 : decode cJ6_bitCount_0f7a4 22 = .ok (.iadd, 1) := by decide +kernel
theorem dJ6_bitCount_0f7a4_23 : decode cJ6_bitCount_0f7a4 23 = .ok (.istore_n 0, 1) := by decide +kernel
theorem dJ6_bitCount_0f7a4_24 : decode cJ6_bitCount_0f7a4 24 = .ok (.iload_n 0, 1) := by decide +kernel
theorem dJ6_bitCount_0f7a4_25 : decode cJ6_bitCount_0f7a4 25 = .ok (.iload_n 0, 1) := by decide +kernel
theorem dJ6_bitCount_0f7a4_26 : decode cJ6_bitCount_0f7a4 26 = .ok (.iconst 4, 1) := by decide +kernel
theorem dJ6_bitCount_0f7a4_27 : decode cJ6_bitCount_0f7a4 27 = .ok (.iushr, 1) := by decide +kernel
theorem dJ6_bitCount_0f7a4_28 : decode cJ6_bitCount_0f7a4 28 = .ok (.iadd, 1) := by decide +kernel
theorem dJ6_bitCount_0f7a4_29 : decode cJ6_bitCount_0f7a4 29 = .ok (.ldc_w 267, 3) := by decide +kernel
theorem dJ6_bitCount_0f7a4_32 : decode cJ6_bitCount_0f7a4 32 = .ok (.iand, 1) := by decide +kernel
theorem dJ6_bitCount_0f7a4_33 : decode cJ6_bitCount_0f7a4 33 = .ok (.istore_n 0, 1) := by decide +kernel
theorem dJ6_bitCount_0f7a4_34 : decode cJ6_bitCount_0f7a4 34 = .ok (.iload_n 0, 1) := by decide +kernel
theorem dJ6_bitCount_0f7a4_35 : decode cJ6_bitCount_0f7a4 35 = .ok (.iload_n 0, 1) := by decide +kernel
theorem dJ6_bitCount_0f7a4_36 : decode cJ6_bitCount_0f7a4 36 = .ok (.bipush 8, 2) := by decide +kernel
theorem dJ6_bitCount_0f7a4_38 : decode cJ6_bitCount_0f7a4 38 = .ok (.iushr, 1) := by decide +kernel
theorem dJ6_bitCount_0f7a4_39 : decode cJ6_bitCount_0f7a4 39 = .ok (.iadd, 1) := by decide +kernel
theorem dJ6_bitCount_0f7a4_40 : decode cJ6_bitCount_0f7a4 40 = .ok (.istore_n 0, 1) := by decide +kernel
theorem dJ6_bitCount_0f7a4_41 : decode cJ6_bitCount_0f7a4 41 = .ok (.iload_n 0, 1) := by decide +kernel
theorem dJ6_bitCount_0f7a4_42 : decode cJ6_bitCount_0f7a4 42 = .ok (.iload_n 0, 1) := by decide +kernel
theorem dJ6_bitCount_0f7a4_43 : decode cJ6_bitCount_0f7a4 43 = .ok (.bipush 16, 2) := by decide +kernel
theorem dJ6_bitCount_0f7a4_45 : decode cJ6_bitCount_0f7a4 45 = .ok (.iushr, 1) := by decide +kernel
theorem dJ6_bitCount_0f7a4_46 : decode cJ6_bitCount_0f7a4 46 = .ok (.iadd, 1) := by decide +kernel
theorem dJ6_bitCount_0f7a4_47 : decode cJ6_bitCount_0f7a4 47 = .ok (.istore_n 0, 1) := by decide +kernel
theorem dJ6_bitCount_0f7a4_48 : decode cJ6_bitCount_0f7a4 48 = .ok (.iload_n 0, 1) := by decide +kernel
theorem dJ6_bitCount_0f7a4_49 : decode cJ6_bitCount_0f7a4 49 = .ok (.bipush 63, 2) := by decide +kernel
theorem dJ6_bitCount_0f7a4_51 : decode cJ6_bitCount_0f7a4 51 = .ok (.iand, 1) := by decide +kernel
theorem dJ6_bitCount_0f7a4_52 : decode cJ6_bitCount_0f7a4 52 = .ok (.ireturn, 1) := by decide +kernel
theorem dJ9_max_7cf53_0 : decode cJ9_max_7cf53 0 = .ok (.iload_n 0, 1) := by decide +kernel
theorem dJ9_max_7cf53_1 : decode cJ9_max_7cf53 1 = .ok (.iload_n 1, 1) := by decide +kernel
theorem dJ9_max_7cf53_2 : decode cJ9_max_7cf53 2 = .ok (.if_icmp .lt 7, 3) := by decide +kernel
theorem dJ9_max_7cf53_5 : decode cJ9_max_7cf53 5 = .ok (.iload_n 0, 1) := by decide +kernel
theorem dJ9_max_7cf53_6 : decode cJ9_max_7cf53 6 = .ok (.goto 4, 3) := by decide +kernel
theorem dJ9_max_7cf53_9 : decode cJ9_max_7cf53 9 = .ok (.iload_n 1, 1) := by decide +kernel
theorem dJ9_max_7cf53_10 : decode cJ9_max_7cf53 10 = .ok (.ireturn, 1) := by decide +kernel
theorem dJ9_min_7cf53_0 : decode cJ9_min_7cf53 0 = .ok (.iload_n 0, 1) := by decide +kernel
theorem dJ9_min_7cf53_1 : decode cJ9_min_7cf53 1 = .ok (.iload_n 1, 1) := by decide +kernel
theorem dJ9_min_7cf53_2 : decode cJ9_min_7cf53 2 = .ok (.if_icmp .gt 7, 3) := by decide +kernel
theorem dJ9_min_7cf53_5 : decode cJ9_min_7cf53 5 = .ok (.iload_n 0, 1) := by decide +kernel
theorem dJ9_min_7cf53_6 : decode cJ9_min_7cf53 6 = .ok (.goto 4, 3) := by decide +kernel
theorem dJ9_min_7cf53_9 : decode cJ9_min_7cf53 9 = .ok (.iload_n 1, 1) := by decide +kernel
theorem dJ9_min_7cf53_10 : decode cJ9_min_7cf53 10 = .ok (.ireturn, 1) := by decide +kernel
theorem dJ7_fill_53178_0 : decode cJ7_fill_53178 0 = .ok (.iconst 0, 1) := by decide +kernel
theorem dJ7_fill_53178_1 : decode cJ7_fill_53178 1 = .ok (.istore_n 2, 1) := by decide +kernel
theorem dJ7_fill_53178_2 : decode cJ7_fill_53178 2 = .ok (.aload_n 0, 1) := by decide +kernel
theorem dJ7_fill_53178_3 : decode cJ7_fill_53178 3 = .ok (.arraylength, 1) := by decide +kernel
theorem dJ7_fill_53178_4 : decode cJ7_fill_53178 4 = .ok (.istore_n 3, 1) := by decide +kernel
theorem dJ7_fill_53178_5 : decode cJ7_fill_53178 5 = .ok (.iload_n 2, 1) := by decide +kernel
theorem dJ7_fill_53178_6 : decode cJ7_fill_53178 6 = .ok (.iload_n 3, 1) := by decide +kernel
theorem dJ7_fill_53178_7 : decode cJ7_fill_53178 7 = .ok (.if_icmp .ge 13, 3) := by decide +kernel
theorem dJ7_fill_53178_10 : decode cJ7_fill_53178 10 = .ok (.aload_n 0, 1) := by decide +kernel
theorem dJ7_fill_53178_11 : decode cJ7_fill_53178 11 = .ok (.iload_n 2, 1) := by decide +kernel
theorem dJ7_fill_53178_12 : decode cJ7_fill_53178 12 = .ok (.iload_n 1, 1) := by decide +kernel
theorem dJ7_fill_53178_13 : decode cJ7_fill_53178 13 = .ok (.iastore, 1) := by decide +kernel
theorem dJ7_fill_53178_14 : decode cJ7_fill_53178 14 = .ok (.iinc 2 1, 3) := by decide +kernel
theorem dJ7_fill_53178_17 : decode cJ7_fill_53178 17 = .ok (.goto (-12), 3) := by decide +kernel
theorem dJ7_fill_53178_20 : decode cJ7_fill_53178 20 = .ok (.return_, 1) := by decide +kernel
theorem dL_law_0 : decode cL_law 0 = .ok (.new 7, 3) := by decide +kernel
theorem dL_law_3 : decode cL_law 3 = .ok (.dup, 1) := by decide +kernel
theorem dL_law_4 : decode cL_law 4 = .ok (.invokespecial 9, 3) := by decide +kernel
theorem dL_law_7 : decode cL_law 7 = .ok (.astore_n 1, 1) := by decide +kernel
theorem dL_law_8 : decode cL_law 8 = .ok (.new 10, 3) := by decide +kernel
theorem dL_law_11 : decode cL_law 11 = .ok (.dup, 1) := by decide +kernel
theorem dL_law_12 : decode cL_law 12 = .ok (.invokespecial 12, 3) := by decide +kernel
theorem dL_law_15 : decode cL_law 15 = .ok (.astore_n 2, 1) := by decide +kernel
theorem dL_law_16 : decode cL_law 16 = .ok (.iconst 0, 1) := by decide +kernel
theorem dL_law_17 : decode cL_law 17 = .ok (.istore_n 3, 1) := by decide +kernel
theorem dL_law_18 : decode cL_law 18 = .ok (.iload_n 3, 1) := by decide +kernel
theorem dL_law_19 : decode cL_law 19 = .ok (.aload_n 0, 1) := by decide +kernel
theorem dL_law_20 : decode cL_law 20 = .ok (.arraylength, 1) := by decide +kernel
theorem dL_law_21 : decode cL_law 21 = .ok (.iconst 4, 1) := by decide +kernel
theorem dL_law_22 : decode cL_law 22 = .ok (.isub, 1) := by decide +kernel
theorem dL_law_23 : decode cL_law 23 = .ok (.if_icmp .gt 501, 3) := by decide +kernel
theorem dL_law_26 : decode cL_law 26 = .ok (.aload_n 0, 1) := by decide +kernel
theorem dL_law_27 : decode cL_law 27 = .ok (.iload_n 3, 1) := by decide +kernel
theorem dL_law_28 : decode cL_law 28 = .ok (.iaload, 1) := by decide +kernel
theorem dL_law_29 : decode cL_law 29 = .ok (.bipush 15, 2) := by decide +kernel
theorem dL_law_31 : decode cL_law 31 = .ok (.iand, 1) := by decide +kernel
theorem dL_law_32 : decode cL_law 32 = .ok (.tableswitch 486 0 15 #[80, 103, 136, 159, 182, 225, 238, 249, 272, 305, 328, 361, 394, 417, 450, 473], 80) := by decide +kernel
theorem dL_law_112 : decode cL_law 112 = .ok (.aload_n 1, 1) := by decide +kernel
theorem dL_law_113 : decode cL_law 113 = .ok (.aload_n 0, 1) := by decide +kernel
theorem dL_law_114 : decode cL_law 114 = .ok (.iload_n 3, 1) := by decide +kernel
theorem dL_law_115 : decode cL_law 115 = .ok (.iconst 1, 1) := by decide +kernel
theorem dL_law_116 : decode cL_law 116 = .ok (.iadd, 1) := by decide +kernel
theorem dL_law_117 : decode cL_law 117 = .ok (.iaload, 1) := by decide +kernel
theorem dL_law_118 : decode cL_law 118 = .ok (.invokevirtual 13, 3) := by decide +kernel
theorem dL_law_121 : decode cL_law 121 = .ok (.aload_n 2, 1) := by decide +kernel
theorem dL_law_122 : decode cL_law 122 = .ok (.aload_n 0, 1) := by decide +kernel
theorem dL_law_123 : decode cL_law 123 = .ok (.iload_n 3, 1) := by decide +kernel
theorem dL_law_124 : decode cL_law 124 = .ok (.iconst 1, 1) := by decide +kernel
theorem dL_law_125 : decode cL_law 125 = .ok (.iadd, 1) := by decide +kernel
theorem dL_law_126 : decode cL_law 126 = .ok (.iaload, 1) := by decide +kernel
theorem dL_law_127 : decode cL_law 127 = .ok (.invokevirtual 17, 3) := by decide +kernel
theorem dL_law_130 : decode cL_law 130 = .ok (.if_icmp .eq 388, 3) := by decide +kernel
theorem dL_law_133 : decode cL_law 133 = .ok (.iconst 0, 1) := by decide +kernel
theorem dL_law_134 : decode cL_law 134 = .ok (.ireturn, 1) := by decide +kernel
theorem dL_law_135 : decode cL_law 135 = .ok (.aload_n 1, 1) := by decide +kernel
theorem dL_law_136 : decode cL_law 136 = .ok (.aload_n 0, 1) := by decide +kernel
theorem dL_law_137 : decode cL_law 137 = .ok (.iload_n 3, 1) := by decide +kernel
theorem dL_law_138 : decode cL_law 138 = .ok (.iconst 1, 1) := by decide +kernel
theorem dL_law_139 : decode cL_law 139 = .ok (.iadd, 1) := by decide +kernel
theorem dL_law_140 : decode cL_law 140 = .ok (.iaload, 1) := by decide +kernel
theorem dL_law_141 : decode cL_law 141 = .ok (.aload_n 0, 1) := by decide +kernel
theorem dL_law_142 : decode cL_law 142 = .ok (.iload_n 3, 1) := by decide +kernel
theorem dL_law_143 : decode cL_law 143 = .ok (.iconst 2, 1) := by decide +kernel
theorem dL_law_144 : decode cL_law 144 = .ok (.iadd, 1) := by decide +kernel
theorem dL_law_145 : decode cL_law 145 = .ok (.iaload, 1) := by decide +kernel
theorem dL_law_146 : decode cL_law 146 = .ok (.invokevirtual 18, 3) := by decide +kernel
theorem dL_law_149 : decode cL_law 149 = .ok (.aload_n 2, 1) := by decide +kernel
theorem dL_law_150 : decode cL_law 150 = .ok (.aload_n 0, 1) := by decide +kernel
theorem dL_law_151 : decode cL_law 151 = .ok (.iload_n 3, 1) := by decide +kernel
theorem dL_law_152 : decode cL_law 152 = .ok (.iconst 1, 1) := by decide +kernel
theorem dL_law_153 : decode cL_law 153 = .ok (.iadd, 1) := by decide +kernel
theorem dL_law_154 : decode cL_law 154 = .ok (.iaload, 1) := by decide +kernel
theorem dL_law_155 : decode cL_law 155 = .ok (.aload_n 0, 1) := by decide +kernel
theorem dL_law_156 : decode cL_law 156 = .ok (.iload_n 3, 1) := by decide +kernel
theorem dL_law_157 : decode cL_law 157 = .ok (.iconst 2, 1) := by decide +kernel
theorem dL_law_158 : decode cL_law 158 = .ok (.iadd, 1) := by decide +kernel
theorem dL_law_159 : decode cL_law 159 = .ok (.iaload, 1) := by decide +kernel
theorem dL_law_160 : decode cL_law 160 = .ok (.invokevirtual 22, 3) := by decide +kernel
theorem dL_law_163 : decode cL_law 163 = .ok (.if_icmp .eq 355, 3) := by decide +kernel
theorem dL_law_166 : decode cL_law 166 = .ok (.iconst 0, 1) := by decide +kernel
theorem dL_law_167 : decode cL_law 167 = .ok (.ireturn, 1) := by decide +kernel
theorem dL_law_168 : decode cL_law 168 = .ok (.aload_n 1, 1) := by decide +kernel
theorem dL_law_169 : decode cL_law 169 = .ok (.aload_n 0, 1) := by decide +kernel
theorem dL_law_170 : decode cL_law 170 = .ok (.iload_n 3, 1) := by decide +kernel
theorem dL_law_171 : decode cL_law 171 = .ok (.iconst 1, 1) := by decide +kernel
theorem dL_law_172 : decode cL_law 172 = .ok (.iadd, 1) := by decide +kernel
theorem dL_law_173 : decode cL_law 173 = .ok (.iaload, 1) := by decide +kernel
theorem dL_law_174 : decode cL_law 174 = .ok (.invokevirtual 23, 3) := by decide +kernel
theorem dL_law_177 : decode cL_law 177 = .ok (.aload_n 2, 1) := by decide +kernel
theorem dL_law_178 : decode cL_law 178 = .ok (.aload_n 0, 1) := by decide +kernel
theorem dL_law_179 : decode cL_law 179 = .ok (.iload_n 3, 1) := by decide +kernel
theorem dL_law_180 : decode cL_law 180 = .ok (.iconst 1, 1) := by decide +kernel
theorem dL_law_181 : decode cL_law 181 = .ok (.iadd, 1) := by decide +kernel
theorem dL_law_182 : decode cL_law 182 = .ok (.iaload, 1) := by decide +kernel
theorem dL_law_183 : decode cL_law 183 = .ok (.invokevirtual 26, 3) := by decide +kernel
theorem dL_law_186 : decode cL_law 186 = .ok (.if_icmp .eq 332, 3) := by decide +kernel
theorem dL_law_189 : decode cL_law 189 = .ok (.iconst 0, 1) := by decide +kernel
theorem dL_law_190 : decode cL_law 190 = .ok (.ireturn, 1) := by decide +kernel
theorem dL_law_191 : decode cL_law 191 = .ok (.aload_n 1, 1) := by decide +kernel
theorem dL_law_192 : decode cL_law 192 = .ok (.aload_n 0, 1) := by decide +kernel
theorem dL_law_193 : decode cL_law 193 = .ok (.iload_n 3, 1) := by decide +kernel
theorem dL_law_194 : decode cL_law 194 = .ok (.iconst 1, 1) := by decide +kernel
theorem dL_law_195 : decode cL_law 195 = .ok (.iadd, 1) := by decide +kernel
theorem dL_law_196 : decode cL_law 196 = .ok (.iaload, 1) := by decide +kernel
theorem dL_law_197 : decode cL_law 197 = .ok (.invokevirtual 27, 3) := by decide +kernel
theorem dL_law_200 : decode cL_law 200 = .ok (.aload_n 2, 1) := by decide +kernel
theorem dL_law_201 : decode cL_law 201 = .ok (.aload_n 0, 1) := by decide +kernel
theorem dL_law_202 : decode cL_law 202 = .ok (.iload_n 3, 1) := by decide +kernel
theorem dL_law_203 : decode cL_law 203 = .ok (.iconst 1, 1) := by decide +kernel
theorem dL_law_204 : decode cL_law 204 = .ok (.iadd, 1) := by decide +kernel
theorem dL_law_205 : decode cL_law 205 = .ok (.iaload, 1) := by decide +kernel
theorem dL_law_206 : decode cL_law 206 = .ok (.invokevirtual 30, 3) := by decide +kernel
theorem dL_law_209 : decode cL_law 209 = .ok (.if_icmp .eq 309, 3) := by decide +kernel
theorem dL_law_212 : decode cL_law 212 = .ok (.iconst 0, 1) := by decide +kernel
theorem dL_law_213 : decode cL_law 213 = .ok (.ireturn, 1) := by decide +kernel
theorem dL_law_214 : decode cL_law 214 = .ok (.aload_n 1, 1) := by decide +kernel
theorem dL_law_215 : decode cL_law 215 = .ok (.aload_n 0, 1) := by decide +kernel
theorem dL_law_216 : decode cL_law 216 = .ok (.iload_n 3, 1) := by decide +kernel
theorem dL_law_217 : decode cL_law 217 = .ok (.iconst 1, 1) := by decide +kernel
theorem dL_law_218 : decode cL_law 218 = .ok (.iadd, 1) := by decide +kernel
theorem dL_law_219 : decode cL_law 219 = .ok (.iaload, 1) := by decide +kernel
theorem dL_law_220 : decode cL_law 220 = .ok (.aload_n 0, 1) := by decide +kernel
theorem dL_law_221 : decode cL_law 221 = .ok (.iload_n 3, 1) := by decide +kernel
theorem dL_law_222 : decode cL_law 222 = .ok (.iconst 2, 1) := by decide +kernel
theorem dL_law_223 : decode cL_law 223 = .ok (.iadd, 1) := by decide +kernel
theorem dL_law_224 : decode cL_law 224 = .ok (.iaload, 1) := by decide +kernel
theorem dL_law_225 : decode cL_law 225 = .ok (.aload_n 0, 1) := by decide +kernel
theorem dL_law_226 : decode cL_law 226 = .ok (.iload_n 3, 1) := by decide +kernel
theorem dL_law_227 : decode cL_law 227 = .ok (.iconst 3, 1) := by decide +kernel
theorem dL_law_228 : decode cL_law 228 = .ok (.iadd, 1) := by decide +kernel
theorem dL_law_229 : decode cL_law 229 = .ok (.iaload, 1) := by decide +kernel
theorem dL_law_230 : decode cL_law 230 = .ok (.invokevirtual 31, 3) := by decide +kernel
theorem dL_law_233 : decode cL_law 233 = .ok (.aload_n 2, 1) := by decide +kernel
theorem dL_law_234 : decode cL_law 234 = .ok (.aload_n 0, 1) := by decide +kernel
theorem dL_law_235 : decode cL_law 235 = .ok (.iload_n 3, 1) := by decide +kernel
theorem dL_law_236 : decode cL_law 236 = .ok (.iconst 1, 1) := by decide +kernel
theorem dL_law_237 : decode cL_law 237 = .ok (.iadd, 1) := by decide +kernel
theorem dL_law_238 : decode cL_law 238 = .ok (.iaload, 1) := by decide +kernel
theorem dL_law_239 : decode cL_law 239 = .ok (.aload_n 0, 1) := by decide +kernel
theorem dL_law_240 : decode cL_law 240 = .ok (.iload_n 3, 1) := by decide +kernel
theorem dL_law_241 : decode cL_law 241 = .ok (.iconst 2, 1) := by decide +kernel
theorem dL_law_242 : decode cL_law 242 = .ok (.iadd, 1) := by decide +kernel
theorem dL_law_243 : decode cL_law 243 = .ok (.iaload, 1) := by decide +kernel
theorem dL_law_244 : decode cL_law 244 = .ok (.aload_n 0, 1) := by decide +kernel
theorem dL_law_245 : decode cL_law 245 = .ok (.iload_n 3, 1) := by decide +kernel
theorem dL_law_246 : decode cL_law 246 = .ok (.iconst 3, 1) := by decide +kernel
theorem dL_law_247 : decode cL_law 247 = .ok (.iadd, 1) := by decide +kernel
theorem dL_law_248 : decode cL_law 248 = .ok (.iaload, 1) := by decide +kernel
theorem dL_law_249 : decode cL_law 249 = .ok (.invokevirtual 35, 3) := by decide +kernel
theorem dL_law_252 : decode cL_law 252 = .ok (.if_icmp .eq 266, 3) := by decide +kernel
theorem dL_law_255 : decode cL_law 255 = .ok (.iconst 0, 1) := by decide +kernel
theorem dL_law_256 : decode cL_law 256 = .ok (.ireturn, 1) := by decide +kernel
theorem dL_law_257 : decode cL_law 257 = .ok (.aload_n 1, 1) := by decide +kernel
theorem dL_law_258 : decode cL_law 258 = .ok (.invokevirtual 36, 3) := by decide +kernel
theorem dL_law_261 : decode cL_law 261 = .ok (.aload_n 2, 1) := by decide +kernel
theorem dL_law_262 : decode cL_law 262 = .ok (.invokevirtual 40, 3) := by decide +kernel
theorem dL_law_265 : decode cL_law 265 = .ok (.if_icmp .eq 253, 3) := by decide +kernel
theorem dL_law_268 : decode cL_law 268 = .ok (.iconst 0, 1) := by decide +kernel
theorem dL_law_269 : decode cL_law 269 = .ok (.ireturn, 1) := by decide +kernel
theorem dL_law_270 : decode cL_law 270 = .ok (.aload_n 1, 1) := by decide +kernel
theorem dL_law_271 : decode cL_law 271 = .ok (.invokevirtual 41, 3) := by decide +kernel
theorem dL_law_274 : decode cL_law 274 = .ok (.aload_n 2, 1) := by decide +kernel
theorem dL_law_275 : decode cL_law 275 = .ok (.invokevirtual 44, 3) := by decide +kernel
theorem dL_law_278 : decode cL_law 278 = .ok (.goto 240, 3) := by decide +kernel
theorem dL_law_281 : decode cL_law 281 = .ok (.aload_n 1, 1) := by decide +kernel
theorem dL_law_282 : decode cL_law 282 = .ok (.aload_n 0, 1) := by decide +kernel
theorem dL_law_283 : decode cL_law 283 = .ok (.iload_n 3, 1) := by decide +kernel
theorem dL_law_284 : decode cL_law 284 = .ok (.iconst 1, 1) := by decide +kernel
theorem dL_law_285 : decode cL_law 285 = .ok (.iadd, 1) := by decide +kernel
theorem dL_law_286 : decode cL_law 286 = .ok (.iaload, 1) := by decide +kernel
theorem dL_law_287 : decode cL_law 287 = .ok (.invokevirtual 45, 3) := by decide +kernel
theorem dL_law_290 : decode cL_law 290 = .ok (.aload_n 2, 1) := by decide +kernel
theorem dL_law_291 : decode cL_law 291 = .ok (.aload_n 0, 1) := by decide +kernel
theorem dL_law_292 : decode cL_law 292 = .ok (.iload_n 3, 1) := by decide +kernel
theorem dL_law_293 : decode cL_law 293 = .ok (.iconst 1, 1) := by decide +kernel
theorem dL_law_294 : decode cL_law 294 = .ok (.iadd, 1) := by decide +kernel
theorem dL_law_295 : decode cL_law 295 = .ok (.iaload, 1) := by decide +kernel
theorem dL_law_296 : decode cL_law 296 = .ok (.invokevirtual 49, 3) := by decide +kernel
theorem dL_law_299 : decode cL_law 299 = .ok (.if_icmp .eq 219, 3) := by decide +kernel
theorem dL_law_302 : decode cL_law 302 = .ok (.iconst 0, 1) := by decide +kernel
theorem dL_law_303 : decode cL_law 303 = .ok (.ireturn, 1) := by decide +kernel
theorem dL_law_304 : decode cL_law 304 = .ok (.aload_n 1, 1) := by decide +kernel
theorem dL_law_305 : decode cL_law 305 = .ok (.aload_n 0, 1) := by decide +kernel
theorem dL_law_306 : decode cL_law 306 = .ok (.iload_n 3, 1) := by decide +kernel
theorem dL_law_307 : decode cL_law 307 = .ok (.iconst 1, 1) := by decide +kernel
theorem dL_law_308 : decode cL_law 308 = .ok (.iadd, 1) := by decide +kernel
theorem dL_law_309 : decode cL_law 309 = .ok (.iaload, 1) := by decide +kernel
theorem dL_law_310 : decode cL_law 310 = .ok (.aload_n 0, 1) := by decide +kernel
theorem dL_law_311 : decode cL_law 311 = .ok (.iload_n 3, 1) := by decide +kernel
theorem dL_law_312 : decode cL_law 312 = .ok (.iconst 2, 1) := by decide +kernel
theorem dL_law_313 : decode cL_law 313 = .ok (.iadd, 1) := by decide +kernel
theorem dL_law_314 : decode cL_law 314 = .ok (.iaload, 1) := by decide +kernel
theorem dL_law_315 : decode cL_law 315 = .ok (.invokevirtual 50, 3) := by decide +kernel
theorem dL_law_318 : decode cL_law 318 = .ok (.aload_n 2, 1) := by decide +kernel
theorem dL_law_319 : decode cL_law 319 = .ok (.aload_n 0, 1) := by decide +kernel
theorem dL_law_320 : decode cL_law 320 = .ok (.iload_n 3, 1) := by decide +kernel
theorem dL_law_321 : decode cL_law 321 = .ok (.iconst 1, 1) := by decide +kernel
theorem dL_law_322 : decode cL_law 322 = .ok (.iadd, 1) := by decide +kernel
theorem dL_law_323 : decode cL_law 323 = .ok (.iaload, 1) := by decide +kernel
theorem dL_law_324 : decode cL_law 324 = .ok (.aload_n 0, 1) := by decide +kernel
theorem dL_law_325 : decode cL_law 325 = .ok (.iload_n 3, 1) := by decide +kernel
theorem dL_law_326 : decode cL_law 326 = .ok (.iconst 2, 1) := by decide +kernel
theorem dL_law_327 : decode cL_law 327 = .ok (.iadd, 1) := by decide +kernel
theorem dL_law_328 : decode cL_law 328 = .ok (.iaload, 1) := by decide +kernel
theorem dL_law_329 : decode cL_law 329 = .ok (.invokevirtual 53, 3) := by decide +kernel
theorem dL_law_332 : decode cL_law 332 = .ok (.if_icmp .eq 186, 3) := by decide +kernel
theorem dL_law_335 : decode cL_law 335 = .ok (.iconst 0, 1) := by decide +kernel
theorem dL_law_336 : decode cL_law 336 = .ok (.ireturn, 1) := by decide +kernel
theorem dL_law_337 : decode cL_law 337 = .ok (.aload_n 1, 1) := by decide +kernel
theorem dL_law_338 : decode cL_law 338 = .ok (.aload_n 0, 1) := by decide +kernel
theorem dL_law_339 : decode cL_law 339 = .ok (.iload_n 3, 1) := by decide +kernel
theorem dL_law_340 : decode cL_law 340 = .ok (.iconst 1, 1) := by decide +kernel
theorem dL_law_341 : decode cL_law 341 = .ok (.iadd, 1) := by decide +kernel
theorem dL_law_342 : decode cL_law 342 = .ok (.iaload, 1) := by decide +kernel
theorem dL_law_343 : decode cL_law 343 = .ok (.invokevirtual 54, 3) := by decide +kernel
theorem dL_law_346 : decode cL_law 346 = .ok (.aload_n 2, 1) := by decide +kernel
theorem dL_law_347 : decode cL_law 347 = .ok (.aload_n 0, 1) := by decide +kernel
theorem dL_law_348 : decode cL_law 348 = .ok (.iload_n 3, 1) := by decide +kernel
theorem dL_law_349 : decode cL_law 349 = .ok (.iconst 1, 1) := by decide +kernel
theorem dL_law_350 : decode cL_law 350 = .ok (.iadd, 1) := by decide +kernel
theorem dL_law_351 : decode cL_law 351 = .ok (.iaload, 1) := by decide +kernel
theorem dL_law_352 : decode cL_law 352 = .ok (.invokevirtual 57, 3) := by decide +kernel
theorem dL_law_355 : decode cL_law 355 = .ok (.if_icmp .eq 163, 3) := by decide +kernel
theorem dL_law_358 : decode cL_law 358 = .ok (.iconst 0, 1) := by decide +kernel
theorem dL_law_359 : decode cL_law 359 = .ok (.ireturn, 1) := by decide +kernel
theorem dL_law_360 : decode cL_law 360 = .ok (.aload_n 1, 1) := by decide +kernel
theorem dL_law_361 : decode cL_law 361 = .ok (.aload_n 0, 1) := by decide +kernel
theorem dL_law_362 : decode cL_law 362 = .ok (.iload_n 3, 1) := by decide +kernel
theorem dL_law_363 : decode cL_law 363 = .ok (.iconst 1, 1) := by decide +kernel
theorem dL_law_364 : decode cL_law 364 = .ok (.iadd, 1) := by decide +kernel
theorem dL_law_365 : decode cL_law 365 = .ok (.iaload, 1) := by decide +kernel
theorem dL_law_366 : decode cL_law 366 = .ok (.aload_n 0, 1) := by decide +kernel
theorem dL_law_367 : decode cL_law 367 = .ok (.iload_n 3, 1) := by decide +kernel
theorem dL_law_368 : decode cL_law 368 = .ok (.iconst 2, 1) := by decide +kernel
theorem dL_law_369 : decode cL_law 369 = .ok (.iadd, 1) := by decide +kernel
theorem dL_law_370 : decode cL_law 370 = .ok (.iaload, 1) := by decide +kernel
theorem dL_law_371 : decode cL_law 371 = .ok (.invokevirtual 58, 3) := by decide +kernel
theorem dL_law_374 : decode cL_law 374 = .ok (.aload_n 2, 1) := by decide +kernel
theorem dL_law_375 : decode cL_law 375 = .ok (.aload_n 0, 1) := by decide +kernel
theorem dL_law_376 : decode cL_law 376 = .ok (.iload_n 3, 1) := by decide +kernel
theorem dL_law_377 : decode cL_law 377 = .ok (.iconst 1, 1) := by decide +kernel
theorem dL_law_378 : decode cL_law 378 = .ok (.iadd, 1) := by decide +kernel
theorem dL_law_379 : decode cL_law 379 = .ok (.iaload, 1) := by decide +kernel
theorem dL_law_380 : decode cL_law 380 = .ok (.aload_n 0, 1) := by decide +kernel
theorem dL_law_381 : decode cL_law 381 = .ok (.iload_n 3, 1) := by decide +kernel
theorem dL_law_382 : decode cL_law 382 = .ok (.iconst 2, 1) := by decide +kernel
theorem dL_law_383 : decode cL_law 383 = .ok (.iadd, 1) := by decide +kernel
theorem dL_law_384 : decode cL_law 384 = .ok (.iaload, 1) := by decide +kernel
theorem dL_law_385 : decode cL_law 385 = .ok (.invokevirtual 61, 3) := by decide +kernel
theorem dL_law_388 : decode cL_law 388 = .ok (.if_icmp .eq 130, 3) := by decide +kernel
theorem dL_law_391 : decode cL_law 391 = .ok (.iconst 0, 1) := by decide +kernel
theorem dL_law_392 : decode cL_law 392 = .ok (.ireturn, 1) := by decide +kernel
theorem dL_law_393 : decode cL_law 393 = .ok (.aload_n 1, 1) := by decide +kernel
theorem dL_law_394 : decode cL_law 394 = .ok (.aload_n 0, 1) := by decide +kernel
theorem dL_law_395 : decode cL_law 395 = .ok (.iload_n 3, 1) := by decide +kernel
theorem dL_law_396 : decode cL_law 396 = .ok (.iconst 1, 1) := by decide +kernel
theorem dL_law_397 : decode cL_law 397 = .ok (.iadd, 1) := by decide +kernel
theorem dL_law_398 : decode cL_law 398 = .ok (.iaload, 1) := by decide +kernel
theorem dL_law_399 : decode cL_law 399 = .ok (.aload_n 0, 1) := by decide +kernel
theorem dL_law_400 : decode cL_law 400 = .ok (.iload_n 3, 1) := by decide +kernel
theorem dL_law_401 : decode cL_law 401 = .ok (.iconst 2, 1) := by decide +kernel
theorem dL_law_402 : decode cL_law 402 = .ok (.iadd, 1) := by decide +kernel
theorem dL_law_403 : decode cL_law 403 = .ok (.iaload, 1) := by decide +kernel
theorem dL_law_404 : decode cL_law 404 = .ok (.invokevirtual 62, 3) := by decide +kernel
theorem dL_law_407 : decode cL_law 407 = .ok (.aload_n 2, 1) := by decide +kernel
theorem dL_law_408 : decode cL_law 408 = .ok (.aload_n 0, 1) := by decide +kernel
theorem dL_law_409 : decode cL_law 409 = .ok (.iload_n 3, 1) := by decide +kernel
theorem dL_law_410 : decode cL_law 410 = .ok (.iconst 1, 1) := by decide +kernel
theorem dL_law_411 : decode cL_law 411 = .ok (.iadd, 1) := by decide +kernel
theorem dL_law_412 : decode cL_law 412 = .ok (.iaload, 1) := by decide +kernel
theorem dL_law_413 : decode cL_law 413 = .ok (.aload_n 0, 1) := by decide +kernel
theorem dL_law_414 : decode cL_law 414 = .ok (.iload_n 3, 1) := by decide +kernel
theorem dL_law_415 : decode cL_law 415 = .ok (.iconst 2, 1) := by decide +kernel
theorem dL_law_416 : decode cL_law 416 = .ok (.iadd, 1) := by decide +kernel
theorem dL_law_417 : decode cL_law 417 = .ok (.iaload, 1) := by decide +kernel
theorem dL_law_418 : decode cL_law 418 = .ok (.invokevirtual 65, 3) := by decide +kernel
theorem dL_law_421 : decode cL_law 421 = .ok (.if_icmp .eq 97, 3) := by decide +kernel
theorem dL_law_424 : decode cL_law 424 = .ok (.iconst 0, 1) := by decide +kernel
theorem dL_law_425 : decode cL_law 425 = .ok (.ireturn, 1) := by decide +kernel
theorem dL_law_426 : decode cL_law 426 = .ok (.aload_n 1, 1) := by decide +kernel
theorem dL_law_427 : decode cL_law 427 = .ok (.aload_n 0, 1) := by decide +kernel
theorem dL_law_428 : decode cL_law 428 = .ok (.iload_n 3, 1) := by decide +kernel
theorem dL_law_429 : decode cL_law 429 = .ok (.iconst 1, 1) := by decide +kernel
theorem dL_law_430 : decode cL_law 430 = .ok (.iadd, 1) := by decide +kernel
theorem dL_law_431 : decode cL_law 431 = .ok (.iaload, 1) := by decide +kernel
theorem dL_law_432 : decode cL_law 432 = .ok (.invokevirtual 66, 3) := by decide +kernel
theorem dL_law_435 : decode cL_law 435 = .ok (.aload_n 2, 1) := by decide +kernel
theorem dL_law_436 : decode cL_law 436 = .ok (.aload_n 0, 1) := by decide +kernel
theorem dL_law_437 : decode cL_law 437 = .ok (.iload_n 3, 1) := by decide +kernel
theorem dL_law_438 : decode cL_law 438 = .ok (.iconst 1, 1) := by decide +kernel
theorem dL_law_439 : decode cL_law 439 = .ok (.iadd, 1) := by decide +kernel
theorem dL_law_440 : decode cL_law 440 = .ok (.iaload, 1) := by decide +kernel
theorem dL_law_441 : decode cL_law 441 = .ok (.invokevirtual 69, 3) := by decide +kernel
theorem dL_law_444 : decode cL_law 444 = .ok (.if_icmp .eq 74, 3) := by decide +kernel
theorem dL_law_447 : decode cL_law 447 = .ok (.iconst 0, 1) := by decide +kernel
theorem dL_law_448 : decode cL_law 448 = .ok (.ireturn, 1) := by decide +kernel
theorem dL_law_449 : decode cL_law 449 = .ok (.aload_n 1, 1) := by decide +kernel
theorem dL_law_450 : decode cL_law 450 = .ok (.aload_n 0, 1) := by decide +kernel
theorem dL_law_451 : decode cL_law 451 = .ok (.iload_n 3, 1) := by decide +kernel
theorem dL_law_452 : decode cL_law 452 = .ok (.iconst 1, 1) := by decide +kernel
theorem dL_law_453 : decode cL_law 453 = .ok (.iadd, 1) := by decide +kernel
theorem dL_law_454 : decode cL_law 454 = .ok (.iaload, 1) := by decide +kernel
theorem dL_law_455 : decode cL_law 455 = .ok (.aload_n 0, 1) := by decide +kernel
theorem dL_law_456 : decode cL_law 456 = .ok (.iload_n 3, 1) := by decide +kernel
theorem dL_law_457 : decode cL_law 457 = .ok (.iconst 2, 1) := by decide +kernel
theorem dL_law_458 : decode cL_law 458 = .ok (.iadd, 1) := by decide +kernel
theorem dL_law_459 : decode cL_law 459 = .ok (.iaload, 1) := by decide +kernel
theorem dL_law_460 : decode cL_law 460 = .ok (.invokevirtual 70, 3) := by decide +kernel
theorem dL_law_463 : decode cL_law 463 = .ok (.aload_n 2, 1) := by decide +kernel
theorem dL_law_464 : decode cL_law 464 = .ok (.aload_n 0, 1) := by decide +kernel
theorem dL_law_465 : decode cL_law 465 = .ok (.iload_n 3, 1) := by decide +kernel
theorem dL_law_466 : decode cL_law 466 = .ok (.iconst 1, 1) := by decide +kernel
theorem dL_law_467 : decode cL_law 467 = .ok (.iadd, 1) := by decide +kernel
theorem dL_law_468 : decode cL_law 468 = .ok (.iaload, 1) := by decide +kernel
theorem dL_law_469 : decode cL_law 469 = .ok (.aload_n 0, 1) := by decide +kernel
theorem dL_law_470 : decode cL_law 470 = .ok (.iload_n 3, 1) := by decide +kernel
theorem dL_law_471 : decode cL_law 471 = .ok (.iconst 2, 1) := by decide +kernel
theorem dL_law_472 : decode cL_law 472 = .ok (.iadd, 1) := by decide +kernel
theorem dL_law_473 : decode cL_law 473 = .ok (.iaload, 1) := by decide +kernel
theorem dL_law_474 : decode cL_law 474 = .ok (.invokevirtual 74, 3) := by decide +kernel
theorem dL_law_477 : decode cL_law 477 = .ok (.if_icmp .eq 41, 3) := by decide +kernel
theorem dL_law_480 : decode cL_law 480 = .ok (.iconst 0, 1) := by decide +kernel
theorem dL_law_481 : decode cL_law 481 = .ok (.ireturn, 1) := by decide +kernel
theorem dL_law_482 : decode cL_law 482 = .ok (.aload_n 1, 1) := by decide +kernel
theorem dL_law_483 : decode cL_law 483 = .ok (.aload_n 0, 1) := by decide +kernel
theorem dL_law_484 : decode cL_law 484 = .ok (.iload_n 3, 1) := by decide +kernel
theorem dL_law_485 : decode cL_law 485 = .ok (.iconst 1, 1) := by decide +kernel
theorem dL_law_486 : decode cL_law 486 = .ok (.iadd, 1) := by decide +kernel
theorem dL_law_487 : decode cL_law 487 = .ok (.iaload, 1) := by decide +kernel
theorem dL_law_488 : decode cL_law 488 = .ok (.invokevirtual 75, 3) := by decide +kernel
theorem dL_law_491 : decode cL_law 491 = .ok (.aload_n 2, 1) := by decide +kernel
theorem dL_law_492 : decode cL_law 492 = .ok (.aload_n 0, 1) := by decide +kernel
theorem dL_law_493 : decode cL_law 493 = .ok (.iload_n 3, 1) := by decide +kernel
theorem dL_law_494 : decode cL_law 494 = .ok (.iconst 1, 1) := by decide +kernel
theorem dL_law_495 : decode cL_law 495 = .ok (.iadd, 1) := by decide +kernel
theorem dL_law_496 : decode cL_law 496 = .ok (.iaload, 1) := by decide +kernel
theorem dL_law_497 : decode cL_law 497 = .ok (.invokevirtual 78, 3) := by decide +kernel
theorem dL_law_500 : decode cL_law 500 = .ok (.if_icmp .eq 18, 3) := by decide +kernel
theorem dL_law_503 : decode cL_law 503 = .ok (.iconst 0, 1) := by decide +kernel
theorem dL_law_504 : decode cL_law 504 = .ok (.ireturn, 1) := by decide +kernel
theorem dL_law_505 : decode cL_law 505 = .ok (.aload_n 1, 1) := by decide +kernel
theorem dL_law_506 : decode cL_law 506 = .ok (.invokevirtual 79, 3) := by decide +kernel
theorem dL_law_509 : decode cL_law 509 = .ok (.aload_n 2, 1) := by decide +kernel
theorem dL_law_510 : decode cL_law 510 = .ok (.invokevirtual 83, 3) := by decide +kernel
theorem dL_law_513 : decode cL_law 513 = .ok (.if_icmp .eq 5, 3) := by decide +kernel
theorem dL_law_516 : decode cL_law 516 = .ok (.iconst 0, 1) := by decide +kernel
theorem dL_law_517 : decode cL_law 517 = .ok (.ireturn, 1) := by decide +kernel
theorem dL_law_518 : decode cL_law 518 = .ok (.iinc 3 4, 3) := by decide +kernel
theorem dL_law_521 : decode cL_law 521 = .ok (.goto (-503), 3) := by decide +kernel
theorem dL_law_524 : decode cL_law 524 = .ok (.iconst 1, 1) := by decide +kernel
theorem dL_law_525 : decode cL_law 525 = .ok (.ireturn, 1) := by decide +kernel
