theorem dX7_bits_24 : decode cX7_bits 24 = .ok (.iload_n 1, 1) := by decide +kernel
theorem dX7_bits_25 : decode cX7_bits 25 = .ok (.ireturn, 1) := by decide +kernel
theorem dX7_party_0 : decode cX7_party 0 = .ok (.iconst 0, 1) := by decide +kernel
theorem dX7_party_1 : decode cX7_party 1 = .ok (.istore_n 1, 1) := by decide +kernel
theorem dX7_party_2 : decode cX7_party 2 = .ok (.iconst 0, 1) := by decide +kernel
theorem dX7_party_3 : decode cX7_party 3 = .ok (.istore_n 2, 1) := by decide +kernel
theorem dX7_party_4 : decode cX7_party 4 = .ok (.iload_n 2, 1) := by decide +kernel
theorem dX7_party_5 : decode cX7_party 5 = .ok (.aload_n 0, 1) := by decide +kernel
theorem dX7_party_6 : decode cX7_party 6 = .ok (.getfield 107, 3) := by decide +kernel
theorem dX7_party_9 : decode cX7_party 9 = .ok (.if_icmp .gt 27, 3) := by decide +kernel
theorem dX7_party_12 : decode cX7_party 12 = .ok (.aload_n 0, 1) := by decide +kernel
theorem dX7_party_13 : decode cX7_party 13 = .ok (.iload_n 2, 1) := by decide +kernel
theorem dX7_party_14 : decode cX7_party 14 = .ok (.invokevirtual 120, 3) := by decide +kernel
theorem dX7_party_17 : decode cX7_party 17 = .ok (.aload_n 0, 1) := by decide +kernel
theorem dX7_party_18 : decode cX7_party 18 = .ok (.invokevirtual 123, 3) := by decide +kernel
theorem dX7_party_21 : decode cX7_party 21 = .ok (.iload_n 1, 1) := by decide +kernel
theorem dX7_party_22 : decode cX7_party 22 = .ok (.if_icmp .le 8, 3) := by decide +kernel
theorem dX7_party_25 : decode cX7_party 25 = .ok (.aload_n 0, 1) := by decide +kernel
theorem dX7_party_26 : decode cX7_party 26 = .ok (.invokevirtual 123, 3) := by decide +kernel
theorem dX7_party_29 : decode cX7_party 29 = .ok (.istore_n 1, 1) := by decide +kernel
theorem dX7_party_30 : decode cX7_party 30 = .ok (.iinc 2 1, 3) := by decide +kernel
theorem dX7_party_33 : decode cX7_party 33 = .ok (.goto (-29), 3) := by decide +kernel
theorem dX7_party_36 : decode cX7_party 36 = .ok (.iload_n 1, 1) := by decide +kernel
theorem dX7_party_37 : decode cX7_party 37 = .ok (.ireturn, 1) := by decide +kernel
theorem dX7_count_0 : decode cX7_count 0 = .ok (.iload_n 1, 1) := by decide +kernel
theorem dX7_count_1 : decode cX7_count 1 = .ok (.tableswitch 185 0 10 #[59, 64, 77, 82, 95, 108, 138, 143, 148, 153, 158], 59) := by decide +kernel
theorem dX7_count_60 : decode cX7_count 60 = .ok (.aload_n 0, 1) := by decide +kernel
theorem dX7_count_61 : decode cX7_count 61 = .ok (.getfield 107, 3) := by decide +kernel
theorem dX7_count_64 : decode cX7_count 64 = .ok (.ireturn, 1) := by decide +kernel
theorem dX7_count_65 : decode cX7_count 65 = .ok (.aload_n 0, 1) := by decide +kernel
theorem dX7_count_66 : decode cX7_count 66 = .ok (.aload_n 0, 1) := by decide +kernel
theorem dX7_count_67 : decode cX7_count 67 = .ok (.getfield 107, 3) := by decide +kernel
theorem dX7_count_70 : decode cX7_count 70 = .ok (.invokevirtual 120, 3) := by decide +kernel
theorem dX7_count_73 : decode cX7_count 73 = .ok (.aload_n 0, 1) := by decide +kernel
theorem dX7_count_74 : decode cX7_count 74 = .ok (.invokevirtual 123, 3) := by decide +kernel
theorem dX7_count_77 : decode cX7_count 77 = .ok (.ireturn, 1) := by decide +kernel
theorem dX7_count_78 : decode cX7_count 78 = .ok (.aload_n 0, 1) := by decide +kernel
theorem dX7_count_79 : decode cX7_count 79 = .ok (.invokevirtual 131, 3) := by decide +kernel
theorem dX7_count_82 : decode cX7_count 82 = .ok (.ireturn, 1) := by decide +kernel
theorem dX7_count_83 : decode cX7_count 83 = .ok (.aload_n 0, 1) := by decide +kernel
theorem dX7_count_84 : decode cX7_count 84 = .ok (.getfield 38, 3) := by decide +kernel
theorem dX7_count_87 : decode cX7_count 87 = .ok (.aload_n 0, 1) := by decide +kernel
theorem dX7_count_88 : decode cX7_count 88 = .ok (.getfield 107, 3) := by decide +kernel
theorem dX7_count_91 : decode cX7_count 91 = .ok (.iaload, 1) := by decide +kernel
theorem dX7_count_92 : decode cX7_count 92 = .ok (.invokestatic 134, 3) := by decide +kernel
theorem dX7_count_95 : decode cX7_count 95 = .ok (.ireturn, 1) := by decide +kernel
theorem dX7_count_96 : decode cX7_count 96 = .ok (.aload_n 0, 1) := by decide +kernel
theorem dX7_count_97 : decode cX7_count 97 = .ok (.getfield 41, 3) := by decide +kernel
theorem dX7_count_100 : decode cX7_count 100 = .ok (.aload_n 0, 1) := by decide +kernel
theorem dX7_count_101 : decode cX7_count 101 = .ok (.getfield 107, 3) := by decide +kernel
theorem dX7_count_104 : decode cX7_count 104 = .ok (.iaload, 1) := by decide +kernel
theorem dX7_count_105 : decode cX7_count 105 = .ok (.invokestatic 134, 3) := by decide +kernel
theorem dX7_count_108 : decode cX7_count 108 = .ok (.ireturn, 1) := by decide +kernel
theorem dX7_count_109 : decode cX7_count 109 = .ok (.aload_n 0, 1) := by decide +kernel
theorem dX7_count_110 : decode cX7_count 110 = .ok (.getfield 38, 3) := by decide +kernel
theorem dX7_count_113 : decode cX7_count 113 = .ok (.aload_n 0, 1) := by decide +kernel
theorem dX7_count_114 : decode cX7_count 114 = .ok (.getfield 107, 3) := by decide +kernel
theorem dX7_count_117 : decode cX7_count 117 = .ok (.iaload, 1) := by decide +kernel
theorem dX7_count_118 : decode cX7_count 118 = .ok (.ifCond .ne 19, 3) := by decide +kernel
theorem dX7_count_121 : decode cX7_count 121 = .ok (.aload_n 0, 1) := by decide +kernel
theorem dX7_count_122 : decode cX7_count 122 = .ok (.getfield 41, 3) := by decide +kernel
theorem dX7_count_125 : decode cX7_count 125 = .ok (.aload_n 0, 1) := by decide +kernel
theorem dX7_count_126 : decode cX7_count 126 = .ok (.getfield 107, 3) := by decide +kernel
theorem dX7_count_129 : decode cX7_count 129 = .ok (.iaload, 1) := by decide +kernel
theorem dX7_count_130 : decode cX7_count 130 = .ok (.ifCond .ne 7, 3) := by decide +kernel
theorem dX7_count_133 : decode cX7_count 133 = .ok (.iconst 1, 1) := by decide +kernel
theorem dX7_count_134 : decode cX7_count 134 = .ok (.goto 4, 3) := by decide +kernel
theorem dX7_count_137 : decode cX7_count 137 = .ok (.iconst 0, 1) := by decide +kernel
theorem dX7_count_138 : decode cX7_count 138 = .ok (.ireturn, 1) := by decide +kernel
theorem dX7_count_139 : decode cX7_count 139 = .ok (.aload_n 0, 1) := by decide +kernel
theorem dX7_count_140 : decode cX7_count 140 = .ok (.getfield 68, 3) := by decide +kernel
theorem dX7_count_143 : decode cX7_count 143 = .ok (.ireturn, 1) := by decide +kernel
theorem dX7_count_144 : decode cX7_count 144 = .ok (.aload_n 0, 1) := by decide +kernel
theorem dX7_count_145 : decode cX7_count 145 = .ok (.invokevirtual 138, 3) := by decide +kernel
theorem dX7_count_148 : decode cX7_count 148 = .ok (.ireturn, 1) := by decide +kernel
theorem dX7_count_149 : decode cX7_count 149 = .ok (.aload_n 0, 1) := by decide +kernel
theorem dX7_count_150 : decode cX7_count 150 = .ok (.getfield 74, 3) := by decide +kernel
theorem dX7_count_153 : decode cX7_count 153 = .ok (.ireturn, 1) := by decide +kernel
theorem dX7_count_154 : decode cX7_count 154 = .ok (.aload_n 0, 1) := by decide +kernel
theorem dX7_count_155 : decode cX7_count 155 = .ok (.invokevirtual 141, 3) := by decide +kernel
theorem dX7_count_158 : decode cX7_count 158 = .ok (.ireturn, 1) := by decide +kernel
theorem dX7_count_159 : decode cX7_count 159 = .ok (.aload_n 0, 1) := by decide +kernel
theorem dX7_count_160 : decode cX7_count 160 = .ok (.invokevirtual 141, 3) := by decide +kernel
theorem dX7_count_163 : decode cX7_count 163 = .ok (.iconst 1, 1) := by decide +kernel
theorem dX7_count_164 : decode cX7_count 164 = .ok (.if_icmp .ne 20, 3) := by decide +kernel
theorem dX7_count_167 : decode cX7_count 167 = .ok (.aload_n 0, 1) := by decide +kernel
theorem dX7_count_168 : decode cX7_count 168 = .ok (.invokevirtual 138, 3) := by decide +kernel
theorem dX7_count_171 : decode cX7_count 171 = .ok (.aload_n 0, 1) := by decide +kernel
theorem dX7_count_172 : decode cX7_count 172 = .ok (.getfield 68, 3) := by decide +kernel
theorem dX7_count_175 : decode cX7_count 175 = .ok (.iconst 1, 1) := by decide +kernel
theorem dX7_count_176 : decode cX7_count 176 = .ok (.isub, 1) := by decide +kernel
theorem dX7_count_177 : decode cX7_count 177 = .ok (.if_icmp .ne 7, 3) := by decide +kernel
theorem dX7_count_180 : decode cX7_count 180 = .ok (.iconst 1, 1) := by decide +kernel
theorem dX7_count_181 : decode cX7_count 181 = .ok (.goto 4, 3) := by decide +kernel
theorem dX7_count_184 : decode cX7_count 184 = .ok (.iconst 0, 1) := by decide +kernel
theorem dX7_count_185 : decode cX7_count 185 = .ok (.ireturn, 1) := by decide +kernel
theorem dX7_count_186 : decode cX7_count 186 = .ok (.iconst (-1), 1) := by decide +kernel
theorem dX7_count_187 : decode cX7_count 187 = .ok (.ireturn, 1) := by decide +kernel
theorem dX7_placeOf_0 : decode cX7_placeOf 0 = .ok (.iconst 0, 1) := by decide +kernel
theorem dX7_placeOf_1 : decode cX7_placeOf 1 = .ok (.istore_n 2, 1) := by decide +kernel
theorem dX7_placeOf_2 : decode cX7_placeOf 2 = .ok (.aload_n 0, 1) := by decide +kernel
theorem dX7_placeOf_3 : decode cX7_placeOf 3 = .ok (.getfield 20, 3) := by decide +kernel
theorem dX7_placeOf_6 : decode cX7_placeOf 6 = .ok (.iload_n 2, 1) := by decide +kernel
theorem dX7_placeOf_7 : decode cX7_placeOf 7 = .ok (.iaload, 1) := by decide +kernel
theorem dX7_placeOf_8 : decode cX7_placeOf 8 = .ok (.iload_n 1, 1) := by decide +kernel
theorem dX7_placeOf_9 : decode cX7_placeOf 9 = .ok (.if_icmp .eq 10, 3) := by decide +kernel
theorem dX7_placeOf_12 : decode cX7_placeOf 12 = .ok (.iload_n 2, 1) := by decide +kernel
theorem dX7_placeOf_13 : decode cX7_placeOf 13 = .ok (.iconst 1, 1) := by decide +kernel
theorem dX7_placeOf_14 : decode cX7_placeOf 14 = .ok (.iadd, 1) := by decide +kernel
theorem dX7_placeOf_15 : decode cX7_placeOf 15 = .ok (.istore_n 2, 1) := by decide +kernel
theorem dX7_placeOf_16 : decode cX7_placeOf 16 = .ok (.goto (-14), 3) := by decide +kernel
theorem dX7_placeOf_19 : decode cX7_placeOf 19 = .ok (.iload_n 2, 1) := by decide +kernel
theorem dX7_placeOf_20 : decode cX7_placeOf 20 = .ok (.ireturn, 1) := by decide +kernel
theorem dX7_degree_0 : decode cX7_degree 0 = .ok (.iconst 0, 1) := by decide +kernel
theorem dX7_degree_1 : decode cX7_degree 1 = .ok (.istore_n 2, 1) := by decide +kernel
theorem dX7_degree_2 : decode cX7_degree 2 = .ok (.iconst 0, 1) := by decide +kernel
theorem dX7_degree_3 : decode cX7_degree 3 = .ok (.istore_n 3, 1) := by decide +kernel
theorem dX7_degree_4 : decode cX7_degree 4 = .ok (.iload_n 3, 1) := by decide +kernel
theorem dX7_degree_5 : decode cX7_degree 5 = .ok (.bipush 18, 2) := by decide +kernel
theorem dX7_degree_7 : decode cX7_degree 7 = .ok (.if_icmp .ge 26, 3) := by decide +kernel
theorem dX7_degree_10 : decode cX7_degree 10 = .ok (.iload_n 2, 1) := by decide +kernel
theorem dX7_degree_11 : decode cX7_degree 11 = .ok (.aload_n 0, 1) := by decide +kernel
theorem dX7_degree_12 : decode cX7_degree 12 = .ok (.iload_n 3, 1) := by decide +kernel
theorem dX7_degree_13 : decode cX7_degree 13 = .ok (.iload_n 1, 1) := by decide +kernel
theorem dX7_degree_14 : decode cX7_degree 14 = .ok (.invokevirtual 116, 3) := by decide +kernel
theorem dX7_degree_17 : decode cX7_degree 17 = .ok (.ifCond .eq 7, 3) := by decide +kernel
theorem dX7_degree_20 : decode cX7_degree 20 = .ok (.iconst 1, 1) := by decide +kernel
theorem dX7_degree_21 : decode cX7_degree 21 = .ok (.goto 4, 3) := by decide +kernel
theorem dX7_degree_24 : decode cX7_degree 24 = .ok (.iconst 0, 1) := by decide +kernel
theorem dX7_degree_25 : decode cX7_degree 25 = .ok (.iadd, 1) := by decide +kernel
theorem dX7_degree_26 : decode cX7_degree 26 = .ok (.istore_n 2, 1) := by decide +kernel
theorem dX7_degree_27 : decode cX7_degree 27 = .ok (.iinc 3 1, 3) := by decide +kernel
theorem dX7_degree_30 : decode cX7_degree 30 = .ok (.goto (-26), 3) := by decide +kernel
theorem dX7_degree_33 : decode cX7_degree 33 = .ok (.iload_n 2, 1) := by decide +kernel
theorem dX7_degree_34 : decode cX7_degree 34 = .ok (.ireturn, 1) := by decide +kernel
theorem dX7_look_0 : decode cX7_look 0 = .ok (.iload_n 2, 1) := by decide +kernel
theorem dX7_look_1 : decode cX7_look 1 = .ok (.ifCond .lt 75, 3) := by decide +kernel
theorem dX7_look_4 : decode cX7_look 4 = .ok (.iload_n 2, 1) := by decide +kernel
theorem dX7_look_5 : decode cX7_look 5 = .ok (.iconst 4, 1) := by decide +kernel
theorem dX7_look_6 : decode cX7_look 6 = .ok (.if_icmp .ge 70, 3) := by decide +kernel
theorem dX7_look_9 : decode cX7_look 9 = .ok (.aload_n 0, 1) := by decide +kernel
theorem dX7_look_10 : decode cX7_look 10 = .ok (.iload_n 1, 1) := by decide +kernel
theorem dX7_look_11 : decode cX7_look 11 = .ok (.invokevirtual 80, 3) := by decide +kernel
theorem dX7_look_14 : decode cX7_look 14 = .ok (.ifCond .ne 5, 3) := by decide +kernel
theorem dX7_look_17 : decode cX7_look 17 = .ok (.iconst (-1), 1) := by decide +kernel
theorem dX7_look_18 : decode cX7_look 18 = .ok (.ireturn, 1) := by decide +kernel
theorem dX7_look_19 : decode cX7_look 19 = .ok (.iload_n 2, 1) := by decide +kernel
theorem dX7_look_20 : decode cX7_look 20 = .ok (.ifCond .ne 18, 3) := by decide +kernel
theorem dX7_look_23 : decode cX7_look 23 = .ok (.aload_n 0, 1) := by decide +kernel
theorem dX7_look_24 : decode cX7_look 24 = .ok (.getfield 35, 3) := by decide +kernel
theorem dX7_look_27 : decode cX7_look 27 = .ok (.bipush 12, 2) := by decide +kernel
theorem dX7_look_29 : decode cX7_look 29 = .ok (.aload_n 0, 1) := by decide +kernel
theorem dX7_look_30 : decode cX7_look 30 = .ok (.getfield 107, 3) := by decide +kernel
theorem dX7_look_33 : decode cX7_look 33 = .ok (.imul, 1) := by decide +kernel
theorem dX7_look_34 : decode cX7_look 34 = .ok (.iload_n 1, 1) := by decide +kernel
theorem dX7_look_35 : decode cX7_look 35 = .ok (.iadd, 1) := by decide +kernel
theorem dX7_look_36 : decode cX7_look 36 = .ok (.iaload, 1) := by decide +kernel
theorem dX7_look_37 : decode cX7_look 37 = .ok (.ireturn, 1) := by decide +kernel
theorem dX7_look_38 : decode cX7_look 38 = .ok (.iload_n 2, 1) := by decide +kernel
theorem dX7_look_39 : decode cX7_look 39 = .ok (.iconst 1, 1) := by decide +kernel
theorem dX7_look_40 : decode cX7_look 40 = .ok (.if_icmp .ne 17, 3) := by decide +kernel
theorem dX7_look_43 : decode cX7_look 43 = .ok (.aload_n 0, 1) := by decide +kernel
theorem dX7_look_44 : decode cX7_look 44 = .ok (.getfield 38, 3) := by decide +kernel
theorem dX7_look_47 : decode cX7_look 47 = .ok (.aload_n 0, 1) := by decide +kernel
theorem dX7_look_48 : decode cX7_look 48 = .ok (.getfield 107, 3) := by decide +kernel
theorem dX7_look_51 : decode cX7_look 51 = .ok (.iaload, 1) := by decide +kernel
theorem dX7_look_52 : decode cX7_look 52 = .ok (.iload_n 1, 1) := by decide +kernel
theorem dX7_look_53 : decode cX7_look 53 = .ok (.ishr, 1) := by decide +kernel
theorem dX7_look_54 : decode cX7_look 54 = .ok (.iconst 1, 1) := by decide +kernel
theorem dX7_look_55 : decode cX7_look 55 = .ok (.iand, 1) := by decide +kernel
theorem dX7_look_56 : decode cX7_look 56 = .ok (.ireturn, 1) := by decide +kernel
theorem dX7_look_57 : decode cX7_look 57 = .ok (.iload_n 2, 1) := by decide +kernel
theorem dX7_look_58 : decode cX7_look 58 = .ok (.iconst 2, 1) := by decide +kernel
theorem dX7_look_59 : decode cX7_look 59 = .ok (.if_icmp .ne 11, 3) := by decide +kernel
theorem dX7_look_62 : decode cX7_look 62 = .ok (.aload_n 0, 1) := by decide +kernel
theorem dX7_look_63 : decode cX7_look 63 = .ok (.iload_n 1, 1) := by decide +kernel
theorem dX7_look_64 : decode cX7_look 64 = .ok (.invokevirtual 144, 3) := by decide +kernel
theorem dX7_look_67 : decode cX7_look 67 = .ok (.goto 8, 3) := by decide +kernel
theorem dX7_look_70 : decode cX7_look 70 = .ok (.aload_n 0, 1) := by decide +kernel
theorem dX7_look_71 : decode cX7_look 71 = .ok (.iload_n 1, 1) := by decide +kernel
theorem dX7_look_72 : decode cX7_look 72 = .ok (.invokevirtual 147, 3) := by decide +kernel
theorem dX7_look_75 : decode cX7_look 75 = .ok (.ireturn, 1) := by decide +kernel
theorem dX7_look_76 : decode cX7_look 76 = .ok (.iload_n 2, 1) := by decide +kernel
theorem dX7_look_77 : decode cX7_look 77 = .ok (.iconst 4, 1) := by decide +kernel
theorem dX7_look_78 : decode cX7_look 78 = .ok (.if_icmp .lt 17, 3) := by decide +kernel
theorem dX7_look_81 : decode cX7_look 81 = .ok (.iload_n 2, 1) := by decide +kernel
theorem dX7_look_82 : decode cX7_look 82 = .ok (.bipush 7, 2) := by decide +kernel
theorem dX7_look_84 : decode cX7_look 84 = .ok (.if_icmp .gt 11, 3) := by decide +kernel
theorem dX7_look_87 : decode cX7_look 87 = .ok (.aload_n 0, 1) := by decide +kernel
theorem dX7_look_88 : decode cX7_look 88 = .ok (.iload_n 1, 1) := by decide +kernel
theorem dX7_look_89 : decode cX7_look 89 = .ok (.invokevirtual 84, 3) := by decide +kernel
theorem dX7_look_92 : decode cX7_look 92 = .ok (.ifCond .ne 5, 3) := by decide +kernel
theorem dX7_look_95 : decode cX7_look 95 = .ok (.iconst (-1), 1) := by decide +kernel
theorem dX7_look_96 : decode cX7_look 96 = .ok (.ireturn, 1) := by decide +kernel
theorem dX7_look_97 : decode cX7_look 97 = .ok (.iload_n 2, 1) := by decide +kernel
theorem dX7_look_98 : decode cX7_look 98 = .ok (.iconst 4, 1) := by decide +kernel
theorem dX7_look_99 : decode cX7_look 99 = .ok (.if_icmp .ne 10, 3) := by decide +kernel
theorem dX7_look_102 : decode cX7_look 102 = .ok (.aload_n 0, 1) := by decide +kernel
theorem dX7_look_103 : decode cX7_look 103 = .ok (.getfield 7, 3) := by decide +kernel
theorem dX7_look_106 : decode cX7_look 106 = .ok (.iload_n 1, 1) := by decide +kernel
theorem dX7_look_107 : decode cX7_look 107 = .ok (.iaload, 1) := by decide +kernel
theorem dX7_look_108 : decode cX7_look 108 = .ok (.ireturn, 1) := by decide +kernel
theorem dX7_look_109 : decode cX7_look 109 = .ok (.iload_n 2, 1) := by decide +kernel
theorem dX7_look_110 : decode cX7_look 110 = .ok (.iconst 5, 1) := by decide +kernel
theorem dX7_look_111 : decode cX7_look 111 = .ok (.if_icmp .ne 10, 3) := by decide +kernel
theorem dX7_look_114 : decode cX7_look 114 = .ok (.aload_n 0, 1) := by decide +kernel
theorem dX7_look_115 : decode cX7_look 115 = .ok (.getfield 13, 3) := by decide +kernel
theorem dX7_look_118 : decode cX7_look 118 = .ok (.iload_n 1, 1) := by decide +kernel
theorem dX7_look_119 : decode cX7_look 119 = .ok (.iaload, 1) := by decide +kernel
theorem dX7_look_120 : decode cX7_look 120 = .ok (.ireturn, 1) := by decide +kernel
theorem dX7_look_121 : decode cX7_look 121 = .ok (.iload_n 2, 1) := by decide +kernel
theorem dX7_look_122 : decode cX7_look 122 = .ok (.bipush 6, 2) := by decide +kernel
theorem dX7_look_124 : decode cX7_look 124 = .ok (.if_icmp .ne 17, 3) := by decide +kernel
theorem dX7_look_127 : decode cX7_look 127 = .ok (.aload_n 0, 1) := by decide +kernel
theorem dX7_look_128 : decode cX7_look 128 = .ok (.getfield 41, 3) := by decide +kernel
theorem dX7_look_131 : decode cX7_look 131 = .ok (.aload_n 0, 1) := by decide +kernel
theorem dX7_look_132 : decode cX7_look 132 = .ok (.getfield 107, 3) := by decide +kernel
theorem dX7_look_135 : decode cX7_look 135 = .ok (.iaload, 1) := by decide +kernel
theorem dX7_look_136 : decode cX7_look 136 = .ok (.iload_n 1, 1) := by decide +kernel
theorem dX7_look_137 : decode cX7_look 137 = .ok (.ishr, 1) := by decide +kernel
theorem dX7_look_138 : decode cX7_look 138 = .ok (.iconst 1, 1) := by decide +kernel
theorem dX7_look_139 : decode cX7_look 139 = .ok (.iand, 1) := by decide +kernel
theorem dX7_look_140 : decode cX7_look 140 = .ok (.ireturn, 1) := by decide +kernel
theorem dX7_look_141 : decode cX7_look 141 = .ok (.aload_n 0, 1) := by decide +kernel
theorem dX7_look_142 : decode cX7_look 142 = .ok (.getfield 107, 3) := by decide +kernel
theorem dX7_look_145 : decode cX7_look 145 = .ok (.ifCond .le 42, 3) := by decide +kernel
theorem dX7_look_148 : decode cX7_look 148 = .ok (.aload_n 0, 1) := by decide +kernel
theorem dX7_look_149 : decode cX7_look 149 = .ok (.getfield 41, 3) := by decide +kernel
theorem dX7_look_152 : decode cX7_look 152 = .ok (.aload_n 0, 1) := by decide +kernel
theorem dX7_look_153 : decode cX7_look 153 = .ok (.getfield 107, 3) := by decide +kernel
theorem dX7_look_156 : decode cX7_look 156 = .ok (.iaload, 1) := by decide +kernel
theorem dX7_look_157 : decode cX7_look 157 = .ok (.iload_n 1, 1) := by decide +kernel
theorem dX7_look_158 : decode cX7_look 158 = .ok (.ishr, 1) := by decide +kernel
theorem dX7_look_159 : decode cX7_look 159 = .ok (.iconst 1, 1) := by decide +kernel
theorem dX7_look_160 : decode cX7_look 160 = .ok (.iand, 1) := by decide +kernel
theorem dX7_look_161 : decode cX7_look 161 = .ok (.iconst 1, 1) := by decide +kernel
theorem dX7_look_162 : decode cX7_look 162 = .ok (.if_icmp .ne 25, 3) := by decide +kernel
theorem dX7_look_165 : decode cX7_look 165 = .ok (.aload_n 0, 1) := by decide +kernel
theorem dX7_look_166 : decode cX7_look 166 = .ok (.getfield 41, 3) := by decide +kernel
theorem dX7_look_169 : decode cX7_look 169 = .ok (.aload_n 0, 1) := by decide +kernel
theorem dX7_look_170 : decode cX7_look 170 = .ok (.getfield 107, 3) := by decide +kernel
theorem dX7_look_173 : decode cX7_look 173 = .ok (.iconst 1, 1) := by decide +kernel
theorem dX7_look_174 : decode cX7_look 174 = .ok (.isub, 1) := by decide +kernel
theorem dX7_look_175 : decode cX7_look 175 = .ok (.iaload, 1) := by decide +kernel
theorem dX7_look_176 : decode cX7_look 176 = .ok (.iload_n 1, 1) := by decide +kernel
theorem dX7_look_177 : decode cX7_look 177 = .ok (.ishr, 1) := by decide +kernel
theorem dX7_look_178 : decode cX7_look 178 = .ok (.iconst 1, 1) := by decide +kernel
theorem dX7_look_179 : decode cX7_look 179 = .ok (.iand, 1) := by decide +kernel
theorem dX7_look_180 : decode cX7_look 180 = .ok (.ifCond .ne 7, 3) := by decide +kernel
theorem dX7_look_183 : decode cX7_look 183 = .ok (.iconst 1, 1) := by decide +kernel
theorem dX7_look_184 : decode cX7_look 184 = .ok (.goto 4, 3) := by decide +kernel
theorem dX7_look_187 : decode cX7_look 187 = .ok (.iconst 0, 1) := by decide +kernel
theorem dX7_look_188 : decode cX7_look 188 = .ok (.ireturn, 1) := by decide +kernel
theorem dX7_number_0 : decode cX7_number 0 = .ok (.iconst 0, 1) := by decide +kernel
theorem dX7_number_1 : decode cX7_number 1 = .ok (.istore_n 2, 1) := by decide +kernel
theorem dX7_number_2 : decode cX7_number 2 = .ok (.iconst 0, 1) := by decide +kernel
theorem dX7_number_3 : decode cX7_number 3 = .ok (.istore_n 3, 1) := by decide +kernel
theorem dX7_number_4 : decode cX7_number 4 = .ok (.iload_n 3, 1) := by decide +kernel
theorem dX7_number_5 : decode cX7_number 5 = .ok (.bipush 6, 2) := by decide +kernel
theorem dX7_number_7 : decode cX7_number 7 = .ok (.if_icmp .ge 20, 3) := by decide +kernel
theorem dX7_number_10 : decode cX7_number 10 = .ok (.iload_n 2, 1) := by decide +kernel
theorem dX7_number_11 : decode cX7_number 11 = .ok (.iconst 2, 1) := by decide +kernel
theorem dX7_number_12 : decode cX7_number 12 = .ok (.ishl, 1) := by decide +kernel
theorem dX7_number_13 : decode cX7_number 13 = .ok (.aload_n 0, 1) := by decide +kernel
theorem dX7_number_14 : decode cX7_number 14 = .ok (.getfield 23, 3) := by decide +kernel
theorem dX7_number_17 : decode cX7_number 17 = .ok (.iload_n 3, 1) := by decide +kernel
theorem dX7_number_18 : decode cX7_number 18 = .ok (.iaload, 1) := by decide +kernel
theorem dX7_number_19 : decode cX7_number 19 = .ok (.ior, 1) := by decide +kernel
theorem dX7_number_20 : decode cX7_number 20 = .ok (.istore_n 2, 1) := by decide +kernel
theorem dX7_number_21 : decode cX7_number 21 = .ok (.iinc 3 1, 3) := by decide +kernel
theorem dX7_number_24 : decode cX7_number 24 = .ok (.goto (-20), 3) := by decide +kernel
theorem dX7_number_27 : decode cX7_number 27 = .ok (.iconst 0, 1) := by decide +kernel
theorem dX7_number_28 : decode cX7_number 28 = .ok (.istore_n 3, 1) := by decide +kernel
theorem dX7_number_29 : decode cX7_number 29 = .ok (.iconst 0, 1) := by decide +kernel
theorem dX7_number_30 : decode cX7_number 30 = .ok (.istore 4, 2) := by decide +kernel
theorem dX7_number_32 : decode cX7_number 32 = .ok (.iload 4, 2) := by decide +kernel
theorem dX7_number_34 : decode cX7_number 34 = .ok (.bipush 18, 2) := by decide +kernel
theorem dX7_number_36 : decode cX7_number 36 = .ok (.if_icmp .ge 40, 3) := by decide +kernel
theorem dX7_number_39 : decode cX7_number 39 = .ok (.aload_n 0, 1) := by decide +kernel
theorem dX7_number_40 : decode cX7_number 40 = .ok (.getfield 16, 3) := by decide +kernel
theorem dX7_number_43 : decode cX7_number 43 = .ok (.iload 4, 2) := by decide +kernel
theorem dX7_number_45 : decode cX7_number 45 = .ok (.baload, 1) := by decide +kernel
theorem dX7_number_46 : decode cX7_number 46 = .ok (.ifCond .ne 6, 3) := by decide +kernel
theorem dX7_number_49 : decode cX7_number 49 = .ok (.goto 21, 3) := by decide +kernel
theorem dX7_number_52 : decode cX7_number 52 = .ok (.iload_n 2, 1) := by decide +kernel
theorem dX7_number_53 : decode cX7_number 53 = .ok (.iconst 1, 1) := by decide +kernel
theorem dX7_number_54 : decode cX7_number 54 = .ok (.ishl, 1) := by decide +kernel
theorem dX7_number_55 : decode cX7_number 55 = .ok (.aload_n 0, 1) := by decide +kernel
theorem dX7_number_56 : decode cX7_number 56 = .ok (.getfield 94, 3) := by decide +kernel
theorem dX7_number_59 : decode cX7_number 59 = .ok (.iload 4, 2) := by decide +kernel
theorem dX7_number_61 : decode cX7_number 61 = .ok (.ishr, 1) := by decide +kernel
theorem dX7_number_62 : decode cX7_number 62 = .ok (.iconst 1, 1) := by decide +kernel
theorem dX7_number_63 : decode cX7_number 63 = .ok (.iand, 1) := by decide +kernel
theorem dX7_number_64 : decode cX7_number 64 = .ok (.ior, 1) := by decide +kernel
theorem dX7_number_65 : decode cX7_number 65 = .ok (.istore_n 2, 1) := by decide +kernel
theorem dX7_number_66 : decode cX7_number 66 = .ok (.iload_n 3, 1) := by decide +kernel
theorem dX7_number_67 : decode cX7_number 67 = .ok (.iconst 1, 1) := by decide +kernel
theorem dX7_number_68 : decode cX7_number 68 = .ok (.iadd, 1) := by decide +kernel
theorem dX7_number_69 : decode cX7_number 69 = .ok (.istore_n 3, 1) := by decide +kernel
theorem dX7_number_70 : decode cX7_number 70 = .ok (.iinc 4 1, 3) := by decide +kernel
theorem dX7_number_73 : decode cX7_number 73 = .ok (.goto (-41), 3) := by decide +kernel
theorem dX7_number_76 : decode cX7_number 76 = .ok (.iload_n 2, 1) := by decide +kernel
theorem dX7_number_77 : decode cX7_number 77 = .ok (.bipush 6, 2) := by decide +kernel
theorem dX7_number_79 : decode cX7_number 79 = .ok (.ishl, 1) := by decide +kernel
theorem dX7_number_80 : decode cX7_number 80 = .ok (.aload_n 0, 1) := by decide +kernel
theorem dX7_number_81 : decode cX7_number 81 = .ok (.getfield 91, 3) := by decide +kernel
theorem dX7_number_84 : decode cX7_number 84 = .ok (.ior, 1) := by decide +kernel
theorem dX7_number_85 : decode cX7_number 85 = .ok (.iconst 1, 1) := by decide +kernel
theorem dX7_number_86 : decode cX7_number 86 = .ok (.ishl, 1) := by decide +kernel
theorem dX7_number_87 : decode cX7_number 87 = .ok (.iload_n 1, 1) := by decide +kernel
theorem dX7_number_88 : decode cX7_number 88 = .ok (.iconst 1, 1) := by decide +kernel
theorem dX7_number_89 : decode cX7_number 89 = .ok (.if_icmp .ne 14, 3) := by decide +kernel
theorem dX7_number_92 : decode cX7_number 92 = .ok (.aload_n 0, 1) := by decide +kernel
theorem dX7_number_93 : decode cX7_number 93 = .ok (.getfield 150, 3) := by decide +kernel
theorem dX7_number_96 : decode cX7_number 96 = .ok (.ifCond .eq 7, 3) := by decide +kernel
theorem dX7_number_99 : decode cX7_number 99 = .ok (.iconst 1, 1) := by decide +kernel
theorem dX7_number_100 : decode cX7_number 100 = .ok (.goto 4, 3) := by decide +kernel
theorem dX7_number_103 : decode cX7_number 103 = .ok (.iconst 0, 1) := by decide +kernel
theorem dX7_number_104 : decode cX7_number 104 = .ok (.ior, 1) := by decide +kernel
theorem dX7_number_105 : decode cX7_number 105 = .ok (.ireturn, 1) := by decide +kernel
theorem dX7_shows_0 : decode cX7_shows 0 = .ok (.aload_n 0, 1) := by decide +kernel
theorem dX7_shows_1 : decode cX7_shows 1 = .ok (.iload_n 1, 1) := by decide +kernel
theorem dX7_shows_2 : decode cX7_shows 2 = .ok (.iconst 1, 1) := by decide +kernel
theorem dX7_shows_3 : decode cX7_shows 3 = .ok (.iand, 1) := by decide +kernel
theorem dX7_shows_4 : decode cX7_shows 4 = .ok (.iconst 1, 1) := by decide +kernel
theorem dX7_shows_5 : decode cX7_shows 5 = .ok (.if_icmp .ne 7, 3) := by decide +kernel
theorem dX7_shows_8 : decode cX7_shows 8 = .ok (.iconst 1, 1) := by decide +kernel
theorem dX7_shows_9 : decode cX7_shows 9 = .ok (.goto 4, 3) := by decide +kernel
theorem dX7_shows_12 : decode cX7_shows 12 = .ok (.iconst 0, 1) := by decide +kernel
theorem dX7_shows_13 : decode cX7_shows 13 = .ok (.putfield 150, 3) := by decide +kernel
theorem dX7_shows_16 : decode cX7_shows 16 = .ok (.aload_n 0, 1) := by decide +kernel
theorem dX7_shows_17 : decode cX7_shows 17 = .ok (.iload_n 1, 1) := by decide +kernel
theorem dX7_shows_18 : decode cX7_shows 18 = .ok (.iconst 1, 1) := by decide +kernel
theorem dX7_shows_19 : decode cX7_shows 19 = .ok (.ishr, 1) := by decide +kernel
theorem dX7_shows_20 : decode cX7_shows 20 = .ok (.bipush 63, 2) := by decide +kernel
theorem dX7_shows_22 : decode cX7_shows 22 = .ok (.iand, 1) := by decide +kernel
theorem dX7_shows_23 : decode cX7_shows 23 = .ok (.putfield 91, 3) := by decide +kernel
theorem dX7_shows_26 : decode cX7_shows 26 = .ok (.iload_n 1, 1) := by decide +kernel
theorem dX7_shows_27 : decode cX7_shows 27 = .ok (.bipush 7, 2) := by decide +kernel
theorem dX7_shows_29 : decode cX7_shows 29 = .ok (.ishr, 1) := by decide +kernel
theorem dX7_shows_30 : decode cX7_shows 30 = .ok (.istore_n 3, 1) := by decide +kernel
theorem dX7_shows_31 : decode cX7_shows 31 = .ok (.aload_n 0, 1) := by decide +kernel
theorem dX7_shows_32 : decode cX7_shows 32 = .ok (.iconst 0, 1) := by decide +kernel
theorem dX7_shows_33 : decode cX7_shows 33 = .ok (.putfield 94, 3) := by decide +kernel
theorem dX7_shows_36 : decode cX7_shows 36 = .ok (.bipush 17, 2) := by decide +kernel
theorem dX7_shows_38 : decode cX7_shows 38 = .ok (.istore 4, 2) := by decide +kernel
theorem dX7_shows_40 : decode cX7_shows 40 = .ok (.iload 4, 2) := by decide +kernel
theorem dX7_shows_42 : decode cX7_shows 42 = .ok (.ifCond .lt 41, 3) := by decide +kernel
theorem dX7_shows_45 : decode cX7_shows 45 = .ok (.aload_n 0, 1) := by decide +kernel
theorem dX7_shows_46 : decode cX7_shows 46 = .ok (.getfield 16, 3) := by decide +kernel
theorem dX7_shows_49 : decode cX7_shows 49 = .ok (.iload 4, 2) := by decide +kernel
theorem dX7_shows_51 : decode cX7_shows 51 = .ok (.baload, 1) := by decide +kernel
theorem dX7_shows_52 : decode cX7_shows 52 = .ok (.ifCond .ne 6, 3) := by decide +kernel
theorem dX7_shows_55 : decode cX7_shows 55 = .ok (.goto 22, 3) := by decide +kernel
theorem dX7_shows_58 : decode cX7_shows 58 = .ok (.aload_n 0, 1) := by decide +kernel
theorem dX7_shows_59 : decode cX7_shows 59 = .ok (.aload_n 0, 1) := by decide +kernel
theorem dX7_shows_60 : decode cX7_shows 60 = .ok (.getfield 94, 3) := by decide +kernel
theorem dX7_shows_63 : decode cX7_shows 63 = .ok (.iload_n 3, 1) := by decide +kernel
theorem dX7_shows_64 : decode cX7_shows 64 = .ok (.iconst 1, 1) := by decide +kernel
theorem dX7_shows_65 : decode cX7_shows 65 = .ok (.iand, 1) := by decide +kernel
theorem dX7_shows_66 : decode cX7_shows 66 = .ok (.iload 4, 2) := by decide +kernel
theorem dX7_shows_68 : decode cX7_shows 68 = .ok (.ishl, 1) := by decide +kernel
theorem dX7_shows_69 : decode cX7_shows 69 = .ok (.ior, 1) := by decide +kernel
theorem dX7_shows_70 : decode cX7_shows 70 = .ok (.putfield 94, 3) := by decide +kernel
theorem dX7_shows_73 : decode cX7_shows 73 = .ok (.iload_n 3, 1) := by decide +kernel
theorem dX7_shows_74 : decode cX7_shows 74 = .ok (.iconst 1, 1) := by decide +kernel
theorem dX7_shows_75 : decode cX7_shows 75 = .ok (.ishr, 1) := by decide +kernel
theorem dX7_shows_76 : decode cX7_shows 76 = .ok (.istore_n 3, 1) := by decide +kernel
theorem dX7_shows_77 : decode cX7_shows 77 = .ok (.iinc 4 (-1), 3) := by decide +kernel
theorem dX7_shows_80 : decode cX7_shows 80 = .ok (.goto (-40), 3) := by decide +kernel
theorem dX7_shows_83 : decode cX7_shows 83 = .ok (.iconst 5, 1) := by decide +kernel
theorem dX7_shows_84 : decode cX7_shows 84 = .ok (.istore 4, 2) := by decide +kernel
theorem dX7_shows_86 : decode cX7_shows 86 = .ok (.iload 4, 2) := by decide +kernel
theorem dX7_shows_88 : decode cX7_shows 88 = .ok (.ifCond .lt 23, 3) := by decide +kernel
theorem dX7_shows_91 : decode cX7_shows 91 = .ok (.aload_n 0, 1) := by decide +kernel
theorem dX7_shows_92 : decode cX7_shows 92 = .ok (.getfield 23, 3) := by decide +kernel
theorem dX7_shows_95 : decode cX7_shows 95 = .ok (.iload 4, 2) := by decide +kernel
theorem dX7_shows_97 : decode cX7_shows 97 = .ok (.iload_n 3, 1) := by decide +kernel
theorem dX7_shows_98 : decode cX7_shows 98 = .ok (.iconst 3, 1) := by decide +kernel
theorem dX7_shows_99 : decode cX7_shows 99 = .ok (.iand, 1) := by decide +kernel
theorem dX7_shows_100 : decode cX7_shows 100 = .ok (.iastore, 1) := by decide +kernel
theorem dX7_shows_101 : decode cX7_shows 101 = .ok (.iload_n 3, 1) := by decide +kernel
theorem dX7_shows_102 : decode cX7_shows 102 = .ok (.iconst 2, 1) := by decide +kernel
theorem dX7_shows_103 : decode cX7_shows 103 = .ok (.ishr, 1) := by decide +kernel
theorem dX7_shows_104 : decode cX7_shows 104 = .ok (.istore_n 3, 1) := by decide +kernel
theorem dX7_shows_105 : decode cX7_shows 105 = .ok (.iinc 4 (-1), 3) := by decide +kernel
theorem dX7_shows_108 : decode cX7_shows 108 = .ok (.goto (-22), 3) := by decide +kernel
theorem dX7_shows_111 : decode cX7_shows 111 = .ok (.bipush 6, 2) := by decide +kernel
theorem dX7_shows_113 : decode cX7_shows 113 = .ok (.istore 4, 2) := by decide +kernel
theorem dX7_shows_115 : decode cX7_shows 115 = .ok (.iload 4, 2) := by decide +kernel
theorem dX7_shows_117 : decode cX7_shows 117 = .ok (.bipush 12, 2) := by decide +kernel
theorem dX7_shows_119 : decode cX7_shows 119 = .ok (.if_icmp .ge 17, 3) := by decide +kernel
theorem dX7_shows_122 : decode cX7_shows 122 = .ok (.aload_n 0, 1) := by decide +kernel
theorem dX7_shows_123 : decode cX7_shows 123 = .ok (.getfield 23, 3) := by decide +kernel
theorem dX7_shows_126 : decode cX7_shows 126 = .ok (.iload 4, 2) := by decide +kernel
theorem dX7_shows_128 : decode cX7_shows 128 = .ok (.iconst 0, 1) := by decide +kernel
theorem dX7_shows_129 : decode cX7_shows 129 = .ok (.iastore, 1) := by decide +kernel
theorem dX7_shows_130 : decode cX7_shows 130 = .ok (.iinc 4 1, 3) := by decide +kernel
theorem dX7_shows_133 : decode cX7_shows 133 = .ok (.goto (-18), 3) := by decide +kernel
theorem dX7_shows_136 : decode cX7_shows 136 = .ok (.return_, 1) := by decide +kernel
theorem dX7_meets_0 : decode cX7_meets 0 = .ok (.aload_n 0, 1) := by decide +kernel
theorem dX7_meets_1 : decode cX7_meets 1 = .ok (.iload_n 1, 1) := by decide +kernel
theorem dX7_meets_2 : decode cX7_meets 2 = .ok (.invokevirtual 154, 3) := by decide +kernel
theorem dX7_meets_5 : decode cX7_meets 5 = .ok (.istore 4, 2) := by decide +kernel
theorem dX7_meets_7 : decode cX7_meets 7 = .ok (.iload 4, 2) := by decide +kernel
theorem dX7_meets_9 : decode cX7_meets 9 = .ok (.ldc 157, 2) := by decide +kernel
theorem dX7_meets_11 : decode cX7_meets 11 = .ok (.imul, 1) := by decide +kernel
theorem dX7_meets_12 : decode cX7_meets 12 = .ok (.bipush 13, 2) := by decide +kernel
theorem dX7_meets_14 : decode cX7_meets 14 = .ok (.iushr, 1) := by decide +kernel
theorem dX7_meets_15 : decode cX7_meets 15 = .ok (.ldc 158, 2) := by decide +kernel
theorem dX7_meets_17 : decode cX7_meets 17 = .ok (.iand, 1) := by decide +kernel
theorem dX7_meets_18 : decode cX7_meets 18 = .ok (.istore 5, 2) := by decide +kernel
theorem dX7_meets_20 : decode cX7_meets 20 = .ok (.aload_n 0, 1) := by decide +kernel
theorem dX7_meets_21 : decode cX7_meets 21 = .ok (.getfield 45, 3) := by decide +kernel
theorem dX7_meets_24 : decode cX7_meets 24 = .ok (.iload 5, 2) := by decide +kernel
theorem dX7_meets_26 : decode cX7_meets 26 = .ok (.iaload, 1) := by decide +kernel
theorem dX7_meets_27 : decode cX7_meets 27 = .ok (.ifCond .eq 36, 3) := by decide +kernel
theorem dX7_meets_30 : decode cX7_meets 30 = .ok (.aload_n 0, 1) := by decide +kernel
theorem dX7_meets_31 : decode cX7_meets 31 = .ok (.getfield 49, 3) := by decide +kernel
theorem dX7_meets_34 : decode cX7_meets 34 = .ok (.aload_n 0, 1) := by decide +kernel
theorem dX7_meets_35 : decode cX7_meets 35 = .ok (.getfield 45, 3) := by decide +kernel
theorem dX7_meets_38 : decode cX7_meets 38 = .ok (.iload 5, 2) := by decide +kernel
theorem dX7_meets_40 : decode cX7_meets 40 = .ok (.iaload, 1) := by decide +kernel
theorem dX7_meets_41 : decode cX7_meets 41 = .ok (.iconst 1, 1) := by decide +kernel
theorem dX7_meets_42 : decode cX7_meets 42 = .ok (.isub, 1) := by decide +kernel
theorem dX7_meets_43 : decode cX7_meets 43 = .ok (.iaload, 1) := by decide +kernel
theorem dX7_meets_44 : decode cX7_meets 44 = .ok (.iload 4, 2) := by decide +kernel
theorem dX7_meets_46 : decode cX7_meets 46 = .ok (.if_icmp .ne 5, 3) := by decide +kernel
theorem dX7_meets_49 : decode cX7_meets 49 = .ok (.iconst 0, 1) := by decide +kernel
theorem dX7_meets_50 : decode cX7_meets 50 = .ok (.ireturn, 1) := by decide +kernel
theorem dX7_meets_51 : decode cX7_meets 51 = .ok (.iload 5, 2) := by decide +kernel
theorem dX7_meets_53 : decode cX7_meets 53 = .ok (.iconst 1, 1) := by decide +kernel
theorem dX7_meets_54 : decode cX7_meets 54 = .ok (.iadd, 1) := by decide +kernel
theorem dX7_meets_55 : decode cX7_meets 55 = .ok (.ldc 158, 2) := by decide +kernel
theorem dX7_meets_57 : decode cX7_meets 57 = .ok (.iand, 1) := by decide +kernel
theorem dX7_meets_58 : decode cX7_meets 58 = .ok (.istore 5, 2) := by decide +kernel
theorem dX7_meets_60 : decode cX7_meets 60 = .ok (.goto (-40), 3) := by decide +kernel
theorem dX7_meets_63 : decode cX7_meets 63 = .ok (.aload_n 0, 1) := by decide +kernel
theorem dX7_meets_64 : decode cX7_meets 64 = .ok (.getfield 49, 3) := by decide +kernel
theorem dX7_meets_67 : decode cX7_meets 67 = .ok (.aload_n 0, 1) := by decide +kernel
theorem dX7_meets_68 : decode cX7_meets 68 = .ok (.getfield 159, 3) := by decide +kernel
theorem dX7_meets_71 : decode cX7_meets 71 = .ok (.iload 4, 2) := by decide +kernel
theorem dX7_meets_73 : decode cX7_meets 73 = .ok (.iastore, 1) := by decide +kernel
theorem dX7_meets_74 : decode cX7_meets 74 = .ok (.aload_n 0, 1) := by decide +kernel
theorem dX7_meets_75 : decode cX7_meets 75 = .ok (.getfield 52, 3) := by decide +kernel
theorem dX7_meets_78 : decode cX7_meets 78 = .ok (.aload_n 0, 1) := by decide +kernel
theorem dX7_meets_79 : decode cX7_meets 79 = .ok (.getfield 159, 3) := by decide +kernel
theorem dX7_meets_82 : decode cX7_meets 82 = .ok (.iload_n 2, 1) := by decide +kernel
theorem dX7_meets_83 : decode cX7_meets 83 = .ok (.iastore, 1) := by decide +kernel
theorem dX7_meets_84 : decode cX7_meets 84 = .ok (.aload_n 0, 1) := by decide +kernel
theorem dX7_meets_85 : decode cX7_meets 85 = .ok (.getfield 55, 3) := by decide +kernel
theorem dX7_meets_88 : decode cX7_meets 88 = .ok (.aload_n 0, 1) := by decide +kernel
theorem dX7_meets_89 : decode cX7_meets 89 = .ok (.getfield 159, 3) := by decide +kernel
theorem dX7_meets_92 : decode cX7_meets 92 = .ok (.iload_n 3, 1) := by decide +kernel
theorem dX7_meets_93 : decode cX7_meets 93 = .ok (.iastore, 1) := by decide +kernel
theorem dX7_meets_94 : decode cX7_meets 94 = .ok (.aload_n 0, 1) := by decide +kernel
theorem dX7_meets_95 : decode cX7_meets 95 = .ok (.aload_n 0, 1) := by decide +kernel
theorem dX7_meets_96 : decode cX7_meets 96 = .ok (.getfield 159, 3) := by decide +kernel
theorem dX7_meets_99 : decode cX7_meets 99 = .ok (.iconst 1, 1) := by decide +kernel
theorem dX7_meets_100 : decode cX7_meets 100 = .ok (.iadd, 1) := by decide +kernel
theorem dX7_meets_101 : decode cX7_meets 101 = .ok (.putfield 159, 3) := by decide +kernel
theorem dX7_meets_104 : decode cX7_meets 104 = .ok (.aload_n 0, 1) := by decide +kernel
theorem dX7_meets_105 : decode cX7_meets 105 = .ok (.getfield 45, 3) := by decide +kernel
theorem dX7_meets_108 : decode cX7_meets 108 = .ok (.iload 5, 2) := by decide +kernel
theorem dX7_meets_110 : decode cX7_meets 110 = .ok (.aload_n 0, 1) := by decide +kernel
theorem dX7_meets_111 : decode cX7_meets 111 = .ok (.getfield 159, 3) := by decide +kernel
theorem dX7_meets_114 : decode cX7_meets 114 = .ok (.iastore, 1) := by decide +kernel
theorem dX7_meets_115 : decode cX7_meets 115 = .ok (.iconst 1, 1) := by decide +kernel
theorem dX7_meets_116 : decode cX7_meets 116 = .ok (.ireturn, 1) := by decide +kernel
theorem dX7_may_0 : decode cX7_may 0 = .ok (.iload_n 2, 1) := by decide +kernel
theorem dX7_may_1 : decode cX7_may 1 = .ok (.ifCond .ne 43, 3) := by decide +kernel
theorem dX7_may_4 : decode cX7_may 4 = .ok (.aload_n 0, 1) := by decide +kernel
theorem dX7_may_5 : decode cX7_may 5 = .ok (.invokevirtual 123, 3) := by decide +kernel
theorem dX7_may_8 : decode cX7_may 8 = .ok (.iload 4, 2) := by decide +kernel
theorem dX7_may_10 : decode cX7_may 10 = .ok (.if_icmp .ge 32, 3) := by decide +kernel
theorem dX7_may_13 : decode cX7_may 13 = .ok (.iload_n 1, 1) := by decide +kernel
theorem dX7_may_14 : decode cX7_may 14 = .ok (.iconst 1, 1) := by decide +kernel
theorem dX7_may_15 : decode cX7_may 15 = .ok (.if_icmp .ne 10, 3) := by decide +kernel
theorem dX7_may_18 : decode cX7_may 18 = .ok (.aload_n 0, 1) := by decide +kernel
theorem dX7_may_19 : decode cX7_may 19 = .ok (.getfield 150, 3) := by decide +kernel
theorem dX7_may_22 : decode cX7_may 22 = .ok (.ifCond .ne 20, 3) := by decide +kernel
theorem dX7_may_25 : decode cX7_may 25 = .ok (.iload_n 1, 1) := by decide +kernel
theorem dX7_may_26 : decode cX7_may 26 = .ok (.iconst 2, 1) := by decide +kernel
theorem dX7_may_27 : decode cX7_may 27 = .ok (.if_icmp .ne 11, 3) := by decide +kernel
theorem dX7_may_30 : decode cX7_may 30 = .ok (.iload_n 3, 1) := by decide +kernel
theorem dX7_may_31 : decode cX7_may 31 = .ok (.aload_n 0, 1) := by decide +kernel
theorem dX7_may_32 : decode cX7_may 32 = .ok (.getfield 74, 3) := by decide +kernel
theorem dX7_may_35 : decode cX7_may 35 = .ok (.if_icmp .ne 7, 3) := by decide +kernel
theorem dX7_may_38 : decode cX7_may 38 = .ok (.iconst 1, 1) := by decide +kernel
theorem dX7_may_39 : decode cX7_may 39 = .ok (.goto 4, 3) := by decide +kernel
theorem dX7_may_42 : decode cX7_may 42 = .ok (.iconst 0, 1) := by decide +kernel
theorem dX7_may_43 : decode cX7_may 43 = .ok (.ireturn, 1) := by decide +kernel
theorem dX7_may_44 : decode cX7_may 44 = .ok (.aload_n 0, 1) := by decide +kernel
theorem dX7_may_45 : decode cX7_may 45 = .ok (.getfield 23, 3) := by decide +kernel
theorem dX7_may_48 : decode cX7_may 48 = .ok (.iload_n 3, 1) := by decide +kernel
theorem dX7_may_49 : decode cX7_may 49 = .ok (.iaload, 1) := by decide +kernel
theorem dX7_may_50 : decode cX7_may 50 = .ok (.ifCond .le 16, 3) := by decide +kernel
theorem dX7_may_53 : decode cX7_may 53 = .ok (.iload_n 2, 1) := by decide +kernel
theorem dX7_may_54 : decode cX7_may 54 = .ok (.iconst 1, 1) := by decide +kernel
theorem dX7_may_55 : decode cX7_may 55 = .ok (.if_icmp .ne 7, 3) := by decide +kernel
theorem dX7_may_58 : decode cX7_may 58 = .ok (.iload_n 1, 1) := by decide +kernel
theorem dX7_may_59 : decode cX7_may 59 = .ok (.ifCond .ne 7, 3) := by decide +kernel
theorem dX7_may_62 : decode cX7_may 62 = .ok (.iconst 1, 1) := by decide +kernel
theorem dX7_may_63 : decode cX7_may 63 = .ok (.goto 4, 3) := by decide +kernel
theorem dX7_may_66 : decode cX7_may 66 = .ok (.iconst 0, 1) := by decide +kernel
theorem dX7_may_67 : decode cX7_may 67 = .ok (.ireturn, 1) := by decide +kernel
theorem dX7_finds_0 : decode cX7_finds 0 = .ok (.iconst 0, 1) := by decide +kernel
theorem dX7_finds_1 : decode cX7_finds 1 = .ok (.istore_n 3, 1) := by decide +kernel
theorem dX7_finds_2 : decode cX7_finds 2 = .ok (.iload_n 3, 1) := by decide +kernel
theorem dX7_finds_3 : decode cX7_finds 3 = .ok (.ldc 44, 2) := by decide +kernel
theorem dX7_finds_5 : decode cX7_finds 5 = .ok (.if_icmp .ge 16, 3) := by decide +kernel
theorem dX7_finds_8 : decode cX7_finds 8 = .ok (.aload_n 0, 1) := by decide +kernel
theorem dX7_finds_9 : decode cX7_finds 9 = .ok (.getfield 45, 3) := by decide +kernel
theorem dX7_finds_12 : decode cX7_finds 12 = .ok (.iload_n 3, 1) := by decide +kernel
theorem dX7_finds_13 : decode cX7_finds 13 = .ok (.iconst 0, 1) := by decide +kernel
theorem dX7_finds_14 : decode cX7_finds 14 = .ok (.iastore, 1) := by decide +kernel
theorem dX7_finds_15 : decode cX7_finds 15 = .ok (.iinc 3 1, 3) := by decide +kernel
theorem dX7_finds_18 : decode cX7_finds 18 = .ok (.goto (-16), 3) := by decide +kernel
theorem dX7_finds_21 : decode cX7_finds 21 = .ok (.aload_n 0, 1) := by decide +kernel
theorem dX7_finds_22 : decode cX7_finds 22 = .ok (.iconst 0, 1) := by decide +kernel
theorem dX7_finds_23 : decode cX7_finds 23 = .ok (.putfield 159, 3) := by decide +kernel
theorem dX7_finds_26 : decode cX7_finds 26 = .ok (.aload_n 0, 1) := by decide +kernel
theorem dX7_finds_27 : decode cX7_finds 27 = .ok (.invokevirtual 110, 3) := by decide +kernel
theorem dX7_finds_30 : decode cX7_finds 30 = .ok (.aload_n 0, 1) := by decide +kernel
theorem dX7_finds_31 : decode cX7_finds 31 = .ok (.iconst 0, 1) := by decide +kernel
theorem dX7_finds_32 : decode cX7_finds 32 = .ok (.putfield 150, 3) := by decide +kernel
theorem dX7_finds_35 : decode cX7_finds 35 = .ok (.aload_n 0, 1) := by decide +kernel
theorem dX7_finds_36 : decode cX7_finds 36 = .ok (.iload_n 1, 1) := by decide +kernel
theorem dX7_finds_37 : decode cX7_finds 37 = .ok (.iconst (-1), 1) := by decide +kernel
theorem dX7_finds_38 : decode cX7_finds 38 = .ok (.iconst 0, 1) := by decide +kernel
theorem dX7_finds_39 : decode cX7_finds 39 = .ok (.invokevirtual 162, 3) := by decide +kernel
theorem dX7_finds_42 : decode cX7_finds 42 = .ok (.pop, 1) := by decide +kernel
theorem dX7_finds_43 : decode cX7_finds 43 = .ok (.iconst 0, 1) := by decide +kernel
theorem dX7_finds_44 : decode cX7_finds 44 = .ok (.istore_n 3, 1) := by decide +kernel
theorem dX7_finds_45 : decode cX7_finds 45 = .ok (.iload_n 3, 1) := by decide +kernel
theorem dX7_finds_46 : decode cX7_finds 46 = .ok (.aload_n 0, 1) := by decide +kernel
theorem dX7_finds_47 : decode cX7_finds 47 = .ok (.getfield 159, 3) := by decide +kernel
theorem dX7_finds_50 : decode cX7_finds 50 = .ok (.if_icmp .ge 211, 3) := by decide +kernel
theorem dX7_finds_53 : decode cX7_finds 53 = .ok (.iconst 0, 1) := by decide +kernel
theorem dX7_finds_54 : decode cX7_finds 54 = .ok (.istore 4, 2) := by decide +kernel
theorem dX7_finds_56 : decode cX7_finds 56 = .ok (.iload 4, 2) := by decide +kernel
theorem dX7_finds_58 : decode cX7_finds 58 = .ok (.iconst 2, 1) := by decide +kernel
theorem dX7_finds_59 : decode cX7_finds 59 = .ok (.if_icmp .gt 196, 3) := by decide +kernel
theorem dX7_finds_62 : decode cX7_finds 62 = .ok (.iconst 0, 1) := by decide +kernel
theorem dX7_finds_63 : decode cX7_finds 63 = .ok (.istore 5, 2) := by decide +kernel
theorem dX7_finds_65 : decode cX7_finds 65 = .ok (.iload 5, 2) := by decide +kernel
theorem dX7_finds_67 : decode cX7_finds 67 = .ok (.aload_n 0, 1) := by decide +kernel
theorem dX7_finds_68 : decode cX7_finds 68 = .ok (.getfield 68, 3) := by decide +kernel
theorem dX7_finds_71 : decode cX7_finds 71 = .ok (.if_icmp .ge 178, 3) := by decide +kernel
theorem dX7_finds_74 : decode cX7_finds 74 = .ok (.iconst 0, 1) := by decide +kernel
theorem dX7_finds_75 : decode cX7_finds 75 = .ok (.istore 6, 2) := by decide +kernel
theorem dX7_finds_77 : decode cX7_finds 77 = .ok (.iload 6, 2) := by decide +kernel
theorem dX7_finds_79 : decode cX7_finds 79 = .ok (.iload 4, 2) := by decide +kernel
theorem dX7_finds_81 : decode cX7_finds 81 = .ok (.iconst 2, 1) := by decide +kernel
theorem dX7_finds_82 : decode cX7_finds 82 = .ok (.if_icmp .ne 8, 3) := by decide +kernel
theorem dX7_finds_85 : decode cX7_finds 85 = .ok (.bipush 18, 2) := by decide +kernel
theorem dX7_finds_87 : decode cX7_finds 87 = .ok (.goto 4, 3) := by decide +kernel
theorem dX7_finds_90 : decode cX7_finds 90 = .ok (.iconst 1, 1) := by decide +kernel
theorem dX7_finds_91 : decode cX7_finds 91 = .ok (.if_icmp .ge 152, 3) := by decide +kernel
theorem dX7_finds_94 : decode cX7_finds 94 = .ok (.aload_n 0, 1) := by decide +kernel
theorem dX7_finds_95 : decode cX7_finds 95 = .ok (.aload_n 0, 1) := by decide +kernel
theorem dX7_finds_96 : decode cX7_finds 96 = .ok (.getfield 49, 3) := by decide +kernel
theorem dX7_finds_99 : decode cX7_finds 99 = .ok (.iload_n 3, 1) := by decide +kernel
theorem dX7_finds_100 : decode cX7_finds 100 = .ok (.iaload, 1) := by decide +kernel
theorem dX7_finds_101 : decode cX7_finds 101 = .ok (.iload_n 1, 1) := by decide +kernel
theorem dX7_finds_102 : decode cX7_finds 102 = .ok (.invokevirtual 166, 3) := by decide +kernel
theorem dX7_finds_105 : decode cX7_finds 105 = .ok (.iload 4, 2) := by decide +kernel
theorem dX7_finds_107 : decode cX7_finds 107 = .ok (.iconst 2, 1) := by decide +kernel
theorem dX7_finds_108 : decode cX7_finds 108 = .ok (.if_icmp .ne 14, 3) := by decide +kernel
theorem dX7_finds_111 : decode cX7_finds 111 = .ok (.aload_n 0, 1) := by decide +kernel
theorem dX7_finds_112 : decode cX7_finds 112 = .ok (.iload 6, 2) := by decide +kernel
theorem dX7_finds_114 : decode cX7_finds 114 = .ok (.iload 5, 2) := by decide +kernel
theorem dX7_finds_116 : decode cX7_finds 116 = .ok (.invokevirtual 116, 3) := by decide +kernel
theorem dX7_finds_119 : decode cX7_finds 119 = .ok (.ifCond .eq 118, 3) := by decide +kernel
theorem dX7_finds_122 : decode cX7_finds 122 = .ok (.aload_n 0, 1) := by decide +kernel
theorem dX7_finds_123 : decode cX7_finds 123 = .ok (.iload_n 1, 1) := by decide +kernel
theorem dX7_finds_124 : decode cX7_finds 124 = .ok (.iload 4, 2) := by decide +kernel
theorem dX7_finds_126 : decode cX7_finds 126 = .ok (.iload 5, 2) := by decide +kernel
theorem dX7_finds_128 : decode cX7_finds 128 = .ok (.iload_n 2, 1) := by decide +kernel
theorem dX7_finds_129 : decode cX7_finds 129 = .ok (.invokevirtual 170, 3) := by decide +kernel
theorem dX7_finds_132 : decode cX7_finds 132 = .ok (.ifCond .ne 6, 3) := by decide +kernel
theorem dX7_finds_135 : decode cX7_finds 135 = .ok (.goto 102, 3) := by decide +kernel
theorem dX7_finds_138 : decode cX7_finds 138 = .ok (.aload_n 0, 1) := by decide +kernel
theorem dX7_finds_139 : decode cX7_finds 139 = .ok (.iload 4, 2) := by decide +kernel
theorem dX7_finds_141 : decode cX7_finds 141 = .ok (.iload 5, 2) := by decide +kernel
theorem dX7_finds_143 : decode cX7_finds 143 = .ok (.iload 6, 2) := by decide +kernel
theorem dX7_finds_145 : decode cX7_finds 145 = .ok (.invokevirtual 127, 3) := by decide +kernel
theorem dX7_finds_148 : decode cX7_finds 148 = .ok (.aload_n 0, 1) := by decide +kernel
theorem dX7_finds_149 : decode cX7_finds 149 = .ok (.aload_n 0, 1) := by decide +kernel
theorem dX7_finds_150 : decode cX7_finds 150 = .ok (.getfield 150, 3) := by decide +kernel
theorem dX7_finds_153 : decode cX7_finds 153 = .ok (.ifCond .ne 9, 3) := by decide +kernel
theorem dX7_finds_156 : decode cX7_finds 156 = .ok (.iload 4, 2) := by decide +kernel
theorem dX7_finds_158 : decode cX7_finds 158 = .ok (.iconst 2, 1) := by decide +kernel
theorem dX7_finds_159 : decode cX7_finds 159 = .ok (.if_icmp .ne 7, 3) := by decide +kernel
theorem dX7_finds_162 : decode cX7_finds 162 = .ok (.iconst 1, 1) := by decide +kernel
theorem dX7_finds_163 : decode cX7_finds 163 = .ok (.goto 4, 3) := by decide +kernel
theorem dX7_finds_166 : decode cX7_finds 166 = .ok (.iconst 0, 1) := by decide +kernel
theorem dX7_finds_167 : decode cX7_finds 167 = .ok (.putfield 150, 3) := by decide +kernel
theorem dX7_finds_170 : decode cX7_finds 170 = .ok (.iload_n 1, 1) := by decide +kernel
theorem dX7_finds_171 : decode cX7_finds 171 = .ok (.iconst 2, 1) := by decide +kernel
theorem dX7_finds_172 : decode cX7_finds 172 = .ok (.if_icmp .ne 17, 3) := by decide +kernel
theorem dX7_finds_175 : decode cX7_finds 175 = .ok (.aload_n 0, 1) := by decide +kernel
theorem dX7_finds_176 : decode cX7_finds 176 = .ok (.aload_n 0, 1) := by decide +kernel
theorem dX7_finds_177 : decode cX7_finds 177 = .ok (.getfield 74, 3) := by decide +kernel
theorem dX7_finds_180 : decode cX7_finds 180 = .ok (.invokevirtual 174, 3) := by decide +kernel
theorem dX7_finds_183 : decode cX7_finds 183 = .ok (.ifCond .ne 6, 3) := by decide +kernel
theorem dX7_finds_186 : decode cX7_finds 186 = .ok (.goto 51, 3) := by decide +kernel
theorem dX7_finds_189 : decode cX7_finds 189 = .ok (.aload_n 0, 1) := by decide +kernel
theorem dX7_finds_190 : decode cX7_finds 190 = .ok (.iload_n 1, 1) := by decide +kernel
theorem dX7_finds_191 : decode cX7_finds 191 = .ok (.iload_n 3, 1) := by decide +kernel
theorem dX7_finds_192 : decode cX7_finds 192 = .ok (.iload 4, 2) := by decide +kernel
theorem dX7_finds_194 : decode cX7_finds 194 = .ok (.bipush 16, 2) := by decide +kernel
theorem dX7_finds_196 : decode cX7_finds 196 = .ok (.imul, 1) := by decide +kernel
theorem dX7_finds_197 : decode cX7_finds 197 = .ok (.iload 5, 2) := by decide +kernel
theorem dX7_finds_199 : decode cX7_finds 199 = .ok (.iadd, 1) := by decide +kernel
theorem dX7_finds_200 : decode cX7_finds 200 = .ok (.bipush 32, 2) := by decide +kernel
theorem dX7_finds_202 : decode cX7_finds 202 = .ok (.imul, 1) := by decide +kernel
theorem dX7_finds_203 : decode cX7_finds 203 = .ok (.iload 4, 2) := by decide +kernel
theorem dX7_finds_205 : decode cX7_finds 205 = .ok (.iconst 2, 1) := by decide +kernel
theorem dX7_finds_206 : decode cX7_finds 206 = .ok (.if_icmp .ne 8, 3) := by decide +kernel
theorem dX7_finds_209 : decode cX7_finds 209 = .ok (.iload 6, 2) := by decide +kernel
theorem dX7_finds_211 : decode cX7_finds 211 = .ok (.goto 5, 3) := by decide +kernel
theorem dX7_finds_214 : decode cX7_finds 214 = .ok (.bipush 31, 2) := by decide +kernel
theorem dX7_finds_216 : decode cX7_finds 216 = .ok (.iadd, 1) := by decide +kernel
theorem dX7_finds_217 : decode cX7_finds 217 = .ok (.invokevirtual 162, 3) := by decide +kernel
theorem dX7_finds_220 : decode cX7_finds 220 = .ok (.ifCond .eq 17, 3) := by decide +kernel
theorem dX7_finds_223 : decode cX7_finds 223 = .ok (.aload_n 0, 1) := by decide +kernel
theorem dX7_finds_224 : decode cX7_finds 224 = .ok (.invokevirtual 177, 3) := by decide +kernel
theorem dX7_finds_227 : decode cX7_finds 227 = .ok (.ifCond .eq 10, 3) := by decide +kernel
theorem dX7_finds_230 : decode cX7_finds 230 = .ok (.aload_n 0, 1) := by decide +kernel
theorem dX7_finds_231 : decode cX7_finds 231 = .ok (.getfield 159, 3) := by decide +kernel
theorem dX7_finds_234 : decode cX7_finds 234 = .ok (.iconst 1, 1) := by decide +kernel
theorem dX7_finds_235 : decode cX7_finds 235 = .ok (.isub, 1) := by decide +kernel
theorem dX7_finds_236 : decode cX7_finds 236 = .ok (.ireturn, 1) := by decide +kernel
theorem dX7_finds_237 : decode cX7_finds 237 = .ok (.iinc 6 1, 3) := by decide +kernel
theorem dX7_finds_240 : decode cX7_finds 240 = .ok (.goto (-163), 3) := by decide +kernel
theorem dX7_finds_243 : decode cX7_finds 243 = .ok (.iinc 5 1, 3) := by decide +kernel
theorem dX7_finds_246 : decode cX7_finds 246 = .ok (.goto (-181), 3) := by decide +kernel
theorem dX7_finds_249 : decode cX7_finds 249 = .ok (.iinc 4 1, 3) := by decide +kernel
theorem dX7_finds_252 : decode cX7_finds 252 = .ok (.goto (-196), 3) := by decide +kernel
theorem dX7_finds_255 : decode cX7_finds 255 = .ok (.iinc 3 1, 3) := by decide +kernel
theorem dX7_finds_258 : decode cX7_finds 258 = .ok (.goto (-213), 3) := by decide +kernel
theorem dX7_finds_261 : decode cX7_finds 261 = .ok (.iconst (-1), 1) := by decide +kernel
theorem dX7_finds_262 : decode cX7_finds 262 = .ok (.ireturn, 1) := by decide +kernel
theorem dX7_isSmall_0 : decode cX7_isSmall 0 = .ok (.iload_n 1, 1) := by decide +kernel
theorem dX7_isSmall_1 : decode cX7_isSmall 1 = .ok (.ifCond .lt 37, 3) := by decide +kernel
theorem dX7_isSmall_4 : decode cX7_isSmall 4 = .ok (.iload_n 1, 1) := by decide +kernel
theorem dX7_isSmall_5 : decode cX7_isSmall 5 = .ok (.iconst 2, 1) := by decide +kernel
theorem dX7_isSmall_6 : decode cX7_isSmall 6 = .ok (.if_icmp .gt 32, 3) := by decide +kernel
theorem dX7_isSmall_9 : decode cX7_isSmall 9 = .ok (.aload_n 0, 1) := by decide +kernel
theorem dX7_isSmall_10 : decode cX7_isSmall 10 = .ok (.getfield 68, 3) := by decide +kernel
theorem dX7_isSmall_13 : decode cX7_isSmall 13 = .ok (.ifCond .le 25, 3) := by decide +kernel
theorem dX7_isSmall_16 : decode cX7_isSmall 16 = .ok (.aload_n 0, 1) := by decide +kernel
theorem dX7_isSmall_17 : decode cX7_isSmall 17 = .ok (.getfield 68, 3) := by decide +kernel
theorem dX7_isSmall_20 : decode cX7_isSmall 20 = .ok (.bipush 6, 2) := by decide +kernel
theorem dX7_isSmall_22 : decode cX7_isSmall 22 = .ok (.if_icmp .gt 16, 3) := by decide +kernel
theorem dX7_isSmall_25 : decode cX7_isSmall 25 = .ok (.aload_n 0, 1) := by decide +kernel
theorem dX7_isSmall_26 : decode cX7_isSmall 26 = .ok (.invokevirtual 138, 3) := by decide +kernel
theorem dX7_isSmall_29 : decode cX7_isSmall 29 = .ok (.bipush 8, 2) := by decide +kernel
theorem dX7_isSmall_31 : decode cX7_isSmall 31 = .ok (.if_icmp .gt 7, 3) := by decide +kernel
theorem dX7_isSmall_34 : decode cX7_isSmall 34 = .ok (.iconst 1, 1) := by decide +kernel
theorem dX7_isSmall_35 : decode cX7_isSmall 35 = .ok (.goto 4, 3) := by decide +kernel
theorem dX7_isSmall_38 : decode cX7_isSmall 38 = .ok (.iconst 0, 1) := by decide +kernel
theorem dX7_isSmall_39 : decode cX7_isSmall 39 = .ok (.ireturn, 1) := by decide +kernel
theorem dX7_fewest_0 : decode cX7_fewest 0 = .ok (.aload_n 0, 1) := by decide +kernel
theorem dX7_fewest_1 : decode cX7_fewest 1 = .ok (.iconst (-1), 1) := by decide +kernel
theorem dX7_fewest_2 : decode cX7_fewest 2 = .ok (.putfield 58, 3) := by decide +kernel
theorem dX7_fewest_5 : decode cX7_fewest 5 = .ok (.aload_n 0, 1) := by decide +kernel
theorem dX7_fewest_6 : decode cX7_fewest 6 = .ok (.iload_n 1, 1) := by decide +kernel
theorem dX7_fewest_7 : decode cX7_fewest 7 = .ok (.invokevirtual 181, 3) := by decide +kernel
theorem dX7_fewest_10 : decode cX7_fewest 10 = .ok (.ifCond .ne 5, 3) := by decide +kernel
theorem dX7_fewest_13 : decode cX7_fewest 13 = .ok (.iconst (-1), 1) := by decide +kernel
theorem dX7_fewest_14 : decode cX7_fewest 14 = .ok (.ireturn, 1) := by decide +kernel
theorem dX7_fewest_15 : decode cX7_fewest 15 = .ok (.iconst 1, 1) := by decide +kernel
theorem dX7_fewest_16 : decode cX7_fewest 16 = .ok (.istore_n 2, 1) := by decide +kernel
theorem dX7_fewest_17 : decode cX7_fewest 17 = .ok (.iload_n 2, 1) := by decide +kernel
theorem dX7_fewest_18 : decode cX7_fewest 18 = .ok (.iconst 3, 1) := by decide +kernel
theorem dX7_fewest_19 : decode cX7_fewest 19 = .ok (.if_icmp .gt 119, 3) := by decide +kernel
theorem dX7_fewest_22 : decode cX7_fewest 22 = .ok (.aload_n 0, 1) := by decide +kernel
theorem dX7_fewest_23 : decode cX7_fewest 23 = .ok (.iload_n 1, 1) := by decide +kernel
theorem dX7_fewest_24 : decode cX7_fewest 24 = .ok (.iload_n 2, 1) := by decide +kernel
theorem dX7_fewest_25 : decode cX7_fewest 25 = .ok (.invokevirtual 184, 3) := by decide +kernel
theorem dX7_fewest_28 : decode cX7_fewest 28 = .ok (.istore_n 3, 1) := by decide +kernel
theorem dX7_fewest_29 : decode cX7_fewest 29 = .ok (.iload_n 3, 1) := by decide +kernel
theorem dX7_fewest_30 : decode cX7_fewest 30 = .ok (.iconst (-1), 1) := by decide +kernel
theorem dX7_fewest_31 : decode cX7_fewest 31 = .ok (.if_icmp .ne 6, 3) := by decide +kernel
theorem dX7_fewest_34 : decode cX7_fewest 34 = .ok (.goto 98, 3) := by decide +kernel
theorem dX7_fewest_37 : decode cX7_fewest 37 = .ok (.aload_n 0, 1) := by decide +kernel
theorem dX7_fewest_38 : decode cX7_fewest 38 = .ok (.iconst 0, 1) := by decide +kernel
theorem dX7_fewest_39 : decode cX7_fewest 39 = .ok (.putfield 58, 3) := by decide +kernel
theorem dX7_fewest_42 : decode cX7_fewest 42 = .ok (.iload_n 3, 1) := by decide +kernel
theorem dX7_fewest_43 : decode cX7_fewest 43 = .ok (.istore 4, 2) := by decide +kernel
theorem dX7_fewest_45 : decode cX7_fewest 45 = .ok (.aload_n 0, 1) := by decide +kernel
theorem dX7_fewest_46 : decode cX7_fewest 46 = .ok (.getfield 52, 3) := by decide +kernel
theorem dX7_fewest_49 : decode cX7_fewest 49 = .ok (.iload 4, 2) := by decide +kernel
theorem dX7_fewest_51 : decode cX7_fewest 51 = .ok (.iaload, 1) := by decide +kernel
theorem dX7_fewest_52 : decode cX7_fewest 52 = .ok (.iconst (-1), 1) := by decide +kernel
theorem dX7_fewest_53 : decode cX7_fewest 53 = .ok (.if_icmp .eq 25, 3) := by decide +kernel
theorem dX7_fewest_56 : decode cX7_fewest 56 = .ok (.aload_n 0, 1) := by decide +kernel
theorem dX7_fewest_57 : decode cX7_fewest 57 = .ok (.aload_n 0, 1) := by decide +kernel
theorem dX7_fewest_58 : decode cX7_fewest 58 = .ok (.getfield 58, 3) := by decide +kernel
theorem dX7_fewest_61 : decode cX7_fewest 61 = .ok (.iconst 1, 1) := by decide +kernel
theorem dX7_fewest_62 : decode cX7_fewest 62 = .ok (.iadd, 1) := by decide +kernel
theorem dX7_fewest_63 : decode cX7_fewest 63 = .ok (.putfield 58, 3) := by decide +kernel
theorem dX7_fewest_66 : decode cX7_fewest 66 = .ok (.aload_n 0, 1) := by decide +kernel
theorem dX7_fewest_67 : decode cX7_fewest 67 = .ok (.getfield 52, 3) := by decide +kernel
theorem dX7_fewest_70 : decode cX7_fewest 70 = .ok (.iload 4, 2) := by decide +kernel
theorem dX7_fewest_72 : decode cX7_fewest 72 = .ok (.iaload, 1) := by decide +kernel
theorem dX7_fewest_73 : decode cX7_fewest 73 = .ok (.istore 4, 2) := by decide +kernel
theorem dX7_fewest_75 : decode cX7_fewest 75 = .ok (.goto (-30), 3) := by decide +kernel
theorem dX7_fewest_78 : decode cX7_fewest 78 = .ok (.aload_n 0, 1) := by decide +kernel
theorem dX7_fewest_79 : decode cX7_fewest 79 = .ok (.getfield 58, 3) := by decide +kernel
theorem dX7_fewest_82 : decode cX7_fewest 82 = .ok (.istore 4, 2) := by decide +kernel
theorem dX7_fewest_84 : decode cX7_fewest 84 = .ok (.iload_n 3, 1) := by decide +kernel
theorem dX7_fewest_85 : decode cX7_fewest 85 = .ok (.istore 5, 2) := by decide +kernel
theorem dX7_fewest_87 : decode cX7_fewest 87 = .ok (.aload_n 0, 1) := by decide +kernel
theorem dX7_fewest_88 : decode cX7_fewest 88 = .ok (.getfield 52, 3) := by decide +kernel
theorem dX7_fewest_91 : decode cX7_fewest 91 = .ok (.iload 5, 2) := by decide +kernel
theorem dX7_fewest_93 : decode cX7_fewest 93 = .ok (.iaload, 1) := by decide +kernel
theorem dX7_fewest_94 : decode cX7_fewest 94 = .ok (.iconst (-1), 1) := by decide +kernel
theorem dX7_fewest_95 : decode cX7_fewest 95 = .ok (.if_icmp .eq 35, 3) := by decide +kernel
theorem dX7_fewest_98 : decode cX7_fewest 98 = .ok (.iload 4, 2) := by decide +kernel
theorem dX7_fewest_100 : decode cX7_fewest 100 = .ok (.iconst 1, 1) := by decide +kernel
theorem dX7_fewest_101 : decode cX7_fewest 101 = .ok (.isub, 1) := by decide +kernel
theorem dX7_fewest_102 : decode cX7_fewest 102 = .ok (.istore 4, 2) := by decide +kernel
theorem dX7_fewest_104 : decode cX7_fewest 104 = .ok (.aload_n 0, 1) := by decide +kernel
theorem dX7_fewest_105 : decode cX7_fewest 105 = .ok (.getfield 62, 3) := by decide +kernel
theorem dX7_fewest_108 : decode cX7_fewest 108 = .ok (.iload 4, 2) := by decide +kernel
theorem dX7_fewest_110 : decode cX7_fewest 110 = .ok (.aload_n 0, 1) := by decide +kernel
theorem dX7_fewest_111 : decode cX7_fewest 111 = .ok (.getfield 55, 3) := by decide +kernel
theorem dX7_fewest_114 : decode cX7_fewest 114 = .ok (.iload 5, 2) := by decide +kernel
theorem dX7_fewest_116 : decode cX7_fewest 116 = .ok (.iaload, 1) := by decide +kernel
theorem dX7_fewest_117 : decode cX7_fewest 117 = .ok (.iastore, 1) := by decide +kernel
theorem dX7_fewest_118 : decode cX7_fewest 118 = .ok (.aload_n 0, 1) := by decide +kernel
theorem dX7_fewest_119 : decode cX7_fewest 119 = .ok (.getfield 52, 3) := by decide +kernel
theorem dX7_fewest_122 : decode cX7_fewest 122 = .ok (.iload 5, 2) := by decide +kernel
theorem dX7_fewest_124 : decode cX7_fewest 124 = .ok (.iaload, 1) := by decide +kernel
theorem dX7_fewest_125 : decode cX7_fewest 125 = .ok (.istore 5, 2) := by decide +kernel
theorem dX7_fewest_127 : decode cX7_fewest 127 = .ok (.goto (-40), 3) := by decide +kernel
theorem dX7_fewest_130 : decode cX7_fewest 130 = .ok (.iload_n 2, 1) := by decide +kernel
theorem dX7_fewest_131 : decode cX7_fewest 131 = .ok (.ireturn, 1) := by decide +kernel
theorem dX7_fewest_132 : decode cX7_fewest 132 = .ok (.iinc 2 1, 3) := by decide +kernel
theorem dX7_fewest_135 : decode cX7_fewest 135 = .ok (.goto (-118), 3) := by decide +kernel
theorem dX7_fewest_138 : decode cX7_fewest 138 = .ok (.iconst 4, 1) := by decide +kernel
theorem dX7_fewest_139 : decode cX7_fewest 139 = .ok (.ireturn, 1) := by decide +kernel
theorem dX7_plan_0 : decode cX7_plan 0 = .ok (.iload_n 1, 1) := by decide +kernel
theorem dX7_plan_1 : decode cX7_plan 1 = .ok (.iconst (-1), 1) := by decide +kernel
theorem dX7_plan_2 : decode cX7_plan 2 = .ok (.if_icmp .ne 12, 3) := by decide +kernel
theorem dX7_plan_5 : decode cX7_plan 5 = .ok (.iload_n 2, 1) := by decide +kernel
theorem dX7_plan_6 : decode cX7_plan 6 = .ok (.ifCond .ne 8, 3) := by decide +kernel
theorem dX7_plan_9 : decode cX7_plan 9 = .ok (.aload_n 0, 1) := by decide +kernel
theorem dX7_plan_10 : decode cX7_plan 10 = .ok (.getfield 58, 3) := by decide +kernel
theorem dX7_plan_13 : decode cX7_plan 13 = .ok (.ireturn, 1) := by decide +kernel
theorem dX7_plan_14 : decode cX7_plan 14 = .ok (.iload_n 1, 1) := by decide +kernel
theorem dX7_plan_15 : decode cX7_plan 15 = .ok (.ifCond .lt 11, 3) := by decide +kernel
theorem dX7_plan_18 : decode cX7_plan 18 = .ok (.iload_n 1, 1) := by decide +kernel
theorem dX7_plan_19 : decode cX7_plan 19 = .ok (.aload_n 0, 1) := by decide +kernel
theorem dX7_plan_20 : decode cX7_plan 20 = .ok (.getfield 58, 3) := by decide +kernel
theorem dX7_plan_23 : decode cX7_plan 23 = .ok (.if_icmp .lt 5, 3) := by decide +kernel
theorem dX7_plan_26 : decode cX7_plan 26 = .ok (.iconst (-1), 1) := by decide +kernel
theorem dX7_plan_27 : decode cX7_plan 27 = .ok (.ireturn, 1) := by decide +kernel
theorem dX7_plan_28 : decode cX7_plan 28 = .ok (.iload_n 2, 1) := by decide +kernel
theorem dX7_plan_29 : decode cX7_plan 29 = .ok (.ifCond .ne 14, 3) := by decide +kernel
theorem dX7_plan_32 : decode cX7_plan 32 = .ok (.aload_n 0, 1) := by decide +kernel
theorem dX7_plan_33 : decode cX7_plan 33 = .ok (.getfield 62, 3) := by decide +kernel
theorem dX7_plan_36 : decode cX7_plan 36 = .ok (.iload_n 1, 1) := by decide +kernel
theorem dX7_plan_37 : decode cX7_plan 37 = .ok (.iaload, 1) := by decide +kernel
theorem dX7_plan_38 : decode cX7_plan 38 = .ok (.sipush 512, 3) := by decide +kernel
theorem dX7_plan_41 : decode cX7_plan 41 = .ok (.idiv, 1) := by decide +kernel
theorem dX7_plan_42 : decode cX7_plan 42 = .ok (.ireturn, 1) := by decide +kernel
theorem dX7_plan_43 : decode cX7_plan 43 = .ok (.iload_n 2, 1) := by decide +kernel
theorem dX7_plan_44 : decode cX7_plan 44 = .ok (.iconst 1, 1) := by decide +kernel
theorem dX7_plan_45 : decode cX7_plan 45 = .ok (.if_icmp .ne 16, 3) := by decide +kernel
theorem dX7_plan_48 : decode cX7_plan 48 = .ok (.aload_n 0, 1) := by decide +kernel
theorem dX7_plan_49 : decode cX7_plan 49 = .ok (.getfield 62, 3) := by decide +kernel
theorem dX7_plan_52 : decode cX7_plan 52 = .ok (.iload_n 1, 1) := by decide +kernel
theorem dX7_plan_53 : decode cX7_plan 53 = .ok (.iaload, 1) := by decide +kernel
theorem dX7_plan_54 : decode cX7_plan 54 = .ok (.bipush 32, 2) := by decide +kernel
theorem dX7_plan_56 : decode cX7_plan 56 = .ok (.idiv, 1) := by decide +kernel
theorem dX7_plan_57 : decode cX7_plan 57 = .ok (.bipush 16, 2) := by decide +kernel
theorem dX7_plan_59 : decode cX7_plan 59 = .ok (.irem, 1) := by decide +kernel
theorem dX7_plan_60 : decode cX7_plan 60 = .ok (.ireturn, 1) := by decide +kernel
theorem dX7_plan_61 : decode cX7_plan 61 = .ok (.iload_n 2, 1) := by decide +kernel
theorem dX7_plan_62 : decode cX7_plan 62 = .ok (.iconst 2, 1) := by decide +kernel
theorem dX7_plan_63 : decode cX7_plan 63 = .ok (.if_icmp .ne 29, 3) := by decide +kernel
theorem dX7_plan_66 : decode cX7_plan 66 = .ok (.aload_n 0, 1) := by decide +kernel
theorem dX7_plan_67 : decode cX7_plan 67 = .ok (.getfield 62, 3) := by decide +kernel
theorem dX7_plan_70 : decode cX7_plan 70 = .ok (.iload_n 1, 1) := by decide +kernel
theorem dX7_plan_71 : decode cX7_plan 71 = .ok (.iaload, 1) := by decide +kernel
theorem dX7_plan_72 : decode cX7_plan 72 = .ok (.bipush 32, 2) := by decide +kernel
theorem dX7_plan_74 : decode cX7_plan 74 = .ok (.irem, 1) := by decide +kernel
theorem dX7_plan_75 : decode cX7_plan 75 = .ok (.bipush 31, 2) := by decide +kernel
theorem dX7_plan_77 : decode cX7_plan 77 = .ok (.if_icmp .eq 15, 3) := by decide +kernel
theorem dX7_plan_80 : decode cX7_plan 80 = .ok (.aload_n 0, 1) := by decide +kernel
theorem dX7_plan_81 : decode cX7_plan 81 = .ok (.getfield 62, 3) := by decide +kernel
theorem dX7_plan_84 : decode cX7_plan 84 = .ok (.iload_n 1, 1) := by decide +kernel
theorem dX7_plan_85 : decode cX7_plan 85 = .ok (.iaload, 1) := by decide +kernel
theorem dX7_plan_86 : decode cX7_plan 86 = .ok (.bipush 32, 2) := by decide +kernel
theorem dX7_plan_88 : decode cX7_plan 88 = .ok (.irem, 1) := by decide +kernel
theorem dX7_plan_89 : decode cX7_plan 89 = .ok (.goto 4, 3) := by decide +kernel
theorem dX7_plan_92 : decode cX7_plan 92 = .ok (.iconst (-1), 1) := by decide +kernel
theorem dX7_plan_93 : decode cX7_plan 93 = .ok (.ireturn, 1) := by decide +kernel
theorem dX7_witness_0 : decode cX7_witness 0 = .ok (.aload_n 0, 1) := by decide +kernel
theorem dX7_witness_1 : decode cX7_witness 1 = .ok (.iload_n 1, 1) := by decide +kernel
theorem dX7_witness_2 : decode cX7_witness 2 = .ok (.invokevirtual 181, 3) := by decide +kernel
theorem dX7_witness_5 : decode cX7_witness 5 = .ok (.ifCond .eq 13, 3) := by decide +kernel
theorem dX7_witness_8 : decode cX7_witness 8 = .ok (.iload_n 2, 1) := by decide +kernel
theorem dX7_witness_9 : decode cX7_witness 9 = .ok (.iconst 1, 1) := by decide +kernel
theorem dX7_witness_10 : decode cX7_witness 10 = .ok (.if_icmp .lt 8, 3) := by decide +kernel
theorem dX7_witness_13 : decode cX7_witness 13 = .ok (.iload_n 2, 1) := by decide +kernel
theorem dX7_witness_14 : decode cX7_witness 14 = .ok (.iconst 3, 1) := by decide +kernel
theorem dX7_witness_15 : decode cX7_witness 15 = .ok (.if_icmp .le 5, 3) := by decide +kernel
theorem dX7_witness_18 : decode cX7_witness 18 = .ok (.iconst (-1), 1) := by decide +kernel
theorem dX7_witness_19 : decode cX7_witness 19 = .ok (.ireturn, 1) := by decide +kernel
theorem dX7_witness_20 : decode cX7_witness 20 = .ok (.aload_n 0, 1) := by decide +kernel
theorem dX7_witness_21 : decode cX7_witness 21 = .ok (.iload_n 1, 1) := by decide +kernel
theorem dX7_witness_22 : decode cX7_witness 22 = .ok (.iload_n 2, 1) := by decide +kernel
theorem dX7_witness_23 : decode cX7_witness 23 = .ok (.invokevirtual 184, 3) := by decide +kernel
theorem dX7_witness_26 : decode cX7_witness 26 = .ok (.iconst (-1), 1) := by decide +kernel
theorem dX7_witness_27 : decode cX7_witness 27 = .ok (.if_icmp .ne 10, 3) := by decide +kernel
theorem dX7_witness_30 : decode cX7_witness 30 = .ok (.aload_n 0, 1) := by decide +kernel
theorem dX7_witness_31 : decode cX7_witness 31 = .ok (.getfield 159, 3) := by decide +kernel
theorem dX7_witness_34 : decode cX7_witness 34 = .ok (.goto 5, 3) := by decide +kernel
theorem dX7_witness_37 : decode cX7_witness 37 = .ok (.bipush (-2), 2) := by decide +kernel
theorem dX7_witness_39 : decode cX7_witness 39 = .ok (.ireturn, 1) := by decide +kernel
theorem dX7_judge_0 : decode cX7_judge 0 = .ok (.iload_n 1, 1) := by decide +kernel
theorem dX7_judge_1 : decode cX7_judge 1 = .ok (.ifCond .lt 15, 3) := by decide +kernel
theorem dX7_judge_4 : decode cX7_judge 4 = .ok (.iload_n 1, 1) := by decide +kernel
theorem dX7_judge_5 : decode cX7_judge 5 = .ok (.iconst 2, 1) := by decide +kernel
theorem dX7_judge_6 : decode cX7_judge 6 = .ok (.if_icmp .gt 10, 3) := by decide +kernel
theorem dX7_judge_9 : decode cX7_judge 9 = .ok (.aload_n 0, 1) := by decide +kernel
theorem dX7_judge_10 : decode cX7_judge 10 = .ok (.getfield 68, 3) := by decide +kernel
theorem dX7_judge_13 : decode cX7_judge 13 = .ok (.ifCond .ne 5, 3) := by decide +kernel
theorem dX7_judge_16 : decode cX7_judge 16 = .ok (.iconst (-1), 1) := by decide +kernel
theorem dX7_judge_17 : decode cX7_judge 17 = .ok (.ireturn, 1) := by decide +kernel
theorem dX7_judge_18 : decode cX7_judge 18 = .ok (.aload_n 0, 1) := by decide +kernel
theorem dX7_judge_19 : decode cX7_judge 19 = .ok (.getfield 107, 3) := by decide +kernel
theorem dX7_judge_22 : decode cX7_judge 22 = .ok (.ifCond .eq 27, 3) := by decide +kernel
theorem dX7_judge_25 : decode cX7_judge 25 = .ok (.aload_n 0, 1) := by decide +kernel
theorem dX7_judge_26 : decode cX7_judge 26 = .ok (.getfield 38, 3) := by decide +kernel
theorem dX7_judge_29 : decode cX7_judge 29 = .ok (.aload_n 0, 1) := by decide +kernel
theorem dX7_judge_30 : decode cX7_judge 30 = .ok (.getfield 107, 3) := by decide +kernel
theorem dX7_judge_33 : decode cX7_judge 33 = .ok (.iaload, 1) := by decide +kernel
theorem dX7_judge_34 : decode cX7_judge 34 = .ok (.ifCond .ne 15, 3) := by decide +kernel
theorem dX7_judge_37 : decode cX7_judge 37 = .ok (.aload_n 0, 1) := by decide +kernel
theorem dX7_judge_38 : decode cX7_judge 38 = .ok (.getfield 41, 3) := by decide +kernel
theorem dX7_judge_41 : decode cX7_judge 41 = .ok (.aload_n 0, 1) := by decide +kernel
theorem dX7_judge_42 : decode cX7_judge 42 = .ok (.getfield 107, 3) := by decide +kernel
theorem dX7_judge_45 : decode cX7_judge 45 = .ok (.iaload, 1) := by decide +kernel
theorem dX7_judge_46 : decode cX7_judge 46 = .ok (.ifCond .eq 5, 3) := by decide +kernel
