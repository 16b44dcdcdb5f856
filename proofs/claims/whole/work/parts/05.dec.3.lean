theorem dX7_passage_43 : decode cX7_passage 43 = .ok (.istore_n 3, 1) := by decide +kernel
theorem dX7_passage_44 : decode cX7_passage 44 = .ok (.goto (-19), 3) := by decide +kernel
theorem dX7_passage_47 : decode cX7_passage 47 = .ok (.iload_n 3, 1) := by decide +kernel
theorem dX7_passage_48 : decode cX7_passage 48 = .ok (.bipush 18, 2) := by decide +kernel
theorem dX7_passage_50 : decode cX7_passage 50 = .ok (.if_icmp .ne 5, 3) := by decide +kernel
theorem dX7_passage_53 : decode cX7_passage 53 = .ok (.iconst (-1), 1) := by decide +kernel
theorem dX7_passage_54 : decode cX7_passage 54 = .ok (.ireturn, 1) := by decide +kernel
theorem dX7_passage_55 : decode cX7_passage 55 = .ok (.aload_n 0, 1) := by decide +kernel
theorem dX7_passage_56 : decode cX7_passage 56 = .ok (.getfield 16, 3) := by decide +kernel
theorem dX7_passage_59 : decode cX7_passage 59 = .ok (.iload_n 3, 1) := by decide +kernel
theorem dX7_passage_60 : decode cX7_passage 60 = .ok (.iconst 1, 1) := by decide +kernel
theorem dX7_passage_61 : decode cX7_passage 61 = .ok (.bastore, 1) := by decide +kernel
theorem dX7_passage_62 : decode cX7_passage 62 = .ok (.aload_n 0, 1) := by decide +kernel
theorem dX7_passage_63 : decode cX7_passage 63 = .ok (.getfield 7, 3) := by decide +kernel
theorem dX7_passage_66 : decode cX7_passage 66 = .ok (.iload_n 3, 1) := by decide +kernel
theorem dX7_passage_67 : decode cX7_passage 67 = .ok (.iload_n 1, 1) := by decide +kernel
theorem dX7_passage_68 : decode cX7_passage 68 = .ok (.iload_n 2, 1) := by decide +kernel
theorem dX7_passage_69 : decode cX7_passage 69 = .ok (.if_icmp .ge 7, 3) := by decide +kernel
theorem dX7_passage_72 : decode cX7_passage 72 = .ok (.iload_n 1, 1) := by decide +kernel
theorem dX7_passage_73 : decode cX7_passage 73 = .ok (.goto 4, 3) := by decide +kernel
theorem dX7_passage_76 : decode cX7_passage 76 = .ok (.iload_n 2, 1) := by decide +kernel
theorem dX7_passage_77 : decode cX7_passage 77 = .ok (.iastore, 1) := by decide +kernel
theorem dX7_passage_78 : decode cX7_passage 78 = .ok (.aload_n 0, 1) := by decide +kernel
theorem dX7_passage_79 : decode cX7_passage 79 = .ok (.getfield 13, 3) := by decide +kernel
theorem dX7_passage_82 : decode cX7_passage 82 = .ok (.iload_n 3, 1) := by decide +kernel
theorem dX7_passage_83 : decode cX7_passage 83 = .ok (.iload_n 1, 1) := by decide +kernel
theorem dX7_passage_84 : decode cX7_passage 84 = .ok (.iload_n 2, 1) := by decide +kernel
theorem dX7_passage_85 : decode cX7_passage 85 = .ok (.if_icmp .ge 7, 3) := by decide +kernel
theorem dX7_passage_88 : decode cX7_passage 88 = .ok (.iload_n 2, 1) := by decide +kernel
theorem dX7_passage_89 : decode cX7_passage 89 = .ok (.goto 4, 3) := by decide +kernel
theorem dX7_passage_92 : decode cX7_passage 92 = .ok (.iload_n 1, 1) := by decide +kernel
theorem dX7_passage_93 : decode cX7_passage 93 = .ok (.iastore, 1) := by decide +kernel
theorem dX7_passage_94 : decode cX7_passage 94 = .ok (.aload_n 0, 1) := by decide +kernel
theorem dX7_passage_95 : decode cX7_passage 95 = .ok (.invokevirtual 77, 3) := by decide +kernel
theorem dX7_passage_98 : decode cX7_passage 98 = .ok (.iload_n 3, 1) := by decide +kernel
theorem dX7_passage_99 : decode cX7_passage 99 = .ok (.ireturn, 1) := by decide +kernel
theorem dX7_drop_0 : decode cX7_drop 0 = .ok (.aload_n 0, 1) := by decide +kernel
theorem dX7_drop_1 : decode cX7_drop 1 = .ok (.iload_n 1, 1) := by decide +kernel
theorem dX7_drop_2 : decode cX7_drop 2 = .ok (.invokevirtual 84, 3) := by decide +kernel
theorem dX7_drop_5 : decode cX7_drop 5 = .ok (.ifCond .ne 5, 3) := by decide +kernel
theorem dX7_drop_8 : decode cX7_drop 8 = .ok (.iconst 0, 1) := by decide +kernel
theorem dX7_drop_9 : decode cX7_drop 9 = .ok (.ireturn, 1) := by decide +kernel
theorem dX7_drop_10 : decode cX7_drop 10 = .ok (.aload_n 0, 1) := by decide +kernel
theorem dX7_drop_11 : decode cX7_drop 11 = .ok (.getfield 16, 3) := by decide +kernel
theorem dX7_drop_14 : decode cX7_drop 14 = .ok (.iload_n 1, 1) := by decide +kernel
theorem dX7_drop_15 : decode cX7_drop 15 = .ok (.iconst 0, 1) := by decide +kernel
theorem dX7_drop_16 : decode cX7_drop 16 = .ok (.bastore, 1) := by decide +kernel
theorem dX7_drop_17 : decode cX7_drop 17 = .ok (.aload_n 0, 1) := by decide +kernel
theorem dX7_drop_18 : decode cX7_drop 18 = .ok (.invokevirtual 77, 3) := by decide +kernel
theorem dX7_drop_21 : decode cX7_drop 21 = .ok (.iconst 1, 1) := by decide +kernel
theorem dX7_drop_22 : decode cX7_drop 22 = .ok (.ireturn, 1) := by decide +kernel
theorem dX7_mouth_0 : decode cX7_mouth 0 = .ok (.aload_n 0, 1) := by decide +kernel
theorem dX7_mouth_1 : decode cX7_mouth 1 = .ok (.iload_n 1, 1) := by decide +kernel
theorem dX7_mouth_2 : decode cX7_mouth 2 = .ok (.invokevirtual 80, 3) := by decide +kernel
theorem dX7_mouth_5 : decode cX7_mouth 5 = .ok (.ifCond .ne 5, 3) := by decide +kernel
theorem dX7_mouth_8 : decode cX7_mouth 8 = .ok (.iconst 0, 1) := by decide +kernel
theorem dX7_mouth_9 : decode cX7_mouth 9 = .ok (.ireturn, 1) := by decide +kernel
theorem dX7_mouth_10 : decode cX7_mouth 10 = .ok (.aload_n 0, 1) := by decide +kernel
theorem dX7_mouth_11 : decode cX7_mouth 11 = .ok (.iload_n 1, 1) := by decide +kernel
theorem dX7_mouth_12 : decode cX7_mouth 12 = .ok (.putfield 74, 3) := by decide +kernel
theorem dX7_mouth_15 : decode cX7_mouth 15 = .ok (.iconst 1, 1) := by decide +kernel
theorem dX7_mouth_16 : decode cX7_mouth 16 = .ok (.ireturn, 1) := by decide +kernel
theorem dX7_pieces_0 : decode cX7_pieces 0 = .ok (.iconst 1, 1) := by decide +kernel
theorem dX7_pieces_1 : decode cX7_pieces 1 = .ok (.aload_n 0, 1) := by decide +kernel
theorem dX7_pieces_2 : decode cX7_pieces 2 = .ok (.getfield 68, 3) := by decide +kernel
theorem dX7_pieces_5 : decode cX7_pieces 5 = .ok (.ishl, 1) := by decide +kernel
theorem dX7_pieces_6 : decode cX7_pieces 6 = .ok (.iconst 1, 1) := by decide +kernel
theorem dX7_pieces_7 : decode cX7_pieces 7 = .ok (.isub, 1) := by decide +kernel
theorem dX7_pieces_8 : decode cX7_pieces 8 = .ok (.istore_n 1, 1) := by decide +kernel
theorem dX7_pieces_9 : decode cX7_pieces 9 = .ok (.iconst 0, 1) := by decide +kernel
theorem dX7_pieces_10 : decode cX7_pieces 10 = .ok (.istore_n 2, 1) := by decide +kernel
theorem dX7_pieces_11 : decode cX7_pieces 11 = .ok (.iload_n 1, 1) := by decide +kernel
theorem dX7_pieces_12 : decode cX7_pieces 12 = .ok (.ifCond .eq 40, 3) := by decide +kernel
theorem dX7_pieces_15 : decode cX7_pieces 15 = .ok (.iconst 0, 1) := by decide +kernel
theorem dX7_pieces_16 : decode cX7_pieces 16 = .ok (.istore_n 3, 1) := by decide +kernel
theorem dX7_pieces_17 : decode cX7_pieces 17 = .ok (.iload_n 1, 1) := by decide +kernel
theorem dX7_pieces_18 : decode cX7_pieces 18 = .ok (.iload_n 3, 1) := by decide +kernel
theorem dX7_pieces_19 : decode cX7_pieces 19 = .ok (.ishr, 1) := by decide +kernel
theorem dX7_pieces_20 : decode cX7_pieces 20 = .ok (.iconst 1, 1) := by decide +kernel
theorem dX7_pieces_21 : decode cX7_pieces 21 = .ok (.iand, 1) := by decide +kernel
theorem dX7_pieces_22 : decode cX7_pieces 22 = .ok (.ifCond .ne 10, 3) := by decide +kernel
theorem dX7_pieces_25 : decode cX7_pieces 25 = .ok (.iload_n 3, 1) := by decide +kernel
theorem dX7_pieces_26 : decode cX7_pieces 26 = .ok (.iconst 1, 1) := by decide +kernel
theorem dX7_pieces_27 : decode cX7_pieces 27 = .ok (.iadd, 1) := by decide +kernel
theorem dX7_pieces_28 : decode cX7_pieces 28 = .ok (.istore_n 3, 1) := by decide +kernel
theorem dX7_pieces_29 : decode cX7_pieces 29 = .ok (.goto (-12), 3) := by decide +kernel
theorem dX7_pieces_32 : decode cX7_pieces 32 = .ok (.iload_n 1, 1) := by decide +kernel
theorem dX7_pieces_33 : decode cX7_pieces 33 = .ok (.aload_n 0, 1) := by decide +kernel
theorem dX7_pieces_34 : decode cX7_pieces 34 = .ok (.iconst 1, 1) := by decide +kernel
theorem dX7_pieces_35 : decode cX7_pieces 35 = .ok (.iload_n 3, 1) := by decide +kernel
theorem dX7_pieces_36 : decode cX7_pieces 36 = .ok (.ishl, 1) := by decide +kernel
theorem dX7_pieces_37 : decode cX7_pieces 37 = .ok (.iconst (-1), 1) := by decide +kernel
theorem dX7_pieces_38 : decode cX7_pieces 38 = .ok (.invokevirtual 87, 3) := by decide +kernel
theorem dX7_pieces_41 : decode cX7_pieces 41 = .ok (.iconst (-1), 1) := by decide +kernel
theorem dX7_pieces_42 : decode cX7_pieces 42 = .ok (.ixor, 1) := by decide +kernel
theorem dX7_pieces_43 : decode cX7_pieces 43 = .ok (.iand, 1) := by decide +kernel
theorem dX7_pieces_44 : decode cX7_pieces 44 = .ok (.istore_n 1, 1) := by decide +kernel
theorem dX7_pieces_45 : decode cX7_pieces 45 = .ok (.iload_n 2, 1) := by decide +kernel
theorem dX7_pieces_46 : decode cX7_pieces 46 = .ok (.iconst 1, 1) := by decide +kernel
theorem dX7_pieces_47 : decode cX7_pieces 47 = .ok (.iadd, 1) := by decide +kernel
theorem dX7_pieces_48 : decode cX7_pieces 48 = .ok (.istore_n 2, 1) := by decide +kernel
theorem dX7_pieces_49 : decode cX7_pieces 49 = .ok (.goto (-38), 3) := by decide +kernel
theorem dX7_pieces_52 : decode cX7_pieces 52 = .ok (.iload_n 2, 1) := by decide +kernel
theorem dX7_pieces_53 : decode cX7_pieces 53 = .ok (.ireturn, 1) := by decide +kernel
theorem dX7_reached_0 : decode cX7_reached 0 = .ok (.iload_n 1, 1) := by decide +kernel
theorem dX7_reached_1 : decode cX7_reached 1 = .ok (.istore_n 3, 1) := by decide +kernel
theorem dX7_reached_2 : decode cX7_reached 2 = .ok (.iconst 1, 1) := by decide +kernel
theorem dX7_reached_3 : decode cX7_reached 3 = .ok (.istore 4, 2) := by decide +kernel
theorem dX7_reached_5 : decode cX7_reached 5 = .ok (.iload 4, 2) := by decide +kernel
theorem dX7_reached_7 : decode cX7_reached 7 = .ok (.ifCond .eq 112, 3) := by decide +kernel
theorem dX7_reached_10 : decode cX7_reached 10 = .ok (.iload_n 3, 1) := by decide +kernel
theorem dX7_reached_11 : decode cX7_reached 11 = .ok (.istore 5, 2) := by decide +kernel
theorem dX7_reached_13 : decode cX7_reached 13 = .ok (.iconst 0, 1) := by decide +kernel
theorem dX7_reached_14 : decode cX7_reached 14 = .ok (.istore 6, 2) := by decide +kernel
theorem dX7_reached_16 : decode cX7_reached 16 = .ok (.iload 6, 2) := by decide +kernel
theorem dX7_reached_18 : decode cX7_reached 18 = .ok (.bipush 18, 2) := by decide +kernel
theorem dX7_reached_20 : decode cX7_reached 20 = .ok (.if_icmp .ge 83, 3) := by decide +kernel
theorem dX7_reached_23 : decode cX7_reached 23 = .ok (.aload_n 0, 1) := by decide +kernel
theorem dX7_reached_24 : decode cX7_reached 24 = .ok (.getfield 16, 3) := by decide +kernel
theorem dX7_reached_27 : decode cX7_reached 27 = .ok (.iload 6, 2) := by decide +kernel
theorem dX7_reached_29 : decode cX7_reached 29 = .ok (.baload, 1) := by decide +kernel
theorem dX7_reached_30 : decode cX7_reached 30 = .ok (.ifCond .eq 67, 3) := by decide +kernel
theorem dX7_reached_33 : decode cX7_reached 33 = .ok (.iload_n 2, 1) := by decide +kernel
theorem dX7_reached_34 : decode cX7_reached 34 = .ok (.iload 6, 2) := by decide +kernel
theorem dX7_reached_36 : decode cX7_reached 36 = .ok (.ishr, 1) := by decide +kernel
theorem dX7_reached_37 : decode cX7_reached 37 = .ok (.iconst 1, 1) := by decide +kernel
theorem dX7_reached_38 : decode cX7_reached 38 = .ok (.iand, 1) := by decide +kernel
theorem dX7_reached_39 : decode cX7_reached 39 = .ok (.ifCond .ne 6, 3) := by decide +kernel
theorem dX7_reached_42 : decode cX7_reached 42 = .ok (.goto 55, 3) := by decide +kernel
theorem dX7_reached_45 : decode cX7_reached 45 = .ok (.iload_n 3, 1) := by decide +kernel
theorem dX7_reached_46 : decode cX7_reached 46 = .ok (.aload_n 0, 1) := by decide +kernel
theorem dX7_reached_47 : decode cX7_reached 47 = .ok (.getfield 7, 3) := by decide +kernel
theorem dX7_reached_50 : decode cX7_reached 50 = .ok (.iload 6, 2) := by decide +kernel
theorem dX7_reached_52 : decode cX7_reached 52 = .ok (.iaload, 1) := by decide +kernel
theorem dX7_reached_53 : decode cX7_reached 53 = .ok (.ishr, 1) := by decide +kernel
theorem dX7_reached_54 : decode cX7_reached 54 = .ok (.iconst 1, 1) := by decide +kernel
theorem dX7_reached_55 : decode cX7_reached 55 = .ok (.iand, 1) := by decide +kernel
theorem dX7_reached_56 : decode cX7_reached 56 = .ok (.iconst 1, 1) := by decide +kernel
theorem dX7_reached_57 : decode cX7_reached 57 = .ok (.if_icmp .eq 18, 3) := by decide +kernel
theorem dX7_reached_60 : decode cX7_reached 60 = .ok (.iload_n 3, 1) := by decide +kernel
theorem dX7_reached_61 : decode cX7_reached 61 = .ok (.aload_n 0, 1) := by decide +kernel
theorem dX7_reached_62 : decode cX7_reached 62 = .ok (.getfield 13, 3) := by decide +kernel
theorem dX7_reached_65 : decode cX7_reached 65 = .ok (.iload 6, 2) := by decide +kernel
theorem dX7_reached_67 : decode cX7_reached 67 = .ok (.iaload, 1) := by decide +kernel
theorem dX7_reached_68 : decode cX7_reached 68 = .ok (.ishr, 1) := by decide +kernel
theorem dX7_reached_69 : decode cX7_reached 69 = .ok (.iconst 1, 1) := by decide +kernel
theorem dX7_reached_70 : decode cX7_reached 70 = .ok (.iand, 1) := by decide +kernel
theorem dX7_reached_71 : decode cX7_reached 71 = .ok (.iconst 1, 1) := by decide +kernel
theorem dX7_reached_72 : decode cX7_reached 72 = .ok (.if_icmp .ne 25, 3) := by decide +kernel
theorem dX7_reached_75 : decode cX7_reached 75 = .ok (.iload_n 3, 1) := by decide +kernel
theorem dX7_reached_76 : decode cX7_reached 76 = .ok (.iconst 1, 1) := by decide +kernel
theorem dX7_reached_77 : decode cX7_reached 77 = .ok (.aload_n 0, 1) := by decide +kernel
theorem dX7_reached_78 : decode cX7_reached 78 = .ok (.getfield 7, 3) := by decide +kernel
theorem dX7_reached_81 : decode cX7_reached 81 = .ok (.iload 6, 2) := by decide +kernel
theorem dX7_reached_83 : decode cX7_reached 83 = .ok (.iaload, 1) := by decide +kernel
theorem dX7_reached_84 : decode cX7_reached 84 = .ok (.ishl, 1) := by decide +kernel
theorem dX7_reached_85 : decode cX7_reached 85 = .ok (.ior, 1) := by decide +kernel
theorem dX7_reached_86 : decode cX7_reached 86 = .ok (.iconst 1, 1) := by decide +kernel
theorem dX7_reached_87 : decode cX7_reached 87 = .ok (.aload_n 0, 1) := by decide +kernel
theorem dX7_reached_88 : decode cX7_reached 88 = .ok (.getfield 13, 3) := by decide +kernel
theorem dX7_reached_91 : decode cX7_reached 91 = .ok (.iload 6, 2) := by decide +kernel
theorem dX7_reached_93 : decode cX7_reached 93 = .ok (.iaload, 1) := by decide +kernel
theorem dX7_reached_94 : decode cX7_reached 94 = .ok (.ishl, 1) := by decide +kernel
theorem dX7_reached_95 : decode cX7_reached 95 = .ok (.ior, 1) := by decide +kernel
theorem dX7_reached_96 : decode cX7_reached 96 = .ok (.istore_n 3, 1) := by decide +kernel
theorem dX7_reached_97 : decode cX7_reached 97 = .ok (.iinc 6 1, 3) := by decide +kernel
theorem dX7_reached_100 : decode cX7_reached 100 = .ok (.goto (-84), 3) := by decide +kernel
theorem dX7_reached_103 : decode cX7_reached 103 = .ok (.iload_n 3, 1) := by decide +kernel
theorem dX7_reached_104 : decode cX7_reached 104 = .ok (.iload 5, 2) := by decide +kernel
theorem dX7_reached_106 : decode cX7_reached 106 = .ok (.if_icmp .eq 7, 3) := by decide +kernel
theorem dX7_reached_109 : decode cX7_reached 109 = .ok (.iconst 1, 1) := by decide +kernel
theorem dX7_reached_110 : decode cX7_reached 110 = .ok (.goto 4, 3) := by decide +kernel
theorem dX7_reached_113 : decode cX7_reached 113 = .ok (.iconst 0, 1) := by decide +kernel
theorem dX7_reached_114 : decode cX7_reached 114 = .ok (.istore 4, 2) := by decide +kernel
theorem dX7_reached_116 : decode cX7_reached 116 = .ok (.goto (-111), 3) := by decide +kernel
theorem dX7_reached_119 : decode cX7_reached 119 = .ok (.iload_n 3, 1) := by decide +kernel
theorem dX7_reached_120 : decode cX7_reached 120 = .ok (.ireturn, 1) := by decide +kernel
theorem dX7_begins_0 : decode cX7_begins 0 = .ok (.iconst 0, 1) := by decide +kernel
theorem dX7_begins_1 : decode cX7_begins 1 = .ok (.istore_n 1, 1) := by decide +kernel
theorem dX7_begins_2 : decode cX7_begins 2 = .ok (.iload_n 1, 1) := by decide +kernel
theorem dX7_begins_3 : decode cX7_begins 3 = .ok (.bipush 12, 2) := by decide +kernel
theorem dX7_begins_5 : decode cX7_begins 5 = .ok (.if_icmp .ge 16, 3) := by decide +kernel
theorem dX7_begins_8 : decode cX7_begins 8 = .ok (.aload_n 0, 1) := by decide +kernel
theorem dX7_begins_9 : decode cX7_begins 9 = .ok (.getfield 23, 3) := by decide +kernel
theorem dX7_begins_12 : decode cX7_begins 12 = .ok (.iload_n 1, 1) := by decide +kernel
theorem dX7_begins_13 : decode cX7_begins 13 = .ok (.iconst 0, 1) := by decide +kernel
theorem dX7_begins_14 : decode cX7_begins 14 = .ok (.iastore, 1) := by decide +kernel
theorem dX7_begins_15 : decode cX7_begins 15 = .ok (.iinc 1 1, 3) := by decide +kernel
theorem dX7_begins_18 : decode cX7_begins 18 = .ok (.goto (-16), 3) := by decide +kernel
theorem dX7_begins_21 : decode cX7_begins 21 = .ok (.aload_n 0, 1) := by decide +kernel
theorem dX7_begins_22 : decode cX7_begins 22 = .ok (.iconst 1, 1) := by decide +kernel
theorem dX7_begins_23 : decode cX7_begins 23 = .ok (.aload_n 0, 1) := by decide +kernel
theorem dX7_begins_24 : decode cX7_begins 24 = .ok (.getfield 68, 3) := by decide +kernel
theorem dX7_begins_27 : decode cX7_begins 27 = .ok (.ishl, 1) := by decide +kernel
theorem dX7_begins_28 : decode cX7_begins 28 = .ok (.iconst 1, 1) := by decide +kernel
theorem dX7_begins_29 : decode cX7_begins 29 = .ok (.isub, 1) := by decide +kernel
theorem dX7_begins_30 : decode cX7_begins 30 = .ok (.putfield 91, 3) := by decide +kernel
theorem dX7_begins_33 : decode cX7_begins 33 = .ok (.aload_n 0, 1) := by decide +kernel
theorem dX7_begins_34 : decode cX7_begins 34 = .ok (.iconst 0, 1) := by decide +kernel
theorem dX7_begins_35 : decode cX7_begins 35 = .ok (.putfield 94, 3) := by decide +kernel
theorem dX7_begins_38 : decode cX7_begins 38 = .ok (.iconst 0, 1) := by decide +kernel
theorem dX7_begins_39 : decode cX7_begins 39 = .ok (.istore_n 1, 1) := by decide +kernel
theorem dX7_begins_40 : decode cX7_begins 40 = .ok (.iload_n 1, 1) := by decide +kernel
theorem dX7_begins_41 : decode cX7_begins 41 = .ok (.bipush 18, 2) := by decide +kernel
theorem dX7_begins_43 : decode cX7_begins 43 = .ok (.if_icmp .ge 30, 3) := by decide +kernel
theorem dX7_begins_46 : decode cX7_begins 46 = .ok (.aload_n 0, 1) := by decide +kernel
theorem dX7_begins_47 : decode cX7_begins 47 = .ok (.getfield 16, 3) := by decide +kernel
theorem dX7_begins_50 : decode cX7_begins 50 = .ok (.iload_n 1, 1) := by decide +kernel
theorem dX7_begins_51 : decode cX7_begins 51 = .ok (.baload, 1) := by decide +kernel
theorem dX7_begins_52 : decode cX7_begins 52 = .ok (.ifCond .eq 15, 3) := by decide +kernel
theorem dX7_begins_55 : decode cX7_begins 55 = .ok (.aload_n 0, 1) := by decide +kernel
theorem dX7_begins_56 : decode cX7_begins 56 = .ok (.aload_n 0, 1) := by decide +kernel
theorem dX7_begins_57 : decode cX7_begins 57 = .ok (.getfield 94, 3) := by decide +kernel
theorem dX7_begins_60 : decode cX7_begins 60 = .ok (.iconst 1, 1) := by decide +kernel
theorem dX7_begins_61 : decode cX7_begins 61 = .ok (.iload_n 1, 1) := by decide +kernel
theorem dX7_begins_62 : decode cX7_begins 62 = .ok (.ishl, 1) := by decide +kernel
theorem dX7_begins_63 : decode cX7_begins 63 = .ok (.ior, 1) := by decide +kernel
theorem dX7_begins_64 : decode cX7_begins 64 = .ok (.putfield 94, 3) := by decide +kernel
theorem dX7_begins_67 : decode cX7_begins 67 = .ok (.iinc 1 1, 3) := by decide +kernel
theorem dX7_begins_70 : decode cX7_begins 70 = .ok (.goto (-30), 3) := by decide +kernel
theorem dX7_begins_73 : decode cX7_begins 73 = .ok (.return_, 1) := by decide +kernel
theorem dX7_below_0 : decode cX7_below 0 = .ok (.iconst 0, 1) := by decide +kernel
theorem dX7_below_1 : decode cX7_below 1 = .ok (.istore_n 1, 1) := by decide +kernel
theorem dX7_below_2 : decode cX7_below 2 = .ok (.iconst 0, 1) := by decide +kernel
theorem dX7_below_3 : decode cX7_below 3 = .ok (.istore_n 2, 1) := by decide +kernel
theorem dX7_below_4 : decode cX7_below 4 = .ok (.iload_n 2, 1) := by decide +kernel
theorem dX7_below_5 : decode cX7_below 5 = .ok (.aload_n 0, 1) := by decide +kernel
theorem dX7_below_6 : decode cX7_below 6 = .ok (.getfield 68, 3) := by decide +kernel
theorem dX7_below_9 : decode cX7_below 9 = .ok (.if_icmp .ge 18, 3) := by decide +kernel
theorem dX7_below_12 : decode cX7_below 12 = .ok (.iload_n 1, 1) := by decide +kernel
theorem dX7_below_13 : decode cX7_below 13 = .ok (.aload_n 0, 1) := by decide +kernel
theorem dX7_below_14 : decode cX7_below 14 = .ok (.getfield 23, 3) := by decide +kernel
theorem dX7_below_17 : decode cX7_below 17 = .ok (.iload_n 2, 1) := by decide +kernel
theorem dX7_below_18 : decode cX7_below 18 = .ok (.iaload, 1) := by decide +kernel
theorem dX7_below_19 : decode cX7_below 19 = .ok (.iadd, 1) := by decide +kernel
theorem dX7_below_20 : decode cX7_below 20 = .ok (.istore_n 1, 1) := by decide +kernel
theorem dX7_below_21 : decode cX7_below 21 = .ok (.iinc 2 1, 3) := by decide +kernel
theorem dX7_below_24 : decode cX7_below 24 = .ok (.goto (-20), 3) := by decide +kernel
theorem dX7_below_27 : decode cX7_below 27 = .ok (.iload_n 1, 1) := by decide +kernel
theorem dX7_below_28 : decode cX7_below 28 = .ok (.ireturn, 1) := by decide +kernel
theorem dX7_spreads_0 : decode cX7_spreads 0 = .ok (.iconst 1, 1) := by decide +kernel
theorem dX7_spreads_1 : decode cX7_spreads 1 = .ok (.istore_n 1, 1) := by decide +kernel
theorem dX7_spreads_2 : decode cX7_spreads 2 = .ok (.iload_n 1, 1) := by decide +kernel
theorem dX7_spreads_3 : decode cX7_spreads 3 = .ok (.ifCond .eq 255, 3) := by decide +kernel
theorem dX7_spreads_6 : decode cX7_spreads 6 = .ok (.aload_n 0, 1) := by decide +kernel
theorem dX7_spreads_7 : decode cX7_spreads 7 = .ok (.getfield 94, 3) := by decide +kernel
theorem dX7_spreads_10 : decode cX7_spreads 10 = .ok (.istore_n 2, 1) := by decide +kernel
theorem dX7_spreads_11 : decode cX7_spreads 11 = .ok (.aload_n 0, 1) := by decide +kernel
theorem dX7_spreads_12 : decode cX7_spreads 12 = .ok (.getfield 91, 3) := by decide +kernel
theorem dX7_spreads_15 : decode cX7_spreads 15 = .ok (.istore_n 3, 1) := by decide +kernel
theorem dX7_spreads_16 : decode cX7_spreads 16 = .ok (.iconst 0, 1) := by decide +kernel
theorem dX7_spreads_17 : decode cX7_spreads 17 = .ok (.istore 4, 2) := by decide +kernel
theorem dX7_spreads_19 : decode cX7_spreads 19 = .ok (.iload 4, 2) := by decide +kernel
theorem dX7_spreads_21 : decode cX7_spreads 21 = .ok (.aload_n 0, 1) := by decide +kernel
theorem dX7_spreads_22 : decode cX7_spreads 22 = .ok (.getfield 68, 3) := by decide +kernel
theorem dX7_spreads_25 : decode cX7_spreads 25 = .ok (.if_icmp .ge 34, 3) := by decide +kernel
theorem dX7_spreads_28 : decode cX7_spreads 28 = .ok (.aload_n 0, 1) := by decide +kernel
theorem dX7_spreads_29 : decode cX7_spreads 29 = .ok (.getfield 23, 3) := by decide +kernel
theorem dX7_spreads_32 : decode cX7_spreads 32 = .ok (.iload 4, 2) := by decide +kernel
theorem dX7_spreads_34 : decode cX7_spreads 34 = .ok (.iaload, 1) := by decide +kernel
theorem dX7_spreads_35 : decode cX7_spreads 35 = .ok (.ifCond .le 18, 3) := by decide +kernel
theorem dX7_spreads_38 : decode cX7_spreads 38 = .ok (.aload_n 0, 1) := by decide +kernel
theorem dX7_spreads_39 : decode cX7_spreads 39 = .ok (.aload_n 0, 1) := by decide +kernel
theorem dX7_spreads_40 : decode cX7_spreads 40 = .ok (.getfield 91, 3) := by decide +kernel
theorem dX7_spreads_43 : decode cX7_spreads 43 = .ok (.iconst 1, 1) := by decide +kernel
theorem dX7_spreads_44 : decode cX7_spreads 44 = .ok (.iload 4, 2) := by decide +kernel
theorem dX7_spreads_46 : decode cX7_spreads 46 = .ok (.ishl, 1) := by decide +kernel
theorem dX7_spreads_47 : decode cX7_spreads 47 = .ok (.iconst (-1), 1) := by decide +kernel
theorem dX7_spreads_48 : decode cX7_spreads 48 = .ok (.ixor, 1) := by decide +kernel
theorem dX7_spreads_49 : decode cX7_spreads 49 = .ok (.iand, 1) := by decide +kernel
theorem dX7_spreads_50 : decode cX7_spreads 50 = .ok (.putfield 91, 3) := by decide +kernel
theorem dX7_spreads_53 : decode cX7_spreads 53 = .ok (.iinc 4 1, 3) := by decide +kernel
theorem dX7_spreads_56 : decode cX7_spreads 56 = .ok (.goto (-37), 3) := by decide +kernel
theorem dX7_spreads_59 : decode cX7_spreads 59 = .ok (.iconst 0, 1) := by decide +kernel
theorem dX7_spreads_60 : decode cX7_spreads 60 = .ok (.istore 4, 2) := by decide +kernel
theorem dX7_spreads_62 : decode cX7_spreads 62 = .ok (.iload 4, 2) := by decide +kernel
theorem dX7_spreads_64 : decode cX7_spreads 64 = .ok (.bipush 18, 2) := by decide +kernel
theorem dX7_spreads_66 : decode cX7_spreads 66 = .ok (.if_icmp .ge 167, 3) := by decide +kernel
theorem dX7_spreads_69 : decode cX7_spreads 69 = .ok (.aload_n 0, 1) := by decide +kernel
theorem dX7_spreads_70 : decode cX7_spreads 70 = .ok (.getfield 16, 3) := by decide +kernel
theorem dX7_spreads_73 : decode cX7_spreads 73 = .ok (.iload 4, 2) := by decide +kernel
theorem dX7_spreads_75 : decode cX7_spreads 75 = .ok (.baload, 1) := by decide +kernel
theorem dX7_spreads_76 : decode cX7_spreads 76 = .ok (.ifCond .ne 6, 3) := by decide +kernel
theorem dX7_spreads_79 : decode cX7_spreads 79 = .ok (.goto 148, 3) := by decide +kernel
theorem dX7_spreads_82 : decode cX7_spreads 82 = .ok (.aload_n 0, 1) := by decide +kernel
theorem dX7_spreads_83 : decode cX7_spreads 83 = .ok (.getfield 94, 3) := by decide +kernel
theorem dX7_spreads_86 : decode cX7_spreads 86 = .ok (.iload 4, 2) := by decide +kernel
theorem dX7_spreads_88 : decode cX7_spreads 88 = .ok (.ishr, 1) := by decide +kernel
theorem dX7_spreads_89 : decode cX7_spreads 89 = .ok (.iconst 1, 1) := by decide +kernel
theorem dX7_spreads_90 : decode cX7_spreads 90 = .ok (.iand, 1) := by decide +kernel
theorem dX7_spreads_91 : decode cX7_spreads 91 = .ok (.iconst 1, 1) := by decide +kernel
theorem dX7_spreads_92 : decode cX7_spreads 92 = .ok (.if_icmp .ne 7, 3) := by decide +kernel
theorem dX7_spreads_95 : decode cX7_spreads 95 = .ok (.iconst 1, 1) := by decide +kernel
theorem dX7_spreads_96 : decode cX7_spreads 96 = .ok (.goto 4, 3) := by decide +kernel
theorem dX7_spreads_99 : decode cX7_spreads 99 = .ok (.iconst 0, 1) := by decide +kernel
theorem dX7_spreads_100 : decode cX7_spreads 100 = .ok (.istore 5, 2) := by decide +kernel
theorem dX7_spreads_102 : decode cX7_spreads 102 = .ok (.iload 5, 2) := by decide +kernel
theorem dX7_spreads_104 : decode cX7_spreads 104 = .ok (.ifCond .eq 36, 3) := by decide +kernel
theorem dX7_spreads_107 : decode cX7_spreads 107 = .ok (.aload_n 0, 1) := by decide +kernel
theorem dX7_spreads_108 : decode cX7_spreads 108 = .ok (.getfield 23, 3) := by decide +kernel
theorem dX7_spreads_111 : decode cX7_spreads 111 = .ok (.aload_n 0, 1) := by decide +kernel
theorem dX7_spreads_112 : decode cX7_spreads 112 = .ok (.getfield 7, 3) := by decide +kernel
theorem dX7_spreads_115 : decode cX7_spreads 115 = .ok (.iload 4, 2) := by decide +kernel
theorem dX7_spreads_117 : decode cX7_spreads 117 = .ok (.iaload, 1) := by decide +kernel
theorem dX7_spreads_118 : decode cX7_spreads 118 = .ok (.iaload, 1) := by decide +kernel
theorem dX7_spreads_119 : decode cX7_spreads 119 = .ok (.ifCond .ne 21, 3) := by decide +kernel
theorem dX7_spreads_122 : decode cX7_spreads 122 = .ok (.aload_n 0, 1) := by decide +kernel
theorem dX7_spreads_123 : decode cX7_spreads 123 = .ok (.aload_n 0, 1) := by decide +kernel
theorem dX7_spreads_124 : decode cX7_spreads 124 = .ok (.getfield 91, 3) := by decide +kernel
theorem dX7_spreads_127 : decode cX7_spreads 127 = .ok (.iconst 1, 1) := by decide +kernel
theorem dX7_spreads_128 : decode cX7_spreads 128 = .ok (.aload_n 0, 1) := by decide +kernel
theorem dX7_spreads_129 : decode cX7_spreads 129 = .ok (.getfield 7, 3) := by decide +kernel
theorem dX7_spreads_132 : decode cX7_spreads 132 = .ok (.iload 4, 2) := by decide +kernel
theorem dX7_spreads_134 : decode cX7_spreads 134 = .ok (.iaload, 1) := by decide +kernel
theorem dX7_spreads_135 : decode cX7_spreads 135 = .ok (.ishl, 1) := by decide +kernel
theorem dX7_spreads_136 : decode cX7_spreads 136 = .ok (.ior, 1) := by decide +kernel
theorem dX7_spreads_137 : decode cX7_spreads 137 = .ok (.putfield 91, 3) := by decide +kernel
theorem dX7_spreads_140 : decode cX7_spreads 140 = .ok (.iload 5, 2) := by decide +kernel
theorem dX7_spreads_142 : decode cX7_spreads 142 = .ok (.ifCond .eq 36, 3) := by decide +kernel
theorem dX7_spreads_145 : decode cX7_spreads 145 = .ok (.aload_n 0, 1) := by decide +kernel
theorem dX7_spreads_146 : decode cX7_spreads 146 = .ok (.getfield 23, 3) := by decide +kernel
theorem dX7_spreads_149 : decode cX7_spreads 149 = .ok (.aload_n 0, 1) := by decide +kernel
theorem dX7_spreads_150 : decode cX7_spreads 150 = .ok (.getfield 13, 3) := by decide +kernel
theorem dX7_spreads_153 : decode cX7_spreads 153 = .ok (.iload 4, 2) := by decide +kernel
theorem dX7_spreads_155 : decode cX7_spreads 155 = .ok (.iaload, 1) := by decide +kernel
theorem dX7_spreads_156 : decode cX7_spreads 156 = .ok (.iaload, 1) := by decide +kernel
theorem dX7_spreads_157 : decode cX7_spreads 157 = .ok (.ifCond .ne 21, 3) := by decide +kernel
theorem dX7_spreads_160 : decode cX7_spreads 160 = .ok (.aload_n 0, 1) := by decide +kernel
theorem dX7_spreads_161 : decode cX7_spreads 161 = .ok (.aload_n 0, 1) := by decide +kernel
theorem dX7_spreads_162 : decode cX7_spreads 162 = .ok (.getfield 91, 3) := by decide +kernel
theorem dX7_spreads_165 : decode cX7_spreads 165 = .ok (.iconst 1, 1) := by decide +kernel
theorem dX7_spreads_166 : decode cX7_spreads 166 = .ok (.aload_n 0, 1) := by decide +kernel
theorem dX7_spreads_167 : decode cX7_spreads 167 = .ok (.getfield 13, 3) := by decide +kernel
theorem dX7_spreads_170 : decode cX7_spreads 170 = .ok (.iload 4, 2) := by decide +kernel
theorem dX7_spreads_172 : decode cX7_spreads 172 = .ok (.iaload, 1) := by decide +kernel
theorem dX7_spreads_173 : decode cX7_spreads 173 = .ok (.ishl, 1) := by decide +kernel
theorem dX7_spreads_174 : decode cX7_spreads 174 = .ok (.ior, 1) := by decide +kernel
theorem dX7_spreads_175 : decode cX7_spreads 175 = .ok (.putfield 91, 3) := by decide +kernel
theorem dX7_spreads_178 : decode cX7_spreads 178 = .ok (.aload_n 0, 1) := by decide +kernel
theorem dX7_spreads_179 : decode cX7_spreads 179 = .ok (.getfield 91, 3) := by decide +kernel
theorem dX7_spreads_182 : decode cX7_spreads 182 = .ok (.aload_n 0, 1) := by decide +kernel
theorem dX7_spreads_183 : decode cX7_spreads 183 = .ok (.getfield 7, 3) := by decide +kernel
theorem dX7_spreads_186 : decode cX7_spreads 186 = .ok (.iload 4, 2) := by decide +kernel
theorem dX7_spreads_188 : decode cX7_spreads 188 = .ok (.iaload, 1) := by decide +kernel
theorem dX7_spreads_189 : decode cX7_spreads 189 = .ok (.ishr, 1) := by decide +kernel
theorem dX7_spreads_190 : decode cX7_spreads 190 = .ok (.iconst 1, 1) := by decide +kernel
theorem dX7_spreads_191 : decode cX7_spreads 191 = .ok (.iand, 1) := by decide +kernel
theorem dX7_spreads_192 : decode cX7_spreads 192 = .ok (.iconst 1, 1) := by decide +kernel
theorem dX7_spreads_193 : decode cX7_spreads 193 = .ok (.if_icmp .eq 21, 3) := by decide +kernel
theorem dX7_spreads_196 : decode cX7_spreads 196 = .ok (.aload_n 0, 1) := by decide +kernel
theorem dX7_spreads_197 : decode cX7_spreads 197 = .ok (.getfield 91, 3) := by decide +kernel
theorem dX7_spreads_200 : decode cX7_spreads 200 = .ok (.aload_n 0, 1) := by decide +kernel
theorem dX7_spreads_201 : decode cX7_spreads 201 = .ok (.getfield 13, 3) := by decide +kernel
theorem dX7_spreads_204 : decode cX7_spreads 204 = .ok (.iload 4, 2) := by decide +kernel
theorem dX7_spreads_206 : decode cX7_spreads 206 = .ok (.iaload, 1) := by decide +kernel
theorem dX7_spreads_207 : decode cX7_spreads 207 = .ok (.ishr, 1) := by decide +kernel
theorem dX7_spreads_208 : decode cX7_spreads 208 = .ok (.iconst 1, 1) := by decide +kernel
theorem dX7_spreads_209 : decode cX7_spreads 209 = .ok (.iand, 1) := by decide +kernel
theorem dX7_spreads_210 : decode cX7_spreads 210 = .ok (.iconst 1, 1) := by decide +kernel
theorem dX7_spreads_211 : decode cX7_spreads 211 = .ok (.if_icmp .ne 16, 3) := by decide +kernel
theorem dX7_spreads_214 : decode cX7_spreads 214 = .ok (.aload_n 0, 1) := by decide +kernel
theorem dX7_spreads_215 : decode cX7_spreads 215 = .ok (.aload_n 0, 1) := by decide +kernel
theorem dX7_spreads_216 : decode cX7_spreads 216 = .ok (.getfield 94, 3) := by decide +kernel
theorem dX7_spreads_219 : decode cX7_spreads 219 = .ok (.iconst 1, 1) := by decide +kernel
theorem dX7_spreads_220 : decode cX7_spreads 220 = .ok (.iload 4, 2) := by decide +kernel
theorem dX7_spreads_222 : decode cX7_spreads 222 = .ok (.ishl, 1) := by decide +kernel
theorem dX7_spreads_223 : decode cX7_spreads 223 = .ok (.ior, 1) := by decide +kernel
theorem dX7_spreads_224 : decode cX7_spreads 224 = .ok (.putfield 94, 3) := by decide +kernel
theorem dX7_spreads_227 : decode cX7_spreads 227 = .ok (.iinc 4 1, 3) := by decide +kernel
theorem dX7_spreads_230 : decode cX7_spreads 230 = .ok (.goto (-168), 3) := by decide +kernel
theorem dX7_spreads_233 : decode cX7_spreads 233 = .ok (.iload_n 2, 1) := by decide +kernel
theorem dX7_spreads_234 : decode cX7_spreads 234 = .ok (.aload_n 0, 1) := by decide +kernel
theorem dX7_spreads_235 : decode cX7_spreads 235 = .ok (.getfield 94, 3) := by decide +kernel
theorem dX7_spreads_238 : decode cX7_spreads 238 = .ok (.if_icmp .ne 11, 3) := by decide +kernel
theorem dX7_spreads_241 : decode cX7_spreads 241 = .ok (.iload_n 3, 1) := by decide +kernel
theorem dX7_spreads_242 : decode cX7_spreads 242 = .ok (.aload_n 0, 1) := by decide +kernel
theorem dX7_spreads_243 : decode cX7_spreads 243 = .ok (.getfield 91, 3) := by decide +kernel
theorem dX7_spreads_246 : decode cX7_spreads 246 = .ok (.if_icmp .eq 7, 3) := by decide +kernel
theorem dX7_spreads_249 : decode cX7_spreads 249 = .ok (.iconst 1, 1) := by decide +kernel
theorem dX7_spreads_250 : decode cX7_spreads 250 = .ok (.goto 4, 3) := by decide +kernel
theorem dX7_spreads_253 : decode cX7_spreads 253 = .ok (.iconst 0, 1) := by decide +kernel
theorem dX7_spreads_254 : decode cX7_spreads 254 = .ok (.istore_n 1, 1) := by decide +kernel
theorem dX7_spreads_255 : decode cX7_spreads 255 = .ok (.goto (-253), 3) := by decide +kernel
theorem dX7_spreads_258 : decode cX7_spreads 258 = .ok (.return_, 1) := by decide +kernel
theorem dX7_settles_0 : decode cX7_settles 0 = .ok (.iconst 0, 1) := by decide +kernel
theorem dX7_settles_1 : decode cX7_settles 1 = .ok (.istore_n 2, 1) := by decide +kernel
theorem dX7_settles_2 : decode cX7_settles 2 = .ok (.iload_n 2, 1) := by decide +kernel
theorem dX7_settles_3 : decode cX7_settles 3 = .ok (.bipush 18, 2) := by decide +kernel
theorem dX7_settles_5 : decode cX7_settles 5 = .ok (.if_icmp .ge 68, 3) := by decide +kernel
theorem dX7_settles_8 : decode cX7_settles 8 = .ok (.aload_n 0, 1) := by decide +kernel
theorem dX7_settles_9 : decode cX7_settles 9 = .ok (.getfield 16, 3) := by decide +kernel
theorem dX7_settles_12 : decode cX7_settles 12 = .ok (.iload_n 2, 1) := by decide +kernel
theorem dX7_settles_13 : decode cX7_settles 13 = .ok (.baload, 1) := by decide +kernel
theorem dX7_settles_14 : decode cX7_settles 14 = .ok (.ifCond .ne 6, 3) := by decide +kernel
theorem dX7_settles_17 : decode cX7_settles 17 = .ok (.goto 50, 3) := by decide +kernel
theorem dX7_settles_20 : decode cX7_settles 20 = .ok (.iload_n 2, 1) := by decide +kernel
theorem dX7_settles_21 : decode cX7_settles 21 = .ok (.iload_n 1, 1) := by decide +kernel
theorem dX7_settles_22 : decode cX7_settles 22 = .ok (.if_icmp .eq 31, 3) := by decide +kernel
theorem dX7_settles_25 : decode cX7_settles 25 = .ok (.aload_n 0, 1) := by decide +kernel
theorem dX7_settles_26 : decode cX7_settles 26 = .ok (.getfield 23, 3) := by decide +kernel
theorem dX7_settles_29 : decode cX7_settles 29 = .ok (.aload_n 0, 1) := by decide +kernel
theorem dX7_settles_30 : decode cX7_settles 30 = .ok (.getfield 7, 3) := by decide +kernel
theorem dX7_settles_33 : decode cX7_settles 33 = .ok (.iload_n 2, 1) := by decide +kernel
theorem dX7_settles_34 : decode cX7_settles 34 = .ok (.iaload, 1) := by decide +kernel
theorem dX7_settles_35 : decode cX7_settles 35 = .ok (.iaload, 1) := by decide +kernel
theorem dX7_settles_36 : decode cX7_settles 36 = .ok (.ifCond .le 31, 3) := by decide +kernel
theorem dX7_settles_39 : decode cX7_settles 39 = .ok (.aload_n 0, 1) := by decide +kernel
theorem dX7_settles_40 : decode cX7_settles 40 = .ok (.getfield 23, 3) := by decide +kernel
theorem dX7_settles_43 : decode cX7_settles 43 = .ok (.aload_n 0, 1) := by decide +kernel
theorem dX7_settles_44 : decode cX7_settles 44 = .ok (.getfield 13, 3) := by decide +kernel
theorem dX7_settles_47 : decode cX7_settles 47 = .ok (.iload_n 2, 1) := by decide +kernel
theorem dX7_settles_48 : decode cX7_settles 48 = .ok (.iaload, 1) := by decide +kernel
theorem dX7_settles_49 : decode cX7_settles 49 = .ok (.iaload, 1) := by decide +kernel
theorem dX7_settles_50 : decode cX7_settles 50 = .ok (.ifCond .le 17, 3) := by decide +kernel
theorem dX7_settles_53 : decode cX7_settles 53 = .ok (.aload_n 0, 1) := by decide +kernel
theorem dX7_settles_54 : decode cX7_settles 54 = .ok (.aload_n 0, 1) := by decide +kernel
theorem dX7_settles_55 : decode cX7_settles 55 = .ok (.getfield 94, 3) := by decide +kernel
theorem dX7_settles_58 : decode cX7_settles 58 = .ok (.iconst 1, 1) := by decide +kernel
theorem dX7_settles_59 : decode cX7_settles 59 = .ok (.iload_n 2, 1) := by decide +kernel
theorem dX7_settles_60 : decode cX7_settles 60 = .ok (.ishl, 1) := by decide +kernel
theorem dX7_settles_61 : decode cX7_settles 61 = .ok (.iconst (-1), 1) := by decide +kernel
theorem dX7_settles_62 : decode cX7_settles 62 = .ok (.ixor, 1) := by decide +kernel
theorem dX7_settles_63 : decode cX7_settles 63 = .ok (.iand, 1) := by decide +kernel
theorem dX7_settles_64 : decode cX7_settles 64 = .ok (.putfield 94, 3) := by decide +kernel
theorem dX7_settles_67 : decode cX7_settles 67 = .ok (.iinc 2 1, 3) := by decide +kernel
theorem dX7_settles_70 : decode cX7_settles 70 = .ok (.goto (-68), 3) := by decide +kernel
theorem dX7_settles_73 : decode cX7_settles 73 = .ok (.iconst 0, 1) := by decide +kernel
theorem dX7_settles_74 : decode cX7_settles 74 = .ok (.istore_n 2, 1) := by decide +kernel
theorem dX7_settles_75 : decode cX7_settles 75 = .ok (.iload_n 2, 1) := by decide +kernel
theorem dX7_settles_76 : decode cX7_settles 76 = .ok (.aload_n 0, 1) := by decide +kernel
theorem dX7_settles_77 : decode cX7_settles 77 = .ok (.getfield 68, 3) := by decide +kernel
theorem dX7_settles_80 : decode cX7_settles 80 = .ok (.if_icmp .ge 32, 3) := by decide +kernel
theorem dX7_settles_83 : decode cX7_settles 83 = .ok (.aload_n 0, 1) := by decide +kernel
theorem dX7_settles_84 : decode cX7_settles 84 = .ok (.getfield 23, 3) := by decide +kernel
theorem dX7_settles_87 : decode cX7_settles 87 = .ok (.iload_n 2, 1) := by decide +kernel
theorem dX7_settles_88 : decode cX7_settles 88 = .ok (.iaload, 1) := by decide +kernel
theorem dX7_settles_89 : decode cX7_settles 89 = .ok (.ifCond .le 17, 3) := by decide +kernel
theorem dX7_settles_92 : decode cX7_settles 92 = .ok (.aload_n 0, 1) := by decide +kernel
theorem dX7_settles_93 : decode cX7_settles 93 = .ok (.aload_n 0, 1) := by decide +kernel
theorem dX7_settles_94 : decode cX7_settles 94 = .ok (.getfield 91, 3) := by decide +kernel
theorem dX7_settles_97 : decode cX7_settles 97 = .ok (.iconst 1, 1) := by decide +kernel
theorem dX7_settles_98 : decode cX7_settles 98 = .ok (.iload_n 2, 1) := by decide +kernel
theorem dX7_settles_99 : decode cX7_settles 99 = .ok (.ishl, 1) := by decide +kernel
theorem dX7_settles_100 : decode cX7_settles 100 = .ok (.iconst (-1), 1) := by decide +kernel
theorem dX7_settles_101 : decode cX7_settles 101 = .ok (.ixor, 1) := by decide +kernel
theorem dX7_settles_102 : decode cX7_settles 102 = .ok (.iand, 1) := by decide +kernel
theorem dX7_settles_103 : decode cX7_settles 103 = .ok (.putfield 91, 3) := by decide +kernel
theorem dX7_settles_106 : decode cX7_settles 106 = .ok (.iinc 2 1, 3) := by decide +kernel
theorem dX7_settles_109 : decode cX7_settles 109 = .ok (.goto (-34), 3) := by decide +kernel
theorem dX7_settles_112 : decode cX7_settles 112 = .ok (.aload_n 0, 1) := by decide +kernel
theorem dX7_settles_113 : decode cX7_settles 113 = .ok (.invokevirtual 97, 3) := by decide +kernel
theorem dX7_settles_116 : decode cX7_settles 116 = .ok (.return_, 1) := by decide +kernel
theorem dX7_does_0 : decode cX7_does 0 = .ok (.iload_n 1, 1) := by decide +kernel
theorem dX7_does_1 : decode cX7_does 1 = .ok (.ifCond .ne 17, 3) := by decide +kernel
theorem dX7_does_4 : decode cX7_does 4 = .ok (.aload_n 0, 1) := by decide +kernel
theorem dX7_does_5 : decode cX7_does 5 = .ok (.getfield 23, 3) := by decide +kernel
theorem dX7_does_8 : decode cX7_does 8 = .ok (.iload_n 2, 1) := by decide +kernel
theorem dX7_does_9 : decode cX7_does 9 = .ok (.aload_n 0, 1) := by decide +kernel
theorem dX7_does_10 : decode cX7_does 10 = .ok (.getfield 23, 3) := by decide +kernel
theorem dX7_does_13 : decode cX7_does 13 = .ok (.iload_n 2, 1) := by decide +kernel
theorem dX7_does_14 : decode cX7_does 14 = .ok (.iaload, 1) := by decide +kernel
theorem dX7_does_15 : decode cX7_does 15 = .ok (.iconst 1, 1) := by decide +kernel
theorem dX7_does_16 : decode cX7_does 16 = .ok (.iadd, 1) := by decide +kernel
theorem dX7_does_17 : decode cX7_does 17 = .ok (.iastore, 1) := by decide +kernel
theorem dX7_does_18 : decode cX7_does 18 = .ok (.iload_n 1, 1) := by decide +kernel
theorem dX7_does_19 : decode cX7_does 19 = .ok (.iconst 1, 1) := by decide +kernel
theorem dX7_does_20 : decode cX7_does 20 = .ok (.if_icmp .ne 17, 3) := by decide +kernel
theorem dX7_does_23 : decode cX7_does 23 = .ok (.aload_n 0, 1) := by decide +kernel
theorem dX7_does_24 : decode cX7_does 24 = .ok (.getfield 23, 3) := by decide +kernel
theorem dX7_does_27 : decode cX7_does 27 = .ok (.iload_n 2, 1) := by decide +kernel
theorem dX7_does_28 : decode cX7_does 28 = .ok (.aload_n 0, 1) := by decide +kernel
theorem dX7_does_29 : decode cX7_does 29 = .ok (.getfield 23, 3) := by decide +kernel
theorem dX7_does_32 : decode cX7_does 32 = .ok (.iload_n 2, 1) := by decide +kernel
theorem dX7_does_33 : decode cX7_does 33 = .ok (.iaload, 1) := by decide +kernel
theorem dX7_does_34 : decode cX7_does 34 = .ok (.iconst 1, 1) := by decide +kernel
theorem dX7_does_35 : decode cX7_does 35 = .ok (.isub, 1) := by decide +kernel
theorem dX7_does_36 : decode cX7_does 36 = .ok (.iastore, 1) := by decide +kernel
theorem dX7_does_37 : decode cX7_does 37 = .ok (.iload_n 1, 1) := by decide +kernel
theorem dX7_does_38 : decode cX7_does 38 = .ok (.iconst 2, 1) := by decide +kernel
theorem dX7_does_39 : decode cX7_does 39 = .ok (.if_icmp .ne 41, 3) := by decide +kernel
theorem dX7_does_42 : decode cX7_does 42 = .ok (.aload_n 0, 1) := by decide +kernel
theorem dX7_does_43 : decode cX7_does 43 = .ok (.getfield 23, 3) := by decide +kernel
theorem dX7_does_46 : decode cX7_does 46 = .ok (.iload_n 2, 1) := by decide +kernel
theorem dX7_does_47 : decode cX7_does 47 = .ok (.aload_n 0, 1) := by decide +kernel
theorem dX7_does_48 : decode cX7_does 48 = .ok (.getfield 23, 3) := by decide +kernel
theorem dX7_does_51 : decode cX7_does 51 = .ok (.iload_n 2, 1) := by decide +kernel
theorem dX7_does_52 : decode cX7_does 52 = .ok (.iaload, 1) := by decide +kernel
theorem dX7_does_53 : decode cX7_does 53 = .ok (.iconst 1, 1) := by decide +kernel
theorem dX7_does_54 : decode cX7_does 54 = .ok (.isub, 1) := by decide +kernel
theorem dX7_does_55 : decode cX7_does 55 = .ok (.iastore, 1) := by decide +kernel
theorem dX7_does_56 : decode cX7_does 56 = .ok (.aload_n 0, 1) := by decide +kernel
theorem dX7_does_57 : decode cX7_does 57 = .ok (.getfield 23, 3) := by decide +kernel
theorem dX7_does_60 : decode cX7_does 60 = .ok (.aload_n 0, 1) := by decide +kernel
theorem dX7_does_61 : decode cX7_does 61 = .ok (.iload_n 3, 1) := by decide +kernel
theorem dX7_does_62 : decode cX7_does 62 = .ok (.iload_n 2, 1) := by decide +kernel
theorem dX7_does_63 : decode cX7_does 63 = .ok (.invokevirtual 100, 3) := by decide +kernel
theorem dX7_does_66 : decode cX7_does 66 = .ok (.aload_n 0, 1) := by decide +kernel
theorem dX7_does_67 : decode cX7_does 67 = .ok (.getfield 23, 3) := by decide +kernel
theorem dX7_does_70 : decode cX7_does 70 = .ok (.aload_n 0, 1) := by decide +kernel
theorem dX7_does_71 : decode cX7_does 71 = .ok (.iload_n 3, 1) := by decide +kernel
theorem dX7_does_72 : decode cX7_does 72 = .ok (.iload_n 2, 1) := by decide +kernel
theorem dX7_does_73 : decode cX7_does 73 = .ok (.invokevirtual 100, 3) := by decide +kernel
theorem dX7_does_76 : decode cX7_does 76 = .ok (.iaload, 1) := by decide +kernel
theorem dX7_does_77 : decode cX7_does 77 = .ok (.iconst 1, 1) := by decide +kernel
theorem dX7_does_78 : decode cX7_does 78 = .ok (.iadd, 1) := by decide +kernel
theorem dX7_does_79 : decode cX7_does 79 = .ok (.iastore, 1) := by decide +kernel
theorem dX7_does_80 : decode cX7_does 80 = .ok (.aload_n 0, 1) := by decide +kernel
theorem dX7_does_81 : decode cX7_does 81 = .ok (.iload_n 1, 1) := by decide +kernel
theorem dX7_does_82 : decode cX7_does 82 = .ok (.iconst 2, 1) := by decide +kernel
theorem dX7_does_83 : decode cX7_does 83 = .ok (.if_icmp .ne 7, 3) := by decide +kernel
theorem dX7_does_86 : decode cX7_does 86 = .ok (.iload_n 3, 1) := by decide +kernel
theorem dX7_does_87 : decode cX7_does 87 = .ok (.goto 4, 3) := by decide +kernel
theorem dX7_does_90 : decode cX7_does 90 = .ok (.iconst (-1), 1) := by decide +kernel
theorem dX7_does_91 : decode cX7_does 91 = .ok (.invokevirtual 103, 3) := by decide +kernel
theorem dX7_does_94 : decode cX7_does 94 = .ok (.return_, 1) := by decide +kernel
theorem dX7_isSearched_0 : decode cX7_isSearched 0 = .ok (.aload_n 0, 1) := by decide +kernel
theorem dX7_isSearched_1 : decode cX7_isSearched 1 = .ok (.getfield 91, 3) := by decide +kernel
theorem dX7_isSearched_4 : decode cX7_isSearched 4 = .ok (.ifCond .ne 14, 3) := by decide +kernel
theorem dX7_isSearched_7 : decode cX7_isSearched 7 = .ok (.aload_n 0, 1) := by decide +kernel
theorem dX7_isSearched_8 : decode cX7_isSearched 8 = .ok (.getfield 94, 3) := by decide +kernel
theorem dX7_isSearched_11 : decode cX7_isSearched 11 = .ok (.ifCond .ne 7, 3) := by decide +kernel
theorem dX7_isSearched_14 : decode cX7_isSearched 14 = .ok (.iconst 1, 1) := by decide +kernel
theorem dX7_isSearched_15 : decode cX7_isSearched 15 = .ok (.goto 4, 3) := by decide +kernel
theorem dX7_isSearched_18 : decode cX7_isSearched 18 = .ok (.iconst 0, 1) := by decide +kernel
theorem dX7_isSearched_19 : decode cX7_isSearched 19 = .ok (.ireturn, 1) := by decide +kernel
theorem dX7_hangs_0 : decode cX7_hangs 0 = .ok (.iconst 0, 1) := by decide +kernel
theorem dX7_hangs_1 : decode cX7_hangs 1 = .ok (.istore_n 2, 1) := by decide +kernel
theorem dX7_hangs_2 : decode cX7_hangs 2 = .ok (.iconst 0, 1) := by decide +kernel
theorem dX7_hangs_3 : decode cX7_hangs 3 = .ok (.istore_n 3, 1) := by decide +kernel
theorem dX7_hangs_4 : decode cX7_hangs 4 = .ok (.iload_n 3, 1) := by decide +kernel
theorem dX7_hangs_5 : decode cX7_hangs 5 = .ok (.bipush 18, 2) := by decide +kernel
theorem dX7_hangs_7 : decode cX7_hangs 7 = .ok (.if_icmp .ge 35, 3) := by decide +kernel
theorem dX7_hangs_10 : decode cX7_hangs 10 = .ok (.aload_n 0, 1) := by decide +kernel
theorem dX7_hangs_11 : decode cX7_hangs 11 = .ok (.getfield 16, 3) := by decide +kernel
theorem dX7_hangs_14 : decode cX7_hangs 14 = .ok (.iload_n 3, 1) := by decide +kernel
theorem dX7_hangs_15 : decode cX7_hangs 15 = .ok (.baload, 1) := by decide +kernel
theorem dX7_hangs_16 : decode cX7_hangs 16 = .ok (.ifCond .eq 20, 3) := by decide +kernel
theorem dX7_hangs_19 : decode cX7_hangs 19 = .ok (.aload_n 0, 1) := by decide +kernel
theorem dX7_hangs_20 : decode cX7_hangs 20 = .ok (.getfield 94, 3) := by decide +kernel
theorem dX7_hangs_23 : decode cX7_hangs 23 = .ok (.iload_n 3, 1) := by decide +kernel
theorem dX7_hangs_24 : decode cX7_hangs 24 = .ok (.ishr, 1) := by decide +kernel
theorem dX7_hangs_25 : decode cX7_hangs 25 = .ok (.iconst 1, 1) := by decide +kernel
theorem dX7_hangs_26 : decode cX7_hangs 26 = .ok (.iand, 1) := by decide +kernel
theorem dX7_hangs_27 : decode cX7_hangs 27 = .ok (.ifCond .ne 9, 3) := by decide +kernel
theorem dX7_hangs_30 : decode cX7_hangs 30 = .ok (.iload_n 2, 1) := by decide +kernel
theorem dX7_hangs_31 : decode cX7_hangs 31 = .ok (.iconst 1, 1) := by decide +kernel
theorem dX7_hangs_32 : decode cX7_hangs 32 = .ok (.iload_n 3, 1) := by decide +kernel
theorem dX7_hangs_33 : decode cX7_hangs 33 = .ok (.ishl, 1) := by decide +kernel
theorem dX7_hangs_34 : decode cX7_hangs 34 = .ok (.ior, 1) := by decide +kernel
theorem dX7_hangs_35 : decode cX7_hangs 35 = .ok (.istore_n 2, 1) := by decide +kernel
theorem dX7_hangs_36 : decode cX7_hangs 36 = .ok (.iinc 3 1, 3) := by decide +kernel
theorem dX7_hangs_39 : decode cX7_hangs 39 = .ok (.goto (-35), 3) := by decide +kernel
theorem dX7_hangs_42 : decode cX7_hangs 42 = .ok (.aload_n 0, 1) := by decide +kernel
theorem dX7_hangs_43 : decode cX7_hangs 43 = .ok (.iconst 1, 1) := by decide +kernel
theorem dX7_hangs_44 : decode cX7_hangs 44 = .ok (.iload_n 1, 1) := by decide +kernel
theorem dX7_hangs_45 : decode cX7_hangs 45 = .ok (.ishl, 1) := by decide +kernel
theorem dX7_hangs_46 : decode cX7_hangs 46 = .ok (.iload_n 2, 1) := by decide +kernel
theorem dX7_hangs_47 : decode cX7_hangs 47 = .ok (.invokevirtual 87, 3) := by decide +kernel
theorem dX7_hangs_50 : decode cX7_hangs 50 = .ok (.istore_n 3, 1) := by decide +kernel
theorem dX7_hangs_51 : decode cX7_hangs 51 = .ok (.iconst 1, 1) := by decide +kernel
theorem dX7_hangs_52 : decode cX7_hangs 52 = .ok (.istore 4, 2) := by decide +kernel
theorem dX7_hangs_54 : decode cX7_hangs 54 = .ok (.iconst 0, 1) := by decide +kernel
theorem dX7_hangs_55 : decode cX7_hangs 55 = .ok (.istore 5, 2) := by decide +kernel
theorem dX7_hangs_57 : decode cX7_hangs 57 = .ok (.iload 5, 2) := by decide +kernel
theorem dX7_hangs_59 : decode cX7_hangs 59 = .ok (.aload_n 0, 1) := by decide +kernel
theorem dX7_hangs_60 : decode cX7_hangs 60 = .ok (.getfield 68, 3) := by decide +kernel
theorem dX7_hangs_63 : decode cX7_hangs 63 = .ok (.if_icmp .ge 41, 3) := by decide +kernel
theorem dX7_hangs_66 : decode cX7_hangs 66 = .ok (.iload 4, 2) := by decide +kernel
theorem dX7_hangs_68 : decode cX7_hangs 68 = .ok (.ifCond .eq 27, 3) := by decide +kernel
theorem dX7_hangs_71 : decode cX7_hangs 71 = .ok (.aload_n 0, 1) := by decide +kernel
theorem dX7_hangs_72 : decode cX7_hangs 72 = .ok (.getfield 23, 3) := by decide +kernel
theorem dX7_hangs_75 : decode cX7_hangs 75 = .ok (.iload 5, 2) := by decide +kernel
theorem dX7_hangs_77 : decode cX7_hangs 77 = .ok (.iaload, 1) := by decide +kernel
theorem dX7_hangs_78 : decode cX7_hangs 78 = .ok (.ifCond .eq 13, 3) := by decide +kernel
theorem dX7_hangs_81 : decode cX7_hangs 81 = .ok (.iload_n 3, 1) := by decide +kernel
theorem dX7_hangs_82 : decode cX7_hangs 82 = .ok (.iload 5, 2) := by decide +kernel
theorem dX7_hangs_84 : decode cX7_hangs 84 = .ok (.ishr, 1) := by decide +kernel
theorem dX7_hangs_85 : decode cX7_hangs 85 = .ok (.iconst 1, 1) := by decide +kernel
theorem dX7_hangs_86 : decode cX7_hangs 86 = .ok (.iand, 1) := by decide +kernel
theorem dX7_hangs_87 : decode cX7_hangs 87 = .ok (.iconst 1, 1) := by decide +kernel
theorem dX7_hangs_88 : decode cX7_hangs 88 = .ok (.if_icmp .ne 7, 3) := by decide +kernel
theorem dX7_hangs_91 : decode cX7_hangs 91 = .ok (.iconst 1, 1) := by decide +kernel
theorem dX7_hangs_92 : decode cX7_hangs 92 = .ok (.goto 4, 3) := by decide +kernel
theorem dX7_hangs_95 : decode cX7_hangs 95 = .ok (.iconst 0, 1) := by decide +kernel
theorem dX7_hangs_96 : decode cX7_hangs 96 = .ok (.istore 4, 2) := by decide +kernel
theorem dX7_hangs_98 : decode cX7_hangs 98 = .ok (.iinc 5 1, 3) := by decide +kernel
theorem dX7_hangs_101 : decode cX7_hangs 101 = .ok (.goto (-44), 3) := by decide +kernel
theorem dX7_hangs_104 : decode cX7_hangs 104 = .ok (.iconst 0, 1) := by decide +kernel
theorem dX7_hangs_105 : decode cX7_hangs 105 = .ok (.istore 5, 2) := by decide +kernel
theorem dX7_hangs_107 : decode cX7_hangs 107 = .ok (.iload 5, 2) := by decide +kernel
theorem dX7_hangs_109 : decode cX7_hangs 109 = .ok (.bipush 18, 2) := by decide +kernel
theorem dX7_hangs_111 : decode cX7_hangs 111 = .ok (.if_icmp .ge 45, 3) := by decide +kernel
theorem dX7_hangs_114 : decode cX7_hangs 114 = .ok (.iload 4, 2) := by decide +kernel
theorem dX7_hangs_116 : decode cX7_hangs 116 = .ok (.ifCond .eq 31, 3) := by decide +kernel
theorem dX7_hangs_119 : decode cX7_hangs 119 = .ok (.iload_n 2, 1) := by decide +kernel
theorem dX7_hangs_120 : decode cX7_hangs 120 = .ok (.iload 5, 2) := by decide +kernel
theorem dX7_hangs_122 : decode cX7_hangs 122 = .ok (.ishr, 1) := by decide +kernel
theorem dX7_hangs_123 : decode cX7_hangs 123 = .ok (.iconst 1, 1) := by decide +kernel
theorem dX7_hangs_124 : decode cX7_hangs 124 = .ok (.iand, 1) := by decide +kernel
theorem dX7_hangs_125 : decode cX7_hangs 125 = .ok (.ifCond .eq 18, 3) := by decide +kernel
theorem dX7_hangs_128 : decode cX7_hangs 128 = .ok (.iload_n 3, 1) := by decide +kernel
theorem dX7_hangs_129 : decode cX7_hangs 129 = .ok (.aload_n 0, 1) := by decide +kernel
theorem dX7_hangs_130 : decode cX7_hangs 130 = .ok (.getfield 7, 3) := by decide +kernel
theorem dX7_hangs_133 : decode cX7_hangs 133 = .ok (.iload 5, 2) := by decide +kernel
theorem dX7_hangs_135 : decode cX7_hangs 135 = .ok (.iaload, 1) := by decide +kernel
theorem dX7_hangs_136 : decode cX7_hangs 136 = .ok (.ishr, 1) := by decide +kernel
theorem dX7_hangs_137 : decode cX7_hangs 137 = .ok (.iconst 1, 1) := by decide +kernel
theorem dX7_hangs_138 : decode cX7_hangs 138 = .ok (.iand, 1) := by decide +kernel
theorem dX7_hangs_139 : decode cX7_hangs 139 = .ok (.iconst 1, 1) := by decide +kernel
theorem dX7_hangs_140 : decode cX7_hangs 140 = .ok (.if_icmp .ne 7, 3) := by decide +kernel
theorem dX7_hangs_143 : decode cX7_hangs 143 = .ok (.iconst 1, 1) := by decide +kernel
theorem dX7_hangs_144 : decode cX7_hangs 144 = .ok (.goto 4, 3) := by decide +kernel
theorem dX7_hangs_147 : decode cX7_hangs 147 = .ok (.iconst 0, 1) := by decide +kernel
theorem dX7_hangs_148 : decode cX7_hangs 148 = .ok (.istore 4, 2) := by decide +kernel
theorem dX7_hangs_150 : decode cX7_hangs 150 = .ok (.iinc 5 1, 3) := by decide +kernel
theorem dX7_hangs_153 : decode cX7_hangs 153 = .ok (.goto (-46), 3) := by decide +kernel
theorem dX7_hangs_156 : decode cX7_hangs 156 = .ok (.iload 4, 2) := by decide +kernel
theorem dX7_hangs_158 : decode cX7_hangs 158 = .ok (.ireturn, 1) := by decide +kernel
theorem dX7_keeps_0 : decode cX7_keeps 0 = .ok (.iconst 0, 1) := by decide +kernel
theorem dX7_keeps_1 : decode cX7_keeps 1 = .ok (.istore_n 1, 1) := by decide +kernel
theorem dX7_keeps_2 : decode cX7_keeps 2 = .ok (.iload_n 1, 1) := by decide +kernel
theorem dX7_keeps_3 : decode cX7_keeps 3 = .ok (.bipush 12, 2) := by decide +kernel
theorem dX7_keeps_5 : decode cX7_keeps 5 = .ok (.if_icmp .ge 29, 3) := by decide +kernel
theorem dX7_keeps_8 : decode cX7_keeps 8 = .ok (.aload_n 0, 1) := by decide +kernel
theorem dX7_keeps_9 : decode cX7_keeps 9 = .ok (.getfield 35, 3) := by decide +kernel
theorem dX7_keeps_12 : decode cX7_keeps 12 = .ok (.bipush 12, 2) := by decide +kernel
theorem dX7_keeps_14 : decode cX7_keeps 14 = .ok (.aload_n 0, 1) := by decide +kernel
theorem dX7_keeps_15 : decode cX7_keeps 15 = .ok (.getfield 107, 3) := by decide +kernel
theorem dX7_keeps_18 : decode cX7_keeps 18 = .ok (.imul, 1) := by decide +kernel
theorem dX7_keeps_19 : decode cX7_keeps 19 = .ok (.iload_n 1, 1) := by decide +kernel
theorem dX7_keeps_20 : decode cX7_keeps 20 = .ok (.iadd, 1) := by decide +kernel
theorem dX7_keeps_21 : decode cX7_keeps 21 = .ok (.aload_n 0, 1) := by decide +kernel
theorem dX7_keeps_22 : decode cX7_keeps 22 = .ok (.getfield 23, 3) := by decide +kernel
theorem dX7_keeps_25 : decode cX7_keeps 25 = .ok (.iload_n 1, 1) := by decide +kernel
theorem dX7_keeps_26 : decode cX7_keeps 26 = .ok (.iaload, 1) := by decide +kernel
theorem dX7_keeps_27 : decode cX7_keeps 27 = .ok (.iastore, 1) := by decide +kernel
theorem dX7_keeps_28 : decode cX7_keeps 28 = .ok (.iinc 1 1, 3) := by decide +kernel
theorem dX7_keeps_31 : decode cX7_keeps 31 = .ok (.goto (-29), 3) := by decide +kernel
theorem dX7_keeps_34 : decode cX7_keeps 34 = .ok (.aload_n 0, 1) := by decide +kernel
theorem dX7_keeps_35 : decode cX7_keeps 35 = .ok (.getfield 38, 3) := by decide +kernel
theorem dX7_keeps_38 : decode cX7_keeps 38 = .ok (.aload_n 0, 1) := by decide +kernel
theorem dX7_keeps_39 : decode cX7_keeps 39 = .ok (.getfield 107, 3) := by decide +kernel
theorem dX7_keeps_42 : decode cX7_keeps 42 = .ok (.aload_n 0, 1) := by decide +kernel
theorem dX7_keeps_43 : decode cX7_keeps 43 = .ok (.getfield 91, 3) := by decide +kernel
theorem dX7_keeps_46 : decode cX7_keeps 46 = .ok (.iastore, 1) := by decide +kernel
theorem dX7_keeps_47 : decode cX7_keeps 47 = .ok (.aload_n 0, 1) := by decide +kernel
theorem dX7_keeps_48 : decode cX7_keeps 48 = .ok (.getfield 41, 3) := by decide +kernel
theorem dX7_keeps_51 : decode cX7_keeps 51 = .ok (.aload_n 0, 1) := by decide +kernel
theorem dX7_keeps_52 : decode cX7_keeps 52 = .ok (.getfield 107, 3) := by decide +kernel
theorem dX7_keeps_55 : decode cX7_keeps 55 = .ok (.aload_n 0, 1) := by decide +kernel
theorem dX7_keeps_56 : decode cX7_keeps 56 = .ok (.getfield 94, 3) := by decide +kernel
theorem dX7_keeps_59 : decode cX7_keeps 59 = .ok (.iastore, 1) := by decide +kernel
theorem dX7_keeps_60 : decode cX7_keeps 60 = .ok (.return_, 1) := by decide +kernel
theorem dX7_comes_0 : decode cX7_comes 0 = .ok (.iconst 0, 1) := by decide +kernel
theorem dX7_comes_1 : decode cX7_comes 1 = .ok (.istore_n 2, 1) := by decide +kernel
theorem dX7_comes_2 : decode cX7_comes 2 = .ok (.iload_n 2, 1) := by decide +kernel
theorem dX7_comes_3 : decode cX7_comes 3 = .ok (.bipush 12, 2) := by decide +kernel
theorem dX7_comes_5 : decode cX7_comes 5 = .ok (.if_icmp .ge 26, 3) := by decide +kernel
theorem dX7_comes_8 : decode cX7_comes 8 = .ok (.aload_n 0, 1) := by decide +kernel
theorem dX7_comes_9 : decode cX7_comes 9 = .ok (.getfield 23, 3) := by decide +kernel
theorem dX7_comes_12 : decode cX7_comes 12 = .ok (.iload_n 2, 1) := by decide +kernel
theorem dX7_comes_13 : decode cX7_comes 13 = .ok (.aload_n 0, 1) := by decide +kernel
theorem dX7_comes_14 : decode cX7_comes 14 = .ok (.getfield 35, 3) := by decide +kernel
theorem dX7_comes_17 : decode cX7_comes 17 = .ok (.bipush 12, 2) := by decide +kernel
theorem dX7_comes_19 : decode cX7_comes 19 = .ok (.iload_n 1, 1) := by decide +kernel
theorem dX7_comes_20 : decode cX7_comes 20 = .ok (.imul, 1) := by decide +kernel
theorem dX7_comes_21 : decode cX7_comes 21 = .ok (.iload_n 2, 1) := by decide +kernel
theorem dX7_comes_22 : decode cX7_comes 22 = .ok (.iadd, 1) := by decide +kernel
theorem dX7_comes_23 : decode cX7_comes 23 = .ok (.iaload, 1) := by decide +kernel
theorem dX7_comes_24 : decode cX7_comes 24 = .ok (.iastore, 1) := by decide +kernel
theorem dX7_comes_25 : decode cX7_comes 25 = .ok (.iinc 2 1, 3) := by decide +kernel
theorem dX7_comes_28 : decode cX7_comes 28 = .ok (.goto (-26), 3) := by decide +kernel
theorem dX7_comes_31 : decode cX7_comes 31 = .ok (.aload_n 0, 1) := by decide +kernel
theorem dX7_comes_32 : decode cX7_comes 32 = .ok (.aload_n 0, 1) := by decide +kernel
theorem dX7_comes_33 : decode cX7_comes 33 = .ok (.getfield 38, 3) := by decide +kernel
theorem dX7_comes_36 : decode cX7_comes 36 = .ok (.iload_n 1, 1) := by decide +kernel
theorem dX7_comes_37 : decode cX7_comes 37 = .ok (.iaload, 1) := by decide +kernel
theorem dX7_comes_38 : decode cX7_comes 38 = .ok (.putfield 91, 3) := by decide +kernel
theorem dX7_comes_41 : decode cX7_comes 41 = .ok (.aload_n 0, 1) := by decide +kernel
theorem dX7_comes_42 : decode cX7_comes 42 = .ok (.aload_n 0, 1) := by decide +kernel
theorem dX7_comes_43 : decode cX7_comes 43 = .ok (.getfield 41, 3) := by decide +kernel
theorem dX7_comes_46 : decode cX7_comes 46 = .ok (.iload_n 1, 1) := by decide +kernel
theorem dX7_comes_47 : decode cX7_comes 47 = .ok (.iaload, 1) := by decide +kernel
theorem dX7_comes_48 : decode cX7_comes 48 = .ok (.putfield 94, 3) := by decide +kernel
theorem dX7_comes_51 : decode cX7_comes 51 = .ok (.return_, 1) := by decide +kernel
theorem dX7_anew_0 : decode cX7_anew 0 = .ok (.aload_n 0, 1) := by decide +kernel
theorem dX7_anew_1 : decode cX7_anew 1 = .ok (.iconst 0, 1) := by decide +kernel
theorem dX7_anew_2 : decode cX7_anew 2 = .ok (.putfield 107, 3) := by decide +kernel
theorem dX7_anew_5 : decode cX7_anew 5 = .ok (.aload_n 0, 1) := by decide +kernel
theorem dX7_anew_6 : decode cX7_anew 6 = .ok (.invokevirtual 110, 3) := by decide +kernel
theorem dX7_anew_9 : decode cX7_anew 9 = .ok (.aload_n 0, 1) := by decide +kernel
theorem dX7_anew_10 : decode cX7_anew 10 = .ok (.invokevirtual 113, 3) := by decide +kernel
theorem dX7_anew_13 : decode cX7_anew 13 = .ok (.return_, 1) := by decide +kernel
theorem dX7_order_0 : decode cX7_order 0 = .ok (.iload_n 1, 1) := by decide +kernel
theorem dX7_order_1 : decode cX7_order 1 = .ok (.ifCond .lt 50, 3) := by decide +kernel
theorem dX7_order_4 : decode cX7_order 4 = .ok (.iload_n 1, 1) := by decide +kernel
theorem dX7_order_5 : decode cX7_order 5 = .ok (.iconst 3, 1) := by decide +kernel
theorem dX7_order_6 : decode cX7_order 6 = .ok (.if_icmp .gt 45, 3) := by decide +kernel
theorem dX7_order_9 : decode cX7_order 9 = .ok (.aload_n 0, 1) := by decide +kernel
theorem dX7_order_10 : decode cX7_order 10 = .ok (.iload_n 2, 1) := by decide +kernel
theorem dX7_order_11 : decode cX7_order 11 = .ok (.invokevirtual 80, 3) := by decide +kernel
theorem dX7_order_14 : decode cX7_order 14 = .ok (.ifCond .eq 37, 3) := by decide +kernel
theorem dX7_order_17 : decode cX7_order 17 = .ok (.iload_n 1, 1) := by decide +kernel
theorem dX7_order_18 : decode cX7_order 18 = .ok (.iconst 2, 1) := by decide +kernel
theorem dX7_order_19 : decode cX7_order 19 = .ok (.if_icmp .lt 22, 3) := by decide +kernel
theorem dX7_order_22 : decode cX7_order 22 = .ok (.iload_n 3, 1) := by decide +kernel
theorem dX7_order_23 : decode cX7_order 23 = .ok (.ifCond .lt 28, 3) := by decide +kernel
theorem dX7_order_26 : decode cX7_order 26 = .ok (.iload_n 3, 1) := by decide +kernel
theorem dX7_order_27 : decode cX7_order 27 = .ok (.bipush 18, 2) := by decide +kernel
theorem dX7_order_29 : decode cX7_order 29 = .ok (.if_icmp .ge 22, 3) := by decide +kernel
theorem dX7_order_32 : decode cX7_order 32 = .ok (.aload_n 0, 1) := by decide +kernel
theorem dX7_order_33 : decode cX7_order 33 = .ok (.iload_n 3, 1) := by decide +kernel
theorem dX7_order_34 : decode cX7_order 34 = .ok (.iload_n 2, 1) := by decide +kernel
theorem dX7_order_35 : decode cX7_order 35 = .ok (.invokevirtual 116, 3) := by decide +kernel
theorem dX7_order_38 : decode cX7_order 38 = .ok (.ifCond .eq 13, 3) := by decide +kernel
theorem dX7_order_41 : decode cX7_order 41 = .ok (.aload_n 0, 1) := by decide +kernel
theorem dX7_order_42 : decode cX7_order 42 = .ok (.getfield 107, 3) := by decide +kernel
theorem dX7_order_45 : decode cX7_order 45 = .ok (.sipush 200, 3) := by decide +kernel
theorem dX7_order_48 : decode cX7_order 48 = .ok (.if_icmp .ne 5, 3) := by decide +kernel
theorem dX7_order_51 : decode cX7_order 51 = .ok (.iconst (-1), 1) := by decide +kernel
theorem dX7_order_52 : decode cX7_order 52 = .ok (.ireturn, 1) := by decide +kernel
theorem dX7_order_53 : decode cX7_order 53 = .ok (.aload_n 0, 1) := by decide +kernel
theorem dX7_order_54 : decode cX7_order 54 = .ok (.aload_n 0, 1) := by decide +kernel
theorem dX7_order_55 : decode cX7_order 55 = .ok (.getfield 107, 3) := by decide +kernel
theorem dX7_order_58 : decode cX7_order 58 = .ok (.invokevirtual 120, 3) := by decide +kernel
theorem dX7_order_61 : decode cX7_order 61 = .ok (.iload_n 1, 1) := by decide +kernel
theorem dX7_order_62 : decode cX7_order 62 = .ok (.ifCond .ne 15, 3) := by decide +kernel
theorem dX7_order_65 : decode cX7_order 65 = .ok (.aload_n 0, 1) := by decide +kernel
theorem dX7_order_66 : decode cX7_order 66 = .ok (.invokevirtual 123, 3) := by decide +kernel
theorem dX7_order_69 : decode cX7_order 69 = .ok (.bipush 9, 2) := by decide +kernel
theorem dX7_order_71 : decode cX7_order 71 = .ok (.if_icmp .ne 17, 3) := by decide +kernel
theorem dX7_order_74 : decode cX7_order 74 = .ok (.goto 12, 3) := by decide +kernel
theorem dX7_order_77 : decode cX7_order 77 = .ok (.aload_n 0, 1) := by decide +kernel
theorem dX7_order_78 : decode cX7_order 78 = .ok (.getfield 23, 3) := by decide +kernel
theorem dX7_order_81 : decode cX7_order 81 = .ok (.iload_n 2, 1) := by decide +kernel
theorem dX7_order_82 : decode cX7_order 82 = .ok (.iaload, 1) := by decide +kernel
theorem dX7_order_83 : decode cX7_order 83 = .ok (.ifCond .ne 5, 3) := by decide +kernel
theorem dX7_order_86 : decode cX7_order 86 = .ok (.iconst 0, 1) := by decide +kernel
theorem dX7_order_87 : decode cX7_order 87 = .ok (.ireturn, 1) := by decide +kernel
theorem dX7_order_88 : decode cX7_order 88 = .ok (.aload_n 0, 1) := by decide +kernel
theorem dX7_order_89 : decode cX7_order 89 = .ok (.iload_n 1, 1) := by decide +kernel
theorem dX7_order_90 : decode cX7_order 90 = .ok (.iconst 3, 1) := by decide +kernel
theorem dX7_order_91 : decode cX7_order 91 = .ok (.if_icmp .ne 7, 3) := by decide +kernel
theorem dX7_order_94 : decode cX7_order 94 = .ok (.iconst 2, 1) := by decide +kernel
theorem dX7_order_95 : decode cX7_order 95 = .ok (.goto 4, 3) := by decide +kernel
theorem dX7_order_98 : decode cX7_order 98 = .ok (.iload_n 1, 1) := by decide +kernel
theorem dX7_order_99 : decode cX7_order 99 = .ok (.iload_n 2, 1) := by decide +kernel
theorem dX7_order_100 : decode cX7_order 100 = .ok (.iload_n 3, 1) := by decide +kernel
theorem dX7_order_101 : decode cX7_order 101 = .ok (.invokevirtual 127, 3) := by decide +kernel
theorem dX7_order_104 : decode cX7_order 104 = .ok (.aload_n 0, 1) := by decide +kernel
theorem dX7_order_105 : decode cX7_order 105 = .ok (.getfield 91, 3) := by decide +kernel
theorem dX7_order_108 : decode cX7_order 108 = .ok (.aload_n 0, 1) := by decide +kernel
theorem dX7_order_109 : decode cX7_order 109 = .ok (.getfield 38, 3) := by decide +kernel
theorem dX7_order_112 : decode cX7_order 112 = .ok (.aload_n 0, 1) := by decide +kernel
theorem dX7_order_113 : decode cX7_order 113 = .ok (.getfield 107, 3) := by decide +kernel
theorem dX7_order_116 : decode cX7_order 116 = .ok (.iaload, 1) := by decide +kernel
theorem dX7_order_117 : decode cX7_order 117 = .ok (.iconst (-1), 1) := by decide +kernel
theorem dX7_order_118 : decode cX7_order 118 = .ok (.ixor, 1) := by decide +kernel
theorem dX7_order_119 : decode cX7_order 119 = .ok (.iand, 1) := by decide +kernel
theorem dX7_order_120 : decode cX7_order 120 = .ok (.ifCond .ne 22, 3) := by decide +kernel
theorem dX7_order_123 : decode cX7_order 123 = .ok (.aload_n 0, 1) := by decide +kernel
theorem dX7_order_124 : decode cX7_order 124 = .ok (.getfield 94, 3) := by decide +kernel
theorem dX7_order_127 : decode cX7_order 127 = .ok (.aload_n 0, 1) := by decide +kernel
theorem dX7_order_128 : decode cX7_order 128 = .ok (.getfield 41, 3) := by decide +kernel
theorem dX7_order_131 : decode cX7_order 131 = .ok (.aload_n 0, 1) := by decide +kernel
theorem dX7_order_132 : decode cX7_order 132 = .ok (.getfield 107, 3) := by decide +kernel
theorem dX7_order_135 : decode cX7_order 135 = .ok (.iaload, 1) := by decide +kernel
theorem dX7_order_136 : decode cX7_order 136 = .ok (.iconst (-1), 1) := by decide +kernel
theorem dX7_order_137 : decode cX7_order 137 = .ok (.ixor, 1) := by decide +kernel
theorem dX7_order_138 : decode cX7_order 138 = .ok (.iand, 1) := by decide +kernel
theorem dX7_order_139 : decode cX7_order 139 = .ok (.ifCond .eq 7, 3) := by decide +kernel
theorem dX7_order_142 : decode cX7_order 142 = .ok (.iconst 1, 1) := by decide +kernel
theorem dX7_order_143 : decode cX7_order 143 = .ok (.goto 4, 3) := by decide +kernel
theorem dX7_order_146 : decode cX7_order 146 = .ok (.iconst 0, 1) := by decide +kernel
theorem dX7_order_147 : decode cX7_order 147 = .ok (.istore 4, 2) := by decide +kernel
theorem dX7_order_149 : decode cX7_order 149 = .ok (.iload_n 1, 1) := by decide +kernel
theorem dX7_order_150 : decode cX7_order 150 = .ok (.iconst 3, 1) := by decide +kernel
theorem dX7_order_151 : decode cX7_order 151 = .ok (.if_icmp .ne 10, 3) := by decide +kernel
theorem dX7_order_154 : decode cX7_order 154 = .ok (.iload 4, 2) := by decide +kernel
theorem dX7_order_156 : decode cX7_order 156 = .ok (.ifCond .eq 5, 3) := by decide +kernel
theorem dX7_order_159 : decode cX7_order 159 = .ok (.iconst 0, 1) := by decide +kernel
theorem dX7_order_160 : decode cX7_order 160 = .ok (.ireturn, 1) := by decide +kernel
theorem dX7_order_161 : decode cX7_order 161 = .ok (.aload_n 0, 1) := by decide +kernel
theorem dX7_order_162 : decode cX7_order 162 = .ok (.getfield 26, 3) := by decide +kernel
theorem dX7_order_165 : decode cX7_order 165 = .ok (.aload_n 0, 1) := by decide +kernel
theorem dX7_order_166 : decode cX7_order 166 = .ok (.getfield 107, 3) := by decide +kernel
theorem dX7_order_169 : decode cX7_order 169 = .ok (.iload_n 1, 1) := by decide +kernel
theorem dX7_order_170 : decode cX7_order 170 = .ok (.iconst 3, 1) := by decide +kernel
theorem dX7_order_171 : decode cX7_order 171 = .ok (.if_icmp .ne 7, 3) := by decide +kernel
theorem dX7_order_174 : decode cX7_order 174 = .ok (.iconst 2, 1) := by decide +kernel
theorem dX7_order_175 : decode cX7_order 175 = .ok (.goto 4, 3) := by decide +kernel
theorem dX7_order_178 : decode cX7_order 178 = .ok (.iload_n 1, 1) := by decide +kernel
theorem dX7_order_179 : decode cX7_order 179 = .ok (.iastore, 1) := by decide +kernel
theorem dX7_order_180 : decode cX7_order 180 = .ok (.aload_n 0, 1) := by decide +kernel
theorem dX7_order_181 : decode cX7_order 181 = .ok (.getfield 29, 3) := by decide +kernel
theorem dX7_order_184 : decode cX7_order 184 = .ok (.aload_n 0, 1) := by decide +kernel
theorem dX7_order_185 : decode cX7_order 185 = .ok (.getfield 107, 3) := by decide +kernel
theorem dX7_order_188 : decode cX7_order 188 = .ok (.iload_n 2, 1) := by decide +kernel
theorem dX7_order_189 : decode cX7_order 189 = .ok (.iastore, 1) := by decide +kernel
theorem dX7_order_190 : decode cX7_order 190 = .ok (.aload_n 0, 1) := by decide +kernel
theorem dX7_order_191 : decode cX7_order 191 = .ok (.getfield 32, 3) := by decide +kernel
theorem dX7_order_194 : decode cX7_order 194 = .ok (.aload_n 0, 1) := by decide +kernel
theorem dX7_order_195 : decode cX7_order 195 = .ok (.getfield 107, 3) := by decide +kernel
theorem dX7_order_198 : decode cX7_order 198 = .ok (.iload_n 1, 1) := by decide +kernel
theorem dX7_order_199 : decode cX7_order 199 = .ok (.iconst 2, 1) := by decide +kernel
theorem dX7_order_200 : decode cX7_order 200 = .ok (.if_icmp .lt 7, 3) := by decide +kernel
theorem dX7_order_203 : decode cX7_order 203 = .ok (.iload_n 3, 1) := by decide +kernel
theorem dX7_order_204 : decode cX7_order 204 = .ok (.goto 4, 3) := by decide +kernel
theorem dX7_order_207 : decode cX7_order 207 = .ok (.iconst (-1), 1) := by decide +kernel
theorem dX7_order_208 : decode cX7_order 208 = .ok (.iastore, 1) := by decide +kernel
theorem dX7_order_209 : decode cX7_order 209 = .ok (.aload_n 0, 1) := by decide +kernel
theorem dX7_order_210 : decode cX7_order 210 = .ok (.aload_n 0, 1) := by decide +kernel
theorem dX7_order_211 : decode cX7_order 211 = .ok (.getfield 107, 3) := by decide +kernel
theorem dX7_order_214 : decode cX7_order 214 = .ok (.iconst 1, 1) := by decide +kernel
theorem dX7_order_215 : decode cX7_order 215 = .ok (.iadd, 1) := by decide +kernel
theorem dX7_order_216 : decode cX7_order 216 = .ok (.putfield 107, 3) := by decide +kernel
theorem dX7_order_219 : decode cX7_order 219 = .ok (.aload_n 0, 1) := by decide +kernel
theorem dX7_order_220 : decode cX7_order 220 = .ok (.invokevirtual 113, 3) := by decide +kernel
theorem dX7_order_223 : decode cX7_order 223 = .ok (.iconst 1, 1) := by decide +kernel
theorem dX7_order_224 : decode cX7_order 224 = .ok (.ireturn, 1) := by decide +kernel
theorem dX7_undo_0 : decode cX7_undo 0 = .ok (.aload_n 0, 1) := by decide +kernel
theorem dX7_undo_1 : decode cX7_undo 1 = .ok (.getfield 107, 3) := by decide +kernel
theorem dX7_undo_4 : decode cX7_undo 4 = .ok (.ifCond .ne 5, 3) := by decide +kernel
theorem dX7_undo_7 : decode cX7_undo 7 = .ok (.iconst 0, 1) := by decide +kernel
theorem dX7_undo_8 : decode cX7_undo 8 = .ok (.ireturn, 1) := by decide +kernel
theorem dX7_undo_9 : decode cX7_undo 9 = .ok (.aload_n 0, 1) := by decide +kernel
theorem dX7_undo_10 : decode cX7_undo 10 = .ok (.aload_n 0, 1) := by decide +kernel
theorem dX7_undo_11 : decode cX7_undo 11 = .ok (.getfield 107, 3) := by decide +kernel
theorem dX7_undo_14 : decode cX7_undo 14 = .ok (.iconst 1, 1) := by decide +kernel
theorem dX7_undo_15 : decode cX7_undo 15 = .ok (.isub, 1) := by decide +kernel
theorem dX7_undo_16 : decode cX7_undo 16 = .ok (.putfield 107, 3) := by decide +kernel
theorem dX7_undo_19 : decode cX7_undo 19 = .ok (.iconst 1, 1) := by decide +kernel
theorem dX7_undo_20 : decode cX7_undo 20 = .ok (.ireturn, 1) := by decide +kernel
theorem dX7_bits_0 : decode cX7_bits 0 = .ok (.iconst 0, 1) := by decide +kernel
theorem dX7_bits_1 : decode cX7_bits 1 = .ok (.istore_n 1, 1) := by decide +kernel
theorem dX7_bits_2 : decode cX7_bits 2 = .ok (.iconst 0, 1) := by decide +kernel
theorem dX7_bits_3 : decode cX7_bits 3 = .ok (.istore_n 2, 1) := by decide +kernel
theorem dX7_bits_4 : decode cX7_bits 4 = .ok (.iload_n 2, 1) := by decide +kernel
theorem dX7_bits_5 : decode cX7_bits 5 = .ok (.bipush 18, 2) := by decide +kernel
theorem dX7_bits_7 : decode cX7_bits 7 = .ok (.if_icmp .ge 17, 3) := by decide +kernel
theorem dX7_bits_10 : decode cX7_bits 10 = .ok (.iload_n 1, 1) := by decide +kernel
theorem dX7_bits_11 : decode cX7_bits 11 = .ok (.iload_n 0, 1) := by decide +kernel
theorem dX7_bits_12 : decode cX7_bits 12 = .ok (.iload_n 2, 1) := by decide +kernel
theorem dX7_bits_13 : decode cX7_bits 13 = .ok (.ishr, 1) := by decide +kernel
theorem dX7_bits_14 : decode cX7_bits 14 = .ok (.iconst 1, 1) := by decide +kernel
theorem dX7_bits_15 : decode cX7_bits 15 = .ok (.iand, 1) := by decide +kernel
theorem dX7_bits_16 : decode cX7_bits 16 = .ok (.iadd, 1) := by decide +kernel
theorem dX7_bits_17 : decode cX7_bits 17 = .ok (.istore_n 1, 1) := by decide +kernel
theorem dX7_bits_18 : decode cX7_bits 18 = .ok (.iinc 2 1, 3) := by decide +kernel
theorem dX7_bits_21 : decode cX7_bits 21 = .ok (.goto (-17), 3) := by decide +kernel
