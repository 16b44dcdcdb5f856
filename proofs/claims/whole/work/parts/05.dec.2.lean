theorem dX5_tell_52 : decode cX5_tell 52 = .ok (.ishr, 1) := by decide +kernel
theorem dX5_tell_53 : decode cX5_tell 53 = .ok (.ireturn, 1) := by decide +kernel
theorem dX5_tell_54 : decode cX5_tell 54 = .ok (.aload_n 0, 1) := by decide +kernel
theorem dX5_tell_55 : decode cX5_tell 55 = .ok (.getfield 15, 3) := by decide +kernel
theorem dX5_tell_58 : decode cX5_tell 58 = .ok (.iload_n 1, 1) := by decide +kernel
theorem dX5_tell_59 : decode cX5_tell 59 = .ok (.iaload, 1) := by decide +kernel
theorem dX5_tell_60 : decode cX5_tell 60 = .ok (.iconst 5, 1) := by decide +kernel
theorem dX5_tell_61 : decode cX5_tell 61 = .ok (.ishr, 1) := by decide +kernel
theorem dX5_tell_62 : decode cX5_tell 62 = .ok (.bipush 31, 2) := by decide +kernel
theorem dX5_tell_64 : decode cX5_tell 64 = .ok (.iand, 1) := by decide +kernel
theorem dX5_tell_65 : decode cX5_tell 65 = .ok (.ireturn, 1) := by decide +kernel
theorem dX5_tell_66 : decode cX5_tell 66 = .ok (.aload_n 0, 1) := by decide +kernel
theorem dX5_tell_67 : decode cX5_tell 67 = .ok (.getfield 15, 3) := by decide +kernel
theorem dX5_tell_70 : decode cX5_tell 70 = .ok (.iload_n 1, 1) := by decide +kernel
theorem dX5_tell_71 : decode cX5_tell 71 = .ok (.iaload, 1) := by decide +kernel
theorem dX5_tell_72 : decode cX5_tell 72 = .ok (.bipush 31, 2) := by decide +kernel
theorem dX5_tell_74 : decode cX5_tell 74 = .ok (.iand, 1) := by decide +kernel
theorem dX5_tell_75 : decode cX5_tell 75 = .ok (.iconst 1, 1) := by decide +kernel
theorem dX5_tell_76 : decode cX5_tell 76 = .ok (.isub, 1) := by decide +kernel
theorem dX5_tell_77 : decode cX5_tell 77 = .ok (.ireturn, 1) := by decide +kernel
theorem dX5_tell_78 : decode cX5_tell 78 = .ok (.iconst (-1), 1) := by decide +kernel
theorem dX5_tell_79 : decode cX5_tell 79 = .ok (.ireturn, 1) := by decide +kernel
theorem dX6_init_0 : decode cX6_init 0 = .ok (.aload_n 0, 1) := by decide +kernel
theorem dX6_init_1 : decode cX6_init 1 = .ok (.invokespecial 1, 3) := by decide +kernel
theorem dX6_init_4 : decode cX6_init 4 = .ok (.aload_n 0, 1) := by decide +kernel
theorem dX6_init_5 : decode cX6_init 5 = .ok (.new 7, 3) := by decide +kernel
theorem dX6_init_8 : decode cX6_init 8 = .ok (.dup, 1) := by decide +kernel
theorem dX6_init_9 : decode cX6_init 9 = .ok (.invokespecial 9, 3) := by decide +kernel
theorem dX6_init_12 : decode cX6_init 12 = .ok (.putfield 10, 3) := by decide +kernel
theorem dX6_init_15 : decode cX6_init 15 = .ok (.aload_n 0, 1) := by decide +kernel
theorem dX6_init_16 : decode cX6_init 16 = .ok (.new 16, 3) := by decide +kernel
theorem dX6_init_19 : decode cX6_init 19 = .ok (.dup, 1) := by decide +kernel
theorem dX6_init_20 : decode cX6_init 20 = .ok (.aload_n 0, 1) := by decide +kernel
theorem dX6_init_21 : decode cX6_init 21 = .ok (.getfield 10, 3) := by decide +kernel
theorem dX6_init_24 : decode cX6_init 24 = .ok (.invokespecial 18, 3) := by decide +kernel
theorem dX6_init_27 : decode cX6_init 27 = .ok (.putfield 21, 3) := by decide +kernel
theorem dX6_init_30 : decode cX6_init 30 = .ok (.aload_n 0, 1) := by decide +kernel
theorem dX6_init_31 : decode cX6_init 31 = .ok (.new 25, 3) := by decide +kernel
theorem dX6_init_34 : decode cX6_init 34 = .ok (.dup, 1) := by decide +kernel
theorem dX6_init_35 : decode cX6_init 35 = .ok (.aload_n 0, 1) := by decide +kernel
theorem dX6_init_36 : decode cX6_init 36 = .ok (.getfield 10, 3) := by decide +kernel
theorem dX6_init_39 : decode cX6_init 39 = .ok (.invokespecial 27, 3) := by decide +kernel
theorem dX6_init_42 : decode cX6_init 42 = .ok (.putfield 28, 3) := by decide +kernel
theorem dX6_init_45 : decode cX6_init 45 = .ok (.aload_n 0, 1) := by decide +kernel
theorem dX6_init_46 : decode cX6_init 46 = .ok (.new 32, 3) := by decide +kernel
theorem dX6_init_49 : decode cX6_init 49 = .ok (.dup, 1) := by decide +kernel
theorem dX6_init_50 : decode cX6_init 50 = .ok (.aload_n 0, 1) := by decide +kernel
theorem dX6_init_51 : decode cX6_init 51 = .ok (.getfield 10, 3) := by decide +kernel
theorem dX6_init_54 : decode cX6_init 54 = .ok (.invokespecial 34, 3) := by decide +kernel
theorem dX6_init_57 : decode cX6_init 57 = .ok (.putfield 35, 3) := by decide +kernel
theorem dX6_init_60 : decode cX6_init 60 = .ok (.aload_n 0, 1) := by decide +kernel
theorem dX6_init_61 : decode cX6_init 61 = .ok (.new 39, 3) := by decide +kernel
theorem dX6_init_64 : decode cX6_init 64 = .ok (.dup, 1) := by decide +kernel
theorem dX6_init_65 : decode cX6_init 65 = .ok (.invokespecial 41, 3) := by decide +kernel
theorem dX6_init_68 : decode cX6_init 68 = .ok (.putfield 42, 3) := by decide +kernel
theorem dX6_init_71 : decode cX6_init 71 = .ok (.aload_n 0, 1) := by decide +kernel
theorem dX6_init_72 : decode cX6_init 72 = .ok (.aconst_null, 1) := by decide +kernel
theorem dX6_init_73 : decode cX6_init 73 = .ok (.putfield 46, 3) := by decide +kernel
theorem dX6_init_76 : decode cX6_init 76 = .ok (.return_, 1) := by decide +kernel
theorem dX6_caves_0 : decode cX6_caves 0 = .ok (.iload_n 1, 1) := by decide +kernel
theorem dX6_caves_1 : decode cX6_caves 1 = .ok (.ifCond .lt 9, 3) := by decide +kernel
theorem dX6_caves_4 : decode cX6_caves 4 = .ok (.iload_n 1, 1) := by decide +kernel
theorem dX6_caves_5 : decode cX6_caves 5 = .ok (.bipush 12, 2) := by decide +kernel
theorem dX6_caves_7 : decode cX6_caves 7 = .ok (.if_icmp .le 5, 3) := by decide +kernel
theorem dX6_caves_10 : decode cX6_caves 10 = .ok (.iconst 0, 1) := by decide +kernel
theorem dX6_caves_11 : decode cX6_caves 11 = .ok (.ireturn, 1) := by decide +kernel
theorem dX6_caves_12 : decode cX6_caves 12 = .ok (.aload_n 0, 1) := by decide +kernel
theorem dX6_caves_13 : decode cX6_caves 13 = .ok (.getfield 10, 3) := by decide +kernel
theorem dX6_caves_16 : decode cX6_caves 16 = .ok (.iload_n 1, 1) := by decide +kernel
theorem dX6_caves_17 : decode cX6_caves 17 = .ok (.invokevirtual 50, 3) := by decide +kernel
theorem dX6_caves_20 : decode cX6_caves 20 = .ok (.aload_n 0, 1) := by decide +kernel
theorem dX6_caves_21 : decode cX6_caves 21 = .ok (.getfield 28, 3) := by decide +kernel
theorem dX6_caves_24 : decode cX6_caves 24 = .ok (.invokevirtual 54, 3) := by decide +kernel
theorem dX6_caves_27 : decode cX6_caves 27 = .ok (.aload_n 0, 1) := by decide +kernel
theorem dX6_caves_28 : decode cX6_caves 28 = .ok (.invokevirtual 57, 3) := by decide +kernel
theorem dX6_caves_31 : decode cX6_caves 31 = .ok (.iconst 1, 1) := by decide +kernel
theorem dX6_caves_32 : decode cX6_caves 32 = .ok (.ireturn, 1) := by decide +kernel
theorem dX6_passage_0 : decode cX6_passage 0 = .ok (.aload_n 0, 1) := by decide +kernel
theorem dX6_passage_1 : decode cX6_passage 1 = .ok (.getfield 10, 3) := by decide +kernel
theorem dX6_passage_4 : decode cX6_passage 4 = .ok (.invokevirtual 60, 3) := by decide +kernel
theorem dX6_passage_7 : decode cX6_passage 7 = .ok (.istore_n 3, 1) := by decide +kernel
theorem dX6_passage_8 : decode cX6_passage 8 = .ok (.iload_n 1, 1) := by decide +kernel
theorem dX6_passage_9 : decode cX6_passage 9 = .ok (.iload_n 2, 1) := by decide +kernel
theorem dX6_passage_10 : decode cX6_passage 10 = .ok (.if_icmp .eq 30, 3) := by decide +kernel
theorem dX6_passage_13 : decode cX6_passage 13 = .ok (.aload_n 0, 1) := by decide +kernel
theorem dX6_passage_14 : decode cX6_passage 14 = .ok (.getfield 10, 3) := by decide +kernel
theorem dX6_passage_17 : decode cX6_passage 17 = .ok (.iload_n 1, 1) := by decide +kernel
theorem dX6_passage_18 : decode cX6_passage 18 = .ok (.invokevirtual 64, 3) := by decide +kernel
theorem dX6_passage_21 : decode cX6_passage 21 = .ok (.ifCond .eq 19, 3) := by decide +kernel
theorem dX6_passage_24 : decode cX6_passage 24 = .ok (.aload_n 0, 1) := by decide +kernel
theorem dX6_passage_25 : decode cX6_passage 25 = .ok (.getfield 10, 3) := by decide +kernel
theorem dX6_passage_28 : decode cX6_passage 28 = .ok (.iload_n 2, 1) := by decide +kernel
theorem dX6_passage_29 : decode cX6_passage 29 = .ok (.invokevirtual 64, 3) := by decide +kernel
theorem dX6_passage_32 : decode cX6_passage 32 = .ok (.ifCond .eq 8, 3) := by decide +kernel
theorem dX6_passage_35 : decode cX6_passage 35 = .ok (.iload_n 3, 1) := by decide +kernel
theorem dX6_passage_36 : decode cX6_passage 36 = .ok (.iconst (-1), 1) := by decide +kernel
theorem dX6_passage_37 : decode cX6_passage 37 = .ok (.if_icmp .ne 5, 3) := by decide +kernel
theorem dX6_passage_40 : decode cX6_passage 40 = .ok (.iconst (-1), 1) := by decide +kernel
theorem dX6_passage_41 : decode cX6_passage 41 = .ok (.ireturn, 1) := by decide +kernel
theorem dX6_passage_42 : decode cX6_passage 42 = .ok (.aload_n 0, 1) := by decide +kernel
theorem dX6_passage_43 : decode cX6_passage 43 = .ok (.getfield 10, 3) := by decide +kernel
theorem dX6_passage_46 : decode cX6_passage 46 = .ok (.iload_n 3, 1) := by decide +kernel
theorem dX6_passage_47 : decode cX6_passage 47 = .ok (.iload_n 1, 1) := by decide +kernel
theorem dX6_passage_48 : decode cX6_passage 48 = .ok (.iload_n 2, 1) := by decide +kernel
theorem dX6_passage_49 : decode cX6_passage 49 = .ok (.invokevirtual 68, 3) := by decide +kernel
theorem dX6_passage_52 : decode cX6_passage 52 = .ok (.aload_n 0, 1) := by decide +kernel
theorem dX6_passage_53 : decode cX6_passage 53 = .ok (.invokevirtual 57, 3) := by decide +kernel
theorem dX6_passage_56 : decode cX6_passage 56 = .ok (.iload_n 3, 1) := by decide +kernel
theorem dX6_passage_57 : decode cX6_passage 57 = .ok (.ireturn, 1) := by decide +kernel
theorem dX6_drop_0 : decode cX6_drop 0 = .ok (.aload_n 0, 1) := by decide +kernel
theorem dX6_drop_1 : decode cX6_drop 1 = .ok (.getfield 10, 3) := by decide +kernel
theorem dX6_drop_4 : decode cX6_drop 4 = .ok (.iload_n 1, 1) := by decide +kernel
theorem dX6_drop_5 : decode cX6_drop 5 = .ok (.invokevirtual 72, 3) := by decide +kernel
theorem dX6_drop_8 : decode cX6_drop 8 = .ok (.ifCond .ne 5, 3) := by decide +kernel
theorem dX6_drop_11 : decode cX6_drop 11 = .ok (.iconst 0, 1) := by decide +kernel
theorem dX6_drop_12 : decode cX6_drop 12 = .ok (.ireturn, 1) := by decide +kernel
theorem dX6_drop_13 : decode cX6_drop 13 = .ok (.aload_n 0, 1) := by decide +kernel
theorem dX6_drop_14 : decode cX6_drop 14 = .ok (.getfield 10, 3) := by decide +kernel
theorem dX6_drop_17 : decode cX6_drop 17 = .ok (.iload_n 1, 1) := by decide +kernel
theorem dX6_drop_18 : decode cX6_drop 18 = .ok (.invokevirtual 75, 3) := by decide +kernel
theorem dX6_drop_21 : decode cX6_drop 21 = .ok (.aload_n 0, 1) := by decide +kernel
theorem dX6_drop_22 : decode cX6_drop 22 = .ok (.invokevirtual 57, 3) := by decide +kernel
theorem dX6_drop_25 : decode cX6_drop 25 = .ok (.iconst 1, 1) := by decide +kernel
theorem dX6_drop_26 : decode cX6_drop 26 = .ok (.ireturn, 1) := by decide +kernel
theorem dX6_mouth_0 : decode cX6_mouth 0 = .ok (.aload_n 0, 1) := by decide +kernel
theorem dX6_mouth_1 : decode cX6_mouth 1 = .ok (.getfield 10, 3) := by decide +kernel
theorem dX6_mouth_4 : decode cX6_mouth 4 = .ok (.iload_n 1, 1) := by decide +kernel
theorem dX6_mouth_5 : decode cX6_mouth 5 = .ok (.invokevirtual 64, 3) := by decide +kernel
theorem dX6_mouth_8 : decode cX6_mouth 8 = .ok (.ifCond .ne 5, 3) := by decide +kernel
theorem dX6_mouth_11 : decode cX6_mouth 11 = .ok (.iconst 0, 1) := by decide +kernel
theorem dX6_mouth_12 : decode cX6_mouth 12 = .ok (.ireturn, 1) := by decide +kernel
theorem dX6_mouth_13 : decode cX6_mouth 13 = .ok (.aload_n 0, 1) := by decide +kernel
theorem dX6_mouth_14 : decode cX6_mouth 14 = .ok (.getfield 10, 3) := by decide +kernel
theorem dX6_mouth_17 : decode cX6_mouth 17 = .ok (.iload_n 1, 1) := by decide +kernel
theorem dX6_mouth_18 : decode cX6_mouth 18 = .ok (.putfield 78, 3) := by decide +kernel
theorem dX6_mouth_21 : decode cX6_mouth 21 = .ok (.iconst 1, 1) := by decide +kernel
theorem dX6_mouth_22 : decode cX6_mouth 22 = .ok (.ireturn, 1) := by decide +kernel
theorem dX6_order_0 : decode cX6_order 0 = .ok (.iload_n 1, 1) := by decide +kernel
theorem dX6_order_1 : decode cX6_order 1 = .ok (.ifCond .lt 19, 3) := by decide +kernel
theorem dX6_order_4 : decode cX6_order 4 = .ok (.iload_n 1, 1) := by decide +kernel
theorem dX6_order_5 : decode cX6_order 5 = .ok (.iconst 3, 1) := by decide +kernel
theorem dX6_order_6 : decode cX6_order 6 = .ok (.if_icmp .gt 14, 3) := by decide +kernel
theorem dX6_order_9 : decode cX6_order 9 = .ok (.aload_n 0, 1) := by decide +kernel
theorem dX6_order_10 : decode cX6_order 10 = .ok (.getfield 10, 3) := by decide +kernel
theorem dX6_order_13 : decode cX6_order 13 = .ok (.iload_n 2, 1) := by decide +kernel
theorem dX6_order_14 : decode cX6_order 14 = .ok (.invokevirtual 64, 3) := by decide +kernel
theorem dX6_order_17 : decode cX6_order 17 = .ok (.ifCond .ne 5, 3) := by decide +kernel
theorem dX6_order_20 : decode cX6_order 20 = .ok (.iconst (-1), 1) := by decide +kernel
theorem dX6_order_21 : decode cX6_order 21 = .ok (.ireturn, 1) := by decide +kernel
theorem dX6_order_22 : decode cX6_order 22 = .ok (.iload_n 1, 1) := by decide +kernel
theorem dX6_order_23 : decode cX6_order 23 = .ok (.iconst 2, 1) := by decide +kernel
theorem dX6_order_24 : decode cX6_order 24 = .ok (.if_icmp .lt 17, 3) := by decide +kernel
theorem dX6_order_27 : decode cX6_order 27 = .ok (.aload_n 0, 1) := by decide +kernel
theorem dX6_order_28 : decode cX6_order 28 = .ok (.getfield 10, 3) := by decide +kernel
theorem dX6_order_31 : decode cX6_order 31 = .ok (.iload_n 3, 1) := by decide +kernel
theorem dX6_order_32 : decode cX6_order 32 = .ok (.iload_n 2, 1) := by decide +kernel
theorem dX6_order_33 : decode cX6_order 33 = .ok (.invokevirtual 82, 3) := by decide +kernel
theorem dX6_order_36 : decode cX6_order 36 = .ok (.ifCond .ne 5, 3) := by decide +kernel
theorem dX6_order_39 : decode cX6_order 39 = .ok (.iconst (-1), 1) := by decide +kernel
theorem dX6_order_40 : decode cX6_order 40 = .ok (.ireturn, 1) := by decide +kernel
theorem dX6_order_41 : decode cX6_order 41 = .ok (.aload_n 0, 1) := by decide +kernel
theorem dX6_order_42 : decode cX6_order 42 = .ok (.getfield 21, 3) := by decide +kernel
theorem dX6_order_45 : decode cX6_order 45 = .ok (.getfield 86, 3) := by decide +kernel
theorem dX6_order_48 : decode cX6_order 48 = .ok (.sipush 200, 3) := by decide +kernel
theorem dX6_order_51 : decode cX6_order 51 = .ok (.if_icmp .lt 5, 3) := by decide +kernel
theorem dX6_order_54 : decode cX6_order 54 = .ok (.iconst (-1), 1) := by decide +kernel
theorem dX6_order_55 : decode cX6_order 55 = .ok (.ireturn, 1) := by decide +kernel
theorem dX6_order_56 : decode cX6_order 56 = .ok (.aload_n 0, 1) := by decide +kernel
theorem dX6_order_57 : decode cX6_order 57 = .ok (.getfield 21, 3) := by decide +kernel
theorem dX6_order_60 : decode cX6_order 60 = .ok (.iload_n 1, 1) := by decide +kernel
theorem dX6_order_61 : decode cX6_order 61 = .ok (.iload_n 2, 1) := by decide +kernel
theorem dX6_order_62 : decode cX6_order 62 = .ok (.iload_n 1, 1) := by decide +kernel
theorem dX6_order_63 : decode cX6_order 63 = .ok (.iconst 2, 1) := by decide +kernel
theorem dX6_order_64 : decode cX6_order 64 = .ok (.if_icmp .lt 7, 3) := by decide +kernel
theorem dX6_order_67 : decode cX6_order 67 = .ok (.iload_n 3, 1) := by decide +kernel
theorem dX6_order_68 : decode cX6_order 68 = .ok (.goto 4, 3) := by decide +kernel
theorem dX6_order_71 : decode cX6_order 71 = .ok (.iconst (-1), 1) := by decide +kernel
theorem dX6_order_72 : decode cX6_order 72 = .ok (.invokevirtual 89, 3) := by decide +kernel
theorem dX6_order_75 : decode cX6_order 75 = .ok (.ifCond .eq 7, 3) := by decide +kernel
theorem dX6_order_78 : decode cX6_order 78 = .ok (.iconst 1, 1) := by decide +kernel
theorem dX6_order_79 : decode cX6_order 79 = .ok (.goto 4, 3) := by decide +kernel
theorem dX6_order_82 : decode cX6_order 82 = .ok (.iconst 0, 1) := by decide +kernel
theorem dX6_order_83 : decode cX6_order 83 = .ok (.ireturn, 1) := by decide +kernel
theorem dX6_undo_0 : decode cX6_undo 0 = .ok (.aload_n 0, 1) := by decide +kernel
theorem dX6_undo_1 : decode cX6_undo 1 = .ok (.getfield 21, 3) := by decide +kernel
theorem dX6_undo_4 : decode cX6_undo 4 = .ok (.invokevirtual 93, 3) := by decide +kernel
theorem dX6_undo_7 : decode cX6_undo 7 = .ok (.ireturn, 1) := by decide +kernel
theorem dX6_anew_0 : decode cX6_anew 0 = .ok (.aload_n 0, 1) := by decide +kernel
theorem dX6_anew_1 : decode cX6_anew 1 = .ok (.getfield 21, 3) := by decide +kernel
theorem dX6_anew_4 : decode cX6_anew 4 = .ok (.invokevirtual 97, 3) := by decide +kernel
theorem dX6_anew_7 : decode cX6_anew 7 = .ok (.return_, 1) := by decide +kernel
theorem dX6_count_0 : decode cX6_count 0 = .ok (.iload_n 1, 1) := by decide +kernel
theorem dX6_count_1 : decode cX6_count 1 = .ok (.tableswitch 191 0 10 #[59, 67, 78, 86, 100, 121, 140, 148, 159, 167, 175], 59) := by decide +kernel
theorem dX6_count_60 : decode cX6_count 60 = .ok (.aload_n 0, 1) := by decide +kernel
theorem dX6_count_61 : decode cX6_count 61 = .ok (.getfield 21, 3) := by decide +kernel
theorem dX6_count_64 : decode cX6_count 64 = .ok (.getfield 86, 3) := by decide +kernel
theorem dX6_count_67 : decode cX6_count 67 = .ok (.ireturn, 1) := by decide +kernel
theorem dX6_count_68 : decode cX6_count 68 = .ok (.aload_n 0, 1) := by decide +kernel
theorem dX6_count_69 : decode cX6_count 69 = .ok (.getfield 21, 3) := by decide +kernel
theorem dX6_count_72 : decode cX6_count 72 = .ok (.getfield 100, 3) := by decide +kernel
theorem dX6_count_75 : decode cX6_count 75 = .ok (.getfield 103, 3) := by decide +kernel
theorem dX6_count_78 : decode cX6_count 78 = .ok (.ireturn, 1) := by decide +kernel
theorem dX6_count_79 : decode cX6_count 79 = .ok (.aload_n 0, 1) := by decide +kernel
theorem dX6_count_80 : decode cX6_count 80 = .ok (.getfield 21, 3) := by decide +kernel
theorem dX6_count_83 : decode cX6_count 83 = .ok (.getfield 106, 3) := by decide +kernel
theorem dX6_count_86 : decode cX6_count 86 = .ok (.ireturn, 1) := by decide +kernel
theorem dX6_count_87 : decode cX6_count 87 = .ok (.aload_n 0, 1) := by decide +kernel
theorem dX6_count_88 : decode cX6_count 88 = .ok (.getfield 21, 3) := by decide +kernel
theorem dX6_count_91 : decode cX6_count 91 = .ok (.getfield 100, 3) := by decide +kernel
theorem dX6_count_94 : decode cX6_count 94 = .ok (.getfield 109, 3) := by decide +kernel
theorem dX6_count_97 : decode cX6_count 97 = .ok (.invokestatic 112, 3) := by decide +kernel
theorem dX6_count_100 : decode cX6_count 100 = .ok (.ireturn, 1) := by decide +kernel
theorem dX6_count_101 : decode cX6_count 101 = .ok (.aload_n 0, 1) := by decide +kernel
theorem dX6_count_102 : decode cX6_count 102 = .ok (.getfield 10, 3) := by decide +kernel
theorem dX6_count_105 : decode cX6_count 105 = .ok (.aload_n 0, 1) := by decide +kernel
theorem dX6_count_106 : decode cX6_count 106 = .ok (.getfield 21, 3) := by decide +kernel
theorem dX6_count_109 : decode cX6_count 109 = .ok (.getfield 100, 3) := by decide +kernel
theorem dX6_count_112 : decode cX6_count 112 = .ok (.getfield 109, 3) := by decide +kernel
theorem dX6_count_115 : decode cX6_count 115 = .ok (.invokevirtual 118, 3) := by decide +kernel
theorem dX6_count_118 : decode cX6_count 118 = .ok (.invokestatic 112, 3) := by decide +kernel
theorem dX6_count_121 : decode cX6_count 121 = .ok (.ireturn, 1) := by decide +kernel
theorem dX6_count_122 : decode cX6_count 122 = .ok (.aload_n 0, 1) := by decide +kernel
theorem dX6_count_123 : decode cX6_count 123 = .ok (.getfield 21, 3) := by decide +kernel
theorem dX6_count_126 : decode cX6_count 126 = .ok (.getfield 100, 3) := by decide +kernel
theorem dX6_count_129 : decode cX6_count 129 = .ok (.getfield 109, 3) := by decide +kernel
theorem dX6_count_132 : decode cX6_count 132 = .ok (.ifCond .ne 7, 3) := by decide +kernel
theorem dX6_count_135 : decode cX6_count 135 = .ok (.iconst 1, 1) := by decide +kernel
theorem dX6_count_136 : decode cX6_count 136 = .ok (.goto 4, 3) := by decide +kernel
theorem dX6_count_139 : decode cX6_count 139 = .ok (.iconst 0, 1) := by decide +kernel
theorem dX6_count_140 : decode cX6_count 140 = .ok (.ireturn, 1) := by decide +kernel
theorem dX6_count_141 : decode cX6_count 141 = .ok (.aload_n 0, 1) := by decide +kernel
theorem dX6_count_142 : decode cX6_count 142 = .ok (.getfield 10, 3) := by decide +kernel
theorem dX6_count_145 : decode cX6_count 145 = .ok (.getfield 121, 3) := by decide +kernel
theorem dX6_count_148 : decode cX6_count 148 = .ok (.ireturn, 1) := by decide +kernel
theorem dX6_count_149 : decode cX6_count 149 = .ok (.aload_n 0, 1) := by decide +kernel
theorem dX6_count_150 : decode cX6_count 150 = .ok (.getfield 10, 3) := by decide +kernel
theorem dX6_count_153 : decode cX6_count 153 = .ok (.getfield 124, 3) := by decide +kernel
theorem dX6_count_156 : decode cX6_count 156 = .ok (.invokestatic 112, 3) := by decide +kernel
theorem dX6_count_159 : decode cX6_count 159 = .ok (.ireturn, 1) := by decide +kernel
theorem dX6_count_160 : decode cX6_count 160 = .ok (.aload_n 0, 1) := by decide +kernel
theorem dX6_count_161 : decode cX6_count 161 = .ok (.getfield 10, 3) := by decide +kernel
theorem dX6_count_164 : decode cX6_count 164 = .ok (.getfield 78, 3) := by decide +kernel
theorem dX6_count_167 : decode cX6_count 167 = .ok (.ireturn, 1) := by decide +kernel
theorem dX6_count_168 : decode cX6_count 168 = .ok (.aload_n 0, 1) := by decide +kernel
theorem dX6_count_169 : decode cX6_count 169 = .ok (.getfield 10, 3) := by decide +kernel
theorem dX6_count_172 : decode cX6_count 172 = .ok (.invokevirtual 127, 3) := by decide +kernel
theorem dX6_count_175 : decode cX6_count 175 = .ok (.ireturn, 1) := by decide +kernel
theorem dX6_count_176 : decode cX6_count 176 = .ok (.aload_n 0, 1) := by decide +kernel
theorem dX6_count_177 : decode cX6_count 177 = .ok (.getfield 10, 3) := by decide +kernel
theorem dX6_count_180 : decode cX6_count 180 = .ok (.invokevirtual 130, 3) := by decide +kernel
theorem dX6_count_183 : decode cX6_count 183 = .ok (.ifCond .eq 7, 3) := by decide +kernel
theorem dX6_count_186 : decode cX6_count 186 = .ok (.iconst 1, 1) := by decide +kernel
theorem dX6_count_187 : decode cX6_count 187 = .ok (.goto 4, 3) := by decide +kernel
theorem dX6_count_190 : decode cX6_count 190 = .ok (.iconst 0, 1) := by decide +kernel
theorem dX6_count_191 : decode cX6_count 191 = .ok (.ireturn, 1) := by decide +kernel
theorem dX6_count_192 : decode cX6_count 192 = .ok (.iconst (-1), 1) := by decide +kernel
theorem dX6_count_193 : decode cX6_count 193 = .ok (.ireturn, 1) := by decide +kernel
theorem dX6_look_0 : decode cX6_look 0 = .ok (.iload_n 2, 1) := by decide +kernel
theorem dX6_look_1 : decode cX6_look 1 = .ok (.iconst 4, 1) := by decide +kernel
theorem dX6_look_2 : decode cX6_look 2 = .ok (.if_icmp .ge 25, 3) := by decide +kernel
theorem dX6_look_5 : decode cX6_look 5 = .ok (.aload_n 0, 1) := by decide +kernel
theorem dX6_look_6 : decode cX6_look 6 = .ok (.getfield 10, 3) := by decide +kernel
theorem dX6_look_9 : decode cX6_look 9 = .ok (.iload_n 1, 1) := by decide +kernel
theorem dX6_look_10 : decode cX6_look 10 = .ok (.invokevirtual 64, 3) := by decide +kernel
theorem dX6_look_13 : decode cX6_look 13 = .ok (.ifCond .eq 12, 3) := by decide +kernel
theorem dX6_look_16 : decode cX6_look 16 = .ok (.aload_n 0, 1) := by decide +kernel
theorem dX6_look_17 : decode cX6_look 17 = .ok (.iload_n 1, 1) := by decide +kernel
theorem dX6_look_18 : decode cX6_look 18 = .ok (.iload_n 2, 1) := by decide +kernel
theorem dX6_look_19 : decode cX6_look 19 = .ok (.invokevirtual 133, 3) := by decide +kernel
theorem dX6_look_22 : decode cX6_look 22 = .ok (.goto 4, 3) := by decide +kernel
theorem dX6_look_25 : decode cX6_look 25 = .ok (.iconst (-1), 1) := by decide +kernel
theorem dX6_look_26 : decode cX6_look 26 = .ok (.ireturn, 1) := by decide +kernel
theorem dX6_look_27 : decode cX6_look 27 = .ok (.aload_n 0, 1) := by decide +kernel
theorem dX6_look_28 : decode cX6_look 28 = .ok (.getfield 10, 3) := by decide +kernel
theorem dX6_look_31 : decode cX6_look 31 = .ok (.iload_n 1, 1) := by decide +kernel
theorem dX6_look_32 : decode cX6_look 32 = .ok (.invokevirtual 72, 3) := by decide +kernel
theorem dX6_look_35 : decode cX6_look 35 = .ok (.ifCond .eq 12, 3) := by decide +kernel
theorem dX6_look_38 : decode cX6_look 38 = .ok (.aload_n 0, 1) := by decide +kernel
theorem dX6_look_39 : decode cX6_look 39 = .ok (.iload_n 1, 1) := by decide +kernel
theorem dX6_look_40 : decode cX6_look 40 = .ok (.iload_n 2, 1) := by decide +kernel
theorem dX6_look_41 : decode cX6_look 41 = .ok (.invokevirtual 137, 3) := by decide +kernel
theorem dX6_look_44 : decode cX6_look 44 = .ok (.goto 4, 3) := by decide +kernel
theorem dX6_look_47 : decode cX6_look 47 = .ok (.iconst (-1), 1) := by decide +kernel
theorem dX6_look_48 : decode cX6_look 48 = .ok (.ireturn, 1) := by decide +kernel
theorem dX6_fewest_0 : decode cX6_fewest 0 = .ok (.aload_n 0, 1) := by decide +kernel
theorem dX6_fewest_1 : decode cX6_fewest 1 = .ok (.aconst_null, 1) := by decide +kernel
theorem dX6_fewest_2 : decode cX6_fewest 2 = .ok (.putfield 46, 3) := by decide +kernel
theorem dX6_fewest_5 : decode cX6_fewest 5 = .ok (.aload_n 0, 1) := by decide +kernel
theorem dX6_fewest_6 : decode cX6_fewest 6 = .ok (.iload_n 1, 1) := by decide +kernel
theorem dX6_fewest_7 : decode cX6_fewest 7 = .ok (.invokevirtual 140, 3) := by decide +kernel
theorem dX6_fewest_10 : decode cX6_fewest 10 = .ok (.ifCond .ne 5, 3) := by decide +kernel
theorem dX6_fewest_13 : decode cX6_fewest 13 = .ok (.iconst (-1), 1) := by decide +kernel
theorem dX6_fewest_14 : decode cX6_fewest 14 = .ok (.ireturn, 1) := by decide +kernel
theorem dX6_fewest_15 : decode cX6_fewest 15 = .ok (.iconst 1, 1) := by decide +kernel
theorem dX6_fewest_16 : decode cX6_fewest 16 = .ok (.istore_n 2, 1) := by decide +kernel
theorem dX6_fewest_17 : decode cX6_fewest 17 = .ok (.iload_n 2, 1) := by decide +kernel
theorem dX6_fewest_18 : decode cX6_fewest 18 = .ok (.iconst 3, 1) := by decide +kernel
theorem dX6_fewest_19 : decode cX6_fewest 19 = .ok (.if_icmp .gt 34, 3) := by decide +kernel
theorem dX6_fewest_22 : decode cX6_fewest 22 = .ok (.aload_n 0, 1) := by decide +kernel
theorem dX6_fewest_23 : decode cX6_fewest 23 = .ok (.getfield 35, 3) := by decide +kernel
theorem dX6_fewest_26 : decode cX6_fewest 26 = .ok (.iload_n 1, 1) := by decide +kernel
theorem dX6_fewest_27 : decode cX6_fewest 27 = .ok (.iload_n 2, 1) := by decide +kernel
theorem dX6_fewest_28 : decode cX6_fewest 28 = .ok (.invokevirtual 143, 3) := by decide +kernel
theorem dX6_fewest_31 : decode cX6_fewest 31 = .ok (.ifCond .eq 16, 3) := by decide +kernel
theorem dX6_fewest_34 : decode cX6_fewest 34 = .ok (.aload_n 0, 1) := by decide +kernel
theorem dX6_fewest_35 : decode cX6_fewest 35 = .ok (.aload_n 0, 1) := by decide +kernel
theorem dX6_fewest_36 : decode cX6_fewest 36 = .ok (.getfield 35, 3) := by decide +kernel
theorem dX6_fewest_39 : decode cX6_fewest 39 = .ok (.invokevirtual 146, 3) := by decide +kernel
theorem dX6_fewest_42 : decode cX6_fewest 42 = .ok (.putfield 46, 3) := by decide +kernel
theorem dX6_fewest_45 : decode cX6_fewest 45 = .ok (.iload_n 2, 1) := by decide +kernel
theorem dX6_fewest_46 : decode cX6_fewest 46 = .ok (.ireturn, 1) := by decide +kernel
theorem dX6_fewest_47 : decode cX6_fewest 47 = .ok (.iinc 2 1, 3) := by decide +kernel
theorem dX6_fewest_50 : decode cX6_fewest 50 = .ok (.goto (-33), 3) := by decide +kernel
theorem dX6_fewest_53 : decode cX6_fewest 53 = .ok (.iconst 4, 1) := by decide +kernel
theorem dX6_fewest_54 : decode cX6_fewest 54 = .ok (.ireturn, 1) := by decide +kernel
theorem dX6_plan_0 : decode cX6_plan 0 = .ok (.aload_n 0, 1) := by decide +kernel
theorem dX6_plan_1 : decode cX6_plan 1 = .ok (.getfield 46, 3) := by decide +kernel
theorem dX6_plan_4 : decode cX6_plan 4 = .ok (.ifnonnull 5, 3) := by decide +kernel
theorem dX6_plan_7 : decode cX6_plan 7 = .ok (.iconst (-1), 1) := by decide +kernel
theorem dX6_plan_8 : decode cX6_plan 8 = .ok (.ireturn, 1) := by decide +kernel
theorem dX6_plan_9 : decode cX6_plan 9 = .ok (.iload_n 1, 1) := by decide +kernel
theorem dX6_plan_10 : decode cX6_plan 10 = .ok (.iconst (-1), 1) := by decide +kernel
theorem dX6_plan_11 : decode cX6_plan 11 = .ok (.if_icmp .ne 15, 3) := by decide +kernel
theorem dX6_plan_14 : decode cX6_plan 14 = .ok (.iload_n 2, 1) := by decide +kernel
theorem dX6_plan_15 : decode cX6_plan 15 = .ok (.ifCond .ne 11, 3) := by decide +kernel
theorem dX6_plan_18 : decode cX6_plan 18 = .ok (.aload_n 0, 1) := by decide +kernel
theorem dX6_plan_19 : decode cX6_plan 19 = .ok (.getfield 46, 3) := by decide +kernel
theorem dX6_plan_22 : decode cX6_plan 22 = .ok (.invokevirtual 150, 3) := by decide +kernel
theorem dX6_plan_25 : decode cX6_plan 25 = .ok (.ireturn, 1) := by decide +kernel
theorem dX6_plan_26 : decode cX6_plan 26 = .ok (.aload_n 0, 1) := by decide +kernel
theorem dX6_plan_27 : decode cX6_plan 27 = .ok (.getfield 46, 3) := by decide +kernel
theorem dX6_plan_30 : decode cX6_plan 30 = .ok (.iload_n 1, 1) := by decide +kernel
theorem dX6_plan_31 : decode cX6_plan 31 = .ok (.iload_n 2, 1) := by decide +kernel
theorem dX6_plan_32 : decode cX6_plan 32 = .ok (.invokevirtual 155, 3) := by decide +kernel
theorem dX6_plan_35 : decode cX6_plan 35 = .ok (.ireturn, 1) := by decide +kernel
theorem dX6_witness_0 : decode cX6_witness 0 = .ok (.aload_n 0, 1) := by decide +kernel
theorem dX6_witness_1 : decode cX6_witness 1 = .ok (.iload_n 1, 1) := by decide +kernel
theorem dX6_witness_2 : decode cX6_witness 2 = .ok (.invokevirtual 140, 3) := by decide +kernel
theorem dX6_witness_5 : decode cX6_witness 5 = .ok (.ifCond .eq 13, 3) := by decide +kernel
theorem dX6_witness_8 : decode cX6_witness 8 = .ok (.iload_n 2, 1) := by decide +kernel
theorem dX6_witness_9 : decode cX6_witness 9 = .ok (.iconst 1, 1) := by decide +kernel
theorem dX6_witness_10 : decode cX6_witness 10 = .ok (.if_icmp .lt 8, 3) := by decide +kernel
theorem dX6_witness_13 : decode cX6_witness 13 = .ok (.iload_n 2, 1) := by decide +kernel
theorem dX6_witness_14 : decode cX6_witness 14 = .ok (.iconst 3, 1) := by decide +kernel
theorem dX6_witness_15 : decode cX6_witness 15 = .ok (.if_icmp .le 5, 3) := by decide +kernel
theorem dX6_witness_18 : decode cX6_witness 18 = .ok (.iconst (-1), 1) := by decide +kernel
theorem dX6_witness_19 : decode cX6_witness 19 = .ok (.ireturn, 1) := by decide +kernel
theorem dX6_witness_20 : decode cX6_witness 20 = .ok (.aload_n 0, 1) := by decide +kernel
theorem dX6_witness_21 : decode cX6_witness 21 = .ok (.getfield 35, 3) := by decide +kernel
theorem dX6_witness_24 : decode cX6_witness 24 = .ok (.iload_n 1, 1) := by decide +kernel
theorem dX6_witness_25 : decode cX6_witness 25 = .ok (.iload_n 2, 1) := by decide +kernel
theorem dX6_witness_26 : decode cX6_witness 26 = .ok (.invokevirtual 143, 3) := by decide +kernel
theorem dX6_witness_29 : decode cX6_witness 29 = .ok (.ifCond .eq 8, 3) := by decide +kernel
theorem dX6_witness_32 : decode cX6_witness 32 = .ok (.bipush (-2), 2) := by decide +kernel
theorem dX6_witness_34 : decode cX6_witness 34 = .ok (.goto 10, 3) := by decide +kernel
theorem dX6_witness_37 : decode cX6_witness 37 = .ok (.aload_n 0, 1) := by decide +kernel
theorem dX6_witness_38 : decode cX6_witness 38 = .ok (.getfield 35, 3) := by decide +kernel
theorem dX6_witness_41 : decode cX6_witness 41 = .ok (.getfield 158, 3) := by decide +kernel
theorem dX6_witness_44 : decode cX6_witness 44 = .ok (.ireturn, 1) := by decide +kernel
theorem dX6_judge_0 : decode cX6_judge 0 = .ok (.iload_n 1, 1) := by decide +kernel
theorem dX6_judge_1 : decode cX6_judge 1 = .ok (.invokestatic 161, 3) := by decide +kernel
theorem dX6_judge_4 : decode cX6_judge 4 = .ok (.ifCond .eq 13, 3) := by decide +kernel
theorem dX6_judge_7 : decode cX6_judge 7 = .ok (.aload_n 0, 1) := by decide +kernel
theorem dX6_judge_8 : decode cX6_judge 8 = .ok (.getfield 10, 3) := by decide +kernel
theorem dX6_judge_11 : decode cX6_judge 11 = .ok (.getfield 121, 3) := by decide +kernel
theorem dX6_judge_14 : decode cX6_judge 14 = .ok (.ifCond .ne 5, 3) := by decide +kernel
theorem dX6_judge_17 : decode cX6_judge 17 = .ok (.iconst (-1), 1) := by decide +kernel
theorem dX6_judge_18 : decode cX6_judge 18 = .ok (.ireturn, 1) := by decide +kernel
theorem dX6_judge_19 : decode cX6_judge 19 = .ok (.aload_n 0, 1) := by decide +kernel
theorem dX6_judge_20 : decode cX6_judge 20 = .ok (.iload_n 1, 1) := by decide +kernel
theorem dX6_judge_21 : decode cX6_judge 21 = .ok (.invokevirtual 164, 3) := by decide +kernel
theorem dX6_judge_24 : decode cX6_judge 24 = .ok (.ifCond .eq 7, 3) := by decide +kernel
theorem dX6_judge_27 : decode cX6_judge 27 = .ok (.iconst 1, 1) := by decide +kernel
theorem dX6_judge_28 : decode cX6_judge 28 = .ok (.goto 4, 3) := by decide +kernel
theorem dX6_judge_31 : decode cX6_judge 31 = .ok (.iconst 0, 1) := by decide +kernel
theorem dX6_judge_32 : decode cX6_judge 32 = .ok (.ireturn, 1) := by decide +kernel
theorem dX6_place_0 : decode cX6_place 0 = .ok (.aload_n 0, 1) := by decide +kernel
theorem dX6_place_1 : decode cX6_place 1 = .ok (.getfield 10, 3) := by decide +kernel
theorem dX6_place_4 : decode cX6_place 4 = .ok (.iload_n 1, 1) := by decide +kernel
theorem dX6_place_5 : decode cX6_place 5 = .ok (.invokevirtual 64, 3) := by decide +kernel
theorem dX6_place_8 : decode cX6_place 8 = .ok (.ifCond .eq 14, 3) := by decide +kernel
theorem dX6_place_11 : decode cX6_place 11 = .ok (.aload_n 0, 1) := by decide +kernel
theorem dX6_place_12 : decode cX6_place 12 = .ok (.getfield 10, 3) := by decide +kernel
theorem dX6_place_15 : decode cX6_place 15 = .ok (.iload_n 2, 1) := by decide +kernel
theorem dX6_place_16 : decode cX6_place 16 = .ok (.invokevirtual 64, 3) := by decide +kernel
theorem dX6_place_19 : decode cX6_place 19 = .ok (.ifCond .ne 5, 3) := by decide +kernel
theorem dX6_place_22 : decode cX6_place 22 = .ok (.iconst 0, 1) := by decide +kernel
theorem dX6_place_23 : decode cX6_place 23 = .ok (.ireturn, 1) := by decide +kernel
theorem dX6_place_24 : decode cX6_place 24 = .ok (.aload_n 0, 1) := by decide +kernel
theorem dX6_place_25 : decode cX6_place 25 = .ok (.getfield 28, 3) := by decide +kernel
theorem dX6_place_28 : decode cX6_place 28 = .ok (.iload_n 1, 1) := by decide +kernel
theorem dX6_place_29 : decode cX6_place 29 = .ok (.iload_n 2, 1) := by decide +kernel
theorem dX6_place_30 : decode cX6_place 30 = .ok (.invokevirtual 167, 3) := by decide +kernel
theorem dX6_place_33 : decode cX6_place 33 = .ok (.iconst 1, 1) := by decide +kernel
theorem dX6_place_34 : decode cX6_place 34 = .ok (.ireturn, 1) := by decide +kernel
theorem dX6_cut_0 : decode cX6_cut 0 = .ok (.iload_n 1, 1) := by decide +kernel
theorem dX6_cut_1 : decode cX6_cut 1 = .ok (.ifCond .lt 14, 3) := by decide +kernel
theorem dX6_cut_4 : decode cX6_cut 4 = .ok (.iload_n 1, 1) := by decide +kernel
theorem dX6_cut_5 : decode cX6_cut 5 = .ok (.aload_n 0, 1) := by decide +kernel
theorem dX6_cut_6 : decode cX6_cut 6 = .ok (.getfield 10, 3) := by decide +kernel
theorem dX6_cut_9 : decode cX6_cut 9 = .ok (.getfield 121, 3) := by decide +kernel
theorem dX6_cut_12 : decode cX6_cut 12 = .ok (.if_icmp .le 5, 3) := by decide +kernel
theorem dX6_cut_15 : decode cX6_cut 15 = .ok (.iconst (-1), 1) := by decide +kernel
theorem dX6_cut_16 : decode cX6_cut 16 = .ok (.ireturn, 1) := by decide +kernel
theorem dX6_cut_17 : decode cX6_cut 17 = .ok (.iload_n 1, 1) := by decide +kernel
theorem dX6_cut_18 : decode cX6_cut 18 = .ok (.ifCond .ne 13, 3) := by decide +kernel
theorem dX6_cut_21 : decode cX6_cut 21 = .ok (.aload_n 0, 1) := by decide +kernel
theorem dX6_cut_22 : decode cX6_cut 22 = .ok (.getfield 28, 3) := by decide +kernel
theorem dX6_cut_25 : decode cX6_cut 25 = .ok (.invokevirtual 171, 3) := by decide +kernel
theorem dX6_cut_28 : decode cX6_cut 28 = .ok (.goto 11, 3) := by decide +kernel
theorem dX6_cut_31 : decode cX6_cut 31 = .ok (.aload_n 0, 1) := by decide +kernel
theorem dX6_cut_32 : decode cX6_cut 32 = .ok (.getfield 28, 3) := by decide +kernel
theorem dX6_cut_35 : decode cX6_cut 35 = .ok (.iload_n 1, 1) := by decide +kernel
theorem dX6_cut_36 : decode cX6_cut 36 = .ok (.invokevirtual 174, 3) := by decide +kernel
theorem dX6_cut_39 : decode cX6_cut 39 = .ok (.ireturn, 1) := by decide +kernel
theorem dX6_width_0 : decode cX6_width 0 = .ok (.aload_n 0, 1) := by decide +kernel
theorem dX6_width_1 : decode cX6_width 1 = .ok (.getfield 10, 3) := by decide +kernel
theorem dX6_width_4 : decode cX6_width 4 = .ok (.getfield 121, 3) := by decide +kernel
theorem dX6_width_7 : decode cX6_width 7 = .ok (.ifCond .ne 5, 3) := by decide +kernel
theorem dX6_width_10 : decode cX6_width 10 = .ok (.iconst (-1), 1) := by decide +kernel
theorem dX6_width_11 : decode cX6_width 11 = .ok (.ireturn, 1) := by decide +kernel
theorem dX6_width_12 : decode cX6_width 12 = .ok (.aload_n 0, 1) := by decide +kernel
theorem dX6_width_13 : decode cX6_width 13 = .ok (.getfield 28, 3) := by decide +kernel
theorem dX6_width_16 : decode cX6_width 16 = .ok (.invokevirtual 177, 3) := by decide +kernel
theorem dX6_width_19 : decode cX6_width 19 = .ok (.ireturn, 1) := by decide +kernel
theorem dX6_forgetSearchAndPlan_0 : decode cX6_forgetSearchAndPlan 0 = .ok (.aload_n 0, 1) := by decide +kernel
theorem dX6_forgetSearchAndPlan_1 : decode cX6_forgetSearchAndPlan 1 = .ok (.getfield 21, 3) := by decide +kernel
theorem dX6_forgetSearchAndPlan_4 : decode cX6_forgetSearchAndPlan 4 = .ok (.invokevirtual 97, 3) := by decide +kernel
theorem dX6_forgetSearchAndPlan_7 : decode cX6_forgetSearchAndPlan 7 = .ok (.aload_n 0, 1) := by decide +kernel
theorem dX6_forgetSearchAndPlan_8 : decode cX6_forgetSearchAndPlan 8 = .ok (.aconst_null, 1) := by decide +kernel
theorem dX6_forgetSearchAndPlan_9 : decode cX6_forgetSearchAndPlan 9 = .ok (.putfield 46, 3) := by decide +kernel
theorem dX6_forgetSearchAndPlan_12 : decode cX6_forgetSearchAndPlan 12 = .ok (.return_, 1) := by decide +kernel
theorem dX6_lookAtCave_0 : decode cX6_lookAtCave 0 = .ok (.iload_n 2, 1) := by decide +kernel
theorem dX6_lookAtCave_1 : decode cX6_lookAtCave 1 = .ok (.tableswitch 81 0 3 #[31, 44, 59, 72], 31) := by decide +kernel
theorem dX6_lookAtCave_32 : decode cX6_lookAtCave 32 = .ok (.aload_n 0, 1) := by decide +kernel
theorem dX6_lookAtCave_33 : decode cX6_lookAtCave 33 = .ok (.getfield 21, 3) := by decide +kernel
theorem dX6_lookAtCave_36 : decode cX6_lookAtCave 36 = .ok (.getfield 100, 3) := by decide +kernel
theorem dX6_lookAtCave_39 : decode cX6_lookAtCave 39 = .ok (.getfield 180, 3) := by decide +kernel
theorem dX6_lookAtCave_42 : decode cX6_lookAtCave 42 = .ok (.iload_n 1, 1) := by decide +kernel
theorem dX6_lookAtCave_43 : decode cX6_lookAtCave 43 = .ok (.iaload, 1) := by decide +kernel
theorem dX6_lookAtCave_44 : decode cX6_lookAtCave 44 = .ok (.ireturn, 1) := by decide +kernel
theorem dX6_lookAtCave_45 : decode cX6_lookAtCave 45 = .ok (.aload_n 0, 1) := by decide +kernel
theorem dX6_lookAtCave_46 : decode cX6_lookAtCave 46 = .ok (.getfield 21, 3) := by decide +kernel
theorem dX6_lookAtCave_49 : decode cX6_lookAtCave 49 = .ok (.getfield 100, 3) := by decide +kernel
theorem dX6_lookAtCave_52 : decode cX6_lookAtCave 52 = .ok (.getfield 109, 3) := by decide +kernel
theorem dX6_lookAtCave_55 : decode cX6_lookAtCave 55 = .ok (.iload_n 1, 1) := by decide +kernel
theorem dX6_lookAtCave_56 : decode cX6_lookAtCave 56 = .ok (.ishr, 1) := by decide +kernel
theorem dX6_lookAtCave_57 : decode cX6_lookAtCave 57 = .ok (.iconst 1, 1) := by decide +kernel
theorem dX6_lookAtCave_58 : decode cX6_lookAtCave 58 = .ok (.iand, 1) := by decide +kernel
theorem dX6_lookAtCave_59 : decode cX6_lookAtCave 59 = .ok (.ireturn, 1) := by decide +kernel
theorem dX6_lookAtCave_60 : decode cX6_lookAtCave 60 = .ok (.aload_n 0, 1) := by decide +kernel
theorem dX6_lookAtCave_61 : decode cX6_lookAtCave 61 = .ok (.getfield 10, 3) := by decide +kernel
theorem dX6_lookAtCave_64 : decode cX6_lookAtCave 64 = .ok (.getfield 184, 3) := by decide +kernel
theorem dX6_lookAtCave_67 : decode cX6_lookAtCave 67 = .ok (.iload_n 1, 1) := by decide +kernel
theorem dX6_lookAtCave_68 : decode cX6_lookAtCave 68 = .ok (.iaload, 1) := by decide +kernel
theorem dX6_lookAtCave_69 : decode cX6_lookAtCave 69 = .ok (.invokestatic 112, 3) := by decide +kernel
theorem dX6_lookAtCave_72 : decode cX6_lookAtCave 72 = .ok (.ireturn, 1) := by decide +kernel
theorem dX6_lookAtCave_73 : decode cX6_lookAtCave 73 = .ok (.aload_n 0, 1) := by decide +kernel
theorem dX6_lookAtCave_74 : decode cX6_lookAtCave 74 = .ok (.getfield 28, 3) := by decide +kernel
theorem dX6_lookAtCave_77 : decode cX6_lookAtCave 77 = .ok (.iload_n 1, 1) := by decide +kernel
theorem dX6_lookAtCave_78 : decode cX6_lookAtCave 78 = .ok (.invokevirtual 187, 3) := by decide +kernel
theorem dX6_lookAtCave_81 : decode cX6_lookAtCave 81 = .ok (.ireturn, 1) := by decide +kernel
theorem dX6_lookAtCave_82 : decode cX6_lookAtCave 82 = .ok (.iconst (-1), 1) := by decide +kernel
theorem dX6_lookAtCave_83 : decode cX6_lookAtCave 83 = .ok (.ireturn, 1) := by decide +kernel
theorem dX6_lookAtPassage_0 : decode cX6_lookAtPassage 0 = .ok (.iload_n 2, 1) := by decide +kernel
theorem dX6_lookAtPassage_1 : decode cX6_lookAtPassage 1 = .ok (.tableswitch 85 4 7 #[31, 41, 51, 73], 31) := by decide +kernel
theorem dX6_lookAtPassage_32 : decode cX6_lookAtPassage 32 = .ok (.aload_n 0, 1) := by decide +kernel
theorem dX6_lookAtPassage_33 : decode cX6_lookAtPassage 33 = .ok (.getfield 10, 3) := by decide +kernel
theorem dX6_lookAtPassage_36 : decode cX6_lookAtPassage 36 = .ok (.getfield 190, 3) := by decide +kernel
theorem dX6_lookAtPassage_39 : decode cX6_lookAtPassage 39 = .ok (.iload_n 1, 1) := by decide +kernel
theorem dX6_lookAtPassage_40 : decode cX6_lookAtPassage 40 = .ok (.iaload, 1) := by decide +kernel
theorem dX6_lookAtPassage_41 : decode cX6_lookAtPassage 41 = .ok (.ireturn, 1) := by decide +kernel
theorem dX6_lookAtPassage_42 : decode cX6_lookAtPassage 42 = .ok (.aload_n 0, 1) := by decide +kernel
theorem dX6_lookAtPassage_43 : decode cX6_lookAtPassage 43 = .ok (.getfield 10, 3) := by decide +kernel
theorem dX6_lookAtPassage_46 : decode cX6_lookAtPassage 46 = .ok (.getfield 193, 3) := by decide +kernel
theorem dX6_lookAtPassage_49 : decode cX6_lookAtPassage 49 = .ok (.iload_n 1, 1) := by decide +kernel
theorem dX6_lookAtPassage_50 : decode cX6_lookAtPassage 50 = .ok (.iaload, 1) := by decide +kernel
theorem dX6_lookAtPassage_51 : decode cX6_lookAtPassage 51 = .ok (.ireturn, 1) := by decide +kernel
theorem dX6_lookAtPassage_52 : decode cX6_lookAtPassage 52 = .ok (.aload_n 0, 1) := by decide +kernel
theorem dX6_lookAtPassage_53 : decode cX6_lookAtPassage 53 = .ok (.getfield 10, 3) := by decide +kernel
theorem dX6_lookAtPassage_56 : decode cX6_lookAtPassage 56 = .ok (.aload_n 0, 1) := by decide +kernel
theorem dX6_lookAtPassage_57 : decode cX6_lookAtPassage 57 = .ok (.getfield 21, 3) := by decide +kernel
theorem dX6_lookAtPassage_60 : decode cX6_lookAtPassage 60 = .ok (.getfield 100, 3) := by decide +kernel
theorem dX6_lookAtPassage_63 : decode cX6_lookAtPassage 63 = .ok (.getfield 109, 3) := by decide +kernel
theorem dX6_lookAtPassage_66 : decode cX6_lookAtPassage 66 = .ok (.invokevirtual 118, 3) := by decide +kernel
theorem dX6_lookAtPassage_69 : decode cX6_lookAtPassage 69 = .ok (.iload_n 1, 1) := by decide +kernel
theorem dX6_lookAtPassage_70 : decode cX6_lookAtPassage 70 = .ok (.ishr, 1) := by decide +kernel
theorem dX6_lookAtPassage_71 : decode cX6_lookAtPassage 71 = .ok (.iconst 1, 1) := by decide +kernel
theorem dX6_lookAtPassage_72 : decode cX6_lookAtPassage 72 = .ok (.iand, 1) := by decide +kernel
theorem dX6_lookAtPassage_73 : decode cX6_lookAtPassage 73 = .ok (.ireturn, 1) := by decide +kernel
theorem dX6_lookAtPassage_74 : decode cX6_lookAtPassage 74 = .ok (.aload_n 0, 1) := by decide +kernel
theorem dX6_lookAtPassage_75 : decode cX6_lookAtPassage 75 = .ok (.getfield 21, 3) := by decide +kernel
theorem dX6_lookAtPassage_78 : decode cX6_lookAtPassage 78 = .ok (.invokevirtual 196, 3) := by decide +kernel
theorem dX6_lookAtPassage_81 : decode cX6_lookAtPassage 81 = .ok (.iload_n 1, 1) := by decide +kernel
theorem dX6_lookAtPassage_82 : decode cX6_lookAtPassage 82 = .ok (.ishr, 1) := by decide +kernel
theorem dX6_lookAtPassage_83 : decode cX6_lookAtPassage 83 = .ok (.iconst 1, 1) := by decide +kernel
theorem dX6_lookAtPassage_84 : decode cX6_lookAtPassage 84 = .ok (.iand, 1) := by decide +kernel
theorem dX6_lookAtPassage_85 : decode cX6_lookAtPassage 85 = .ok (.ireturn, 1) := by decide +kernel
theorem dX6_lookAtPassage_86 : decode cX6_lookAtPassage 86 = .ok (.iconst (-1), 1) := by decide +kernel
theorem dX6_lookAtPassage_87 : decode cX6_lookAtPassage 87 = .ok (.ireturn, 1) := by decide +kernel
theorem dX6_canBeSolved_0 : decode cX6_canBeSolved 0 = .ok (.iload_n 1, 1) := by decide +kernel
theorem dX6_canBeSolved_1 : decode cX6_canBeSolved 1 = .ok (.invokestatic 161, 3) := by decide +kernel
theorem dX6_canBeSolved_4 : decode cX6_canBeSolved 4 = .ok (.ifCond .eq 44, 3) := by decide +kernel
theorem dX6_canBeSolved_7 : decode cX6_canBeSolved 7 = .ok (.aload_n 0, 1) := by decide +kernel
theorem dX6_canBeSolved_8 : decode cX6_canBeSolved 8 = .ok (.getfield 10, 3) := by decide +kernel
theorem dX6_canBeSolved_11 : decode cX6_canBeSolved 11 = .ok (.getfield 121, 3) := by decide +kernel
theorem dX6_canBeSolved_14 : decode cX6_canBeSolved 14 = .ok (.ifCond .le 34, 3) := by decide +kernel
theorem dX6_canBeSolved_17 : decode cX6_canBeSolved 17 = .ok (.aload_n 0, 1) := by decide +kernel
theorem dX6_canBeSolved_18 : decode cX6_canBeSolved 18 = .ok (.getfield 10, 3) := by decide +kernel
theorem dX6_canBeSolved_21 : decode cX6_canBeSolved 21 = .ok (.getfield 121, 3) := by decide +kernel
theorem dX6_canBeSolved_24 : decode cX6_canBeSolved 24 = .ok (.bipush 6, 2) := by decide +kernel
theorem dX6_canBeSolved_26 : decode cX6_canBeSolved 26 = .ok (.if_icmp .gt 22, 3) := by decide +kernel
theorem dX6_canBeSolved_29 : decode cX6_canBeSolved 29 = .ok (.aload_n 0, 1) := by decide +kernel
theorem dX6_canBeSolved_30 : decode cX6_canBeSolved 30 = .ok (.getfield 10, 3) := by decide +kernel
theorem dX6_canBeSolved_33 : decode cX6_canBeSolved 33 = .ok (.getfield 124, 3) := by decide +kernel
theorem dX6_canBeSolved_36 : decode cX6_canBeSolved 36 = .ok (.invokestatic 112, 3) := by decide +kernel
theorem dX6_canBeSolved_39 : decode cX6_canBeSolved 39 = .ok (.bipush 8, 2) := by decide +kernel
theorem dX6_canBeSolved_41 : decode cX6_canBeSolved 41 = .ok (.if_icmp .gt 7, 3) := by decide +kernel
theorem dX6_canBeSolved_44 : decode cX6_canBeSolved 44 = .ok (.iconst 1, 1) := by decide +kernel
theorem dX6_canBeSolved_45 : decode cX6_canBeSolved 45 = .ok (.goto 4, 3) := by decide +kernel
theorem dX6_canBeSolved_48 : decode cX6_canBeSolved 48 = .ok (.iconst 0, 1) := by decide +kernel
theorem dX6_canBeSolved_49 : decode cX6_canBeSolved 49 = .ok (.ireturn, 1) := by decide +kernel
theorem dX6_isPlanBy_0 : decode cX6_isPlanBy 0 = .ok (.iconst 0, 1) := by decide +kernel
theorem dX6_isPlanBy_1 : decode cX6_isPlanBy 1 = .ok (.istore_n 2, 1) := by decide +kernel
theorem dX6_isPlanBy_2 : decode cX6_isPlanBy 2 = .ok (.aload_n 0, 1) := by decide +kernel
theorem dX6_isPlanBy_3 : decode cX6_isPlanBy 3 = .ok (.getfield 42, 3) := by decide +kernel
theorem dX6_isPlanBy_6 : decode cX6_isPlanBy 6 = .ok (.aload_n 0, 1) := by decide +kernel
theorem dX6_isPlanBy_7 : decode cX6_isPlanBy 7 = .ok (.getfield 10, 3) := by decide +kernel
theorem dX6_isPlanBy_10 : decode cX6_isPlanBy 10 = .ok (.invokevirtual 199, 3) := by decide +kernel
theorem dX6_isPlanBy_13 : decode cX6_isPlanBy 13 = .ok (.iconst 0, 1) := by decide +kernel
theorem dX6_isPlanBy_14 : decode cX6_isPlanBy 14 = .ok (.istore_n 3, 1) := by decide +kernel
theorem dX6_isPlanBy_15 : decode cX6_isPlanBy 15 = .ok (.iload_n 3, 1) := by decide +kernel
theorem dX6_isPlanBy_16 : decode cX6_isPlanBy 16 = .ok (.aload_n 0, 1) := by decide +kernel
theorem dX6_isPlanBy_17 : decode cX6_isPlanBy 17 = .ok (.getfield 21, 3) := by decide +kernel
theorem dX6_isPlanBy_20 : decode cX6_isPlanBy 20 = .ok (.getfield 86, 3) := by decide +kernel
theorem dX6_isPlanBy_23 : decode cX6_isPlanBy 23 = .ok (.if_icmp .ge 137, 3) := by decide +kernel
theorem dX6_isPlanBy_26 : decode cX6_isPlanBy 26 = .ok (.iload_n 3, 1) := by decide +kernel
theorem dX6_isPlanBy_27 : decode cX6_isPlanBy 27 = .ok (.sipush 200, 3) := by decide +kernel
theorem dX6_isPlanBy_30 : decode cX6_isPlanBy 30 = .ok (.if_icmp .ge 130, 3) := by decide +kernel
theorem dX6_isPlanBy_33 : decode cX6_isPlanBy 33 = .ok (.aload_n 0, 1) := by decide +kernel
theorem dX6_isPlanBy_34 : decode cX6_isPlanBy 34 = .ok (.getfield 21, 3) := by decide +kernel
theorem dX6_isPlanBy_37 : decode cX6_isPlanBy 37 = .ok (.getfield 201, 3) := by decide +kernel
theorem dX6_isPlanBy_40 : decode cX6_isPlanBy 40 = .ok (.iload_n 3, 1) := by decide +kernel
theorem dX6_isPlanBy_41 : decode cX6_isPlanBy 41 = .ok (.iaload, 1) := by decide +kernel
theorem dX6_isPlanBy_42 : decode cX6_isPlanBy 42 = .ok (.istore 4, 2) := by decide +kernel
theorem dX6_isPlanBy_44 : decode cX6_isPlanBy 44 = .ok (.aload_n 0, 1) := by decide +kernel
theorem dX6_isPlanBy_45 : decode cX6_isPlanBy 45 = .ok (.getfield 21, 3) := by decide +kernel
theorem dX6_isPlanBy_48 : decode cX6_isPlanBy 48 = .ok (.getfield 204, 3) := by decide +kernel
theorem dX6_isPlanBy_51 : decode cX6_isPlanBy 51 = .ok (.iload_n 3, 1) := by decide +kernel
theorem dX6_isPlanBy_52 : decode cX6_isPlanBy 52 = .ok (.iaload, 1) := by decide +kernel
theorem dX6_isPlanBy_53 : decode cX6_isPlanBy 53 = .ok (.istore 5, 2) := by decide +kernel
theorem dX6_isPlanBy_55 : decode cX6_isPlanBy 55 = .ok (.aload_n 0, 1) := by decide +kernel
theorem dX6_isPlanBy_56 : decode cX6_isPlanBy 56 = .ok (.getfield 42, 3) := by decide +kernel
theorem dX6_isPlanBy_59 : decode cX6_isPlanBy 59 = .ok (.getfield 109, 3) := by decide +kernel
theorem dX6_isPlanBy_62 : decode cX6_isPlanBy 62 = .ok (.ifCond .eq 19, 3) := by decide +kernel
theorem dX6_isPlanBy_65 : decode cX6_isPlanBy 65 = .ok (.aload_n 0, 1) := by decide +kernel
theorem dX6_isPlanBy_66 : decode cX6_isPlanBy 66 = .ok (.getfield 10, 3) := by decide +kernel
theorem dX6_isPlanBy_69 : decode cX6_isPlanBy 69 = .ok (.iload_n 1, 1) := by decide +kernel
theorem dX6_isPlanBy_70 : decode cX6_isPlanBy 70 = .ok (.iload 4, 2) := by decide +kernel
theorem dX6_isPlanBy_72 : decode cX6_isPlanBy 72 = .ok (.iload 5, 2) := by decide +kernel
theorem dX6_isPlanBy_74 : decode cX6_isPlanBy 74 = .ok (.iload_n 2, 1) := by decide +kernel
theorem dX6_isPlanBy_75 : decode cX6_isPlanBy 75 = .ok (.invokevirtual 207, 3) := by decide +kernel
theorem dX6_isPlanBy_78 : decode cX6_isPlanBy 78 = .ok (.ifCond .ne 5, 3) := by decide +kernel
theorem dX6_isPlanBy_81 : decode cX6_isPlanBy 81 = .ok (.iconst 0, 1) := by decide +kernel
theorem dX6_isPlanBy_82 : decode cX6_isPlanBy 82 = .ok (.ireturn, 1) := by decide +kernel
theorem dX6_isPlanBy_83 : decode cX6_isPlanBy 83 = .ok (.aload_n 0, 1) := by decide +kernel
theorem dX6_isPlanBy_84 : decode cX6_isPlanBy 84 = .ok (.getfield 42, 3) := by decide +kernel
theorem dX6_isPlanBy_87 : decode cX6_isPlanBy 87 = .ok (.aload_n 0, 1) := by decide +kernel
theorem dX6_isPlanBy_88 : decode cX6_isPlanBy 88 = .ok (.getfield 10, 3) := by decide +kernel
theorem dX6_isPlanBy_91 : decode cX6_isPlanBy 91 = .ok (.iload 4, 2) := by decide +kernel
theorem dX6_isPlanBy_93 : decode cX6_isPlanBy 93 = .ok (.iload 5, 2) := by decide +kernel
theorem dX6_isPlanBy_95 : decode cX6_isPlanBy 95 = .ok (.aload_n 0, 1) := by decide +kernel
theorem dX6_isPlanBy_96 : decode cX6_isPlanBy 96 = .ok (.getfield 21, 3) := by decide +kernel
theorem dX6_isPlanBy_99 : decode cX6_isPlanBy 99 = .ok (.getfield 211, 3) := by decide +kernel
theorem dX6_isPlanBy_102 : decode cX6_isPlanBy 102 = .ok (.iload_n 3, 1) := by decide +kernel
theorem dX6_isPlanBy_103 : decode cX6_isPlanBy 103 = .ok (.iaload, 1) := by decide +kernel
theorem dX6_isPlanBy_104 : decode cX6_isPlanBy 104 = .ok (.invokevirtual 214, 3) := by decide +kernel
theorem dX6_isPlanBy_107 : decode cX6_isPlanBy 107 = .ok (.iload_n 2, 1) := by decide +kernel
theorem dX6_isPlanBy_108 : decode cX6_isPlanBy 108 = .ok (.ifCond .ne 9, 3) := by decide +kernel
theorem dX6_isPlanBy_111 : decode cX6_isPlanBy 111 = .ok (.iload 4, 2) := by decide +kernel
theorem dX6_isPlanBy_113 : decode cX6_isPlanBy 113 = .ok (.iconst 2, 1) := by decide +kernel
theorem dX6_isPlanBy_114 : decode cX6_isPlanBy 114 = .ok (.if_icmp .lt 7, 3) := by decide +kernel
theorem dX6_isPlanBy_117 : decode cX6_isPlanBy 117 = .ok (.iconst 1, 1) := by decide +kernel
theorem dX6_isPlanBy_118 : decode cX6_isPlanBy 118 = .ok (.goto 4, 3) := by decide +kernel
theorem dX6_isPlanBy_121 : decode cX6_isPlanBy 121 = .ok (.iconst 0, 1) := by decide +kernel
theorem dX6_isPlanBy_122 : decode cX6_isPlanBy 122 = .ok (.istore_n 2, 1) := by decide +kernel
theorem dX6_isPlanBy_123 : decode cX6_isPlanBy 123 = .ok (.iload_n 1, 1) := by decide +kernel
theorem dX6_isPlanBy_124 : decode cX6_isPlanBy 124 = .ok (.iconst 2, 1) := by decide +kernel
theorem dX6_isPlanBy_125 : decode cX6_isPlanBy 125 = .ok (.if_icmp .ne 29, 3) := by decide +kernel
theorem dX6_isPlanBy_128 : decode cX6_isPlanBy 128 = .ok (.aload_n 0, 1) := by decide +kernel
theorem dX6_isPlanBy_129 : decode cX6_isPlanBy 129 = .ok (.getfield 10, 3) := by decide +kernel
theorem dX6_isPlanBy_132 : decode cX6_isPlanBy 132 = .ok (.aload_n 0, 1) := by decide +kernel
theorem dX6_isPlanBy_133 : decode cX6_isPlanBy 133 = .ok (.getfield 42, 3) := by decide +kernel
theorem dX6_isPlanBy_136 : decode cX6_isPlanBy 136 = .ok (.getfield 109, 3) := by decide +kernel
theorem dX6_isPlanBy_139 : decode cX6_isPlanBy 139 = .ok (.aload_n 0, 1) := by decide +kernel
theorem dX6_isPlanBy_140 : decode cX6_isPlanBy 140 = .ok (.getfield 42, 3) := by decide +kernel
theorem dX6_isPlanBy_143 : decode cX6_isPlanBy 143 = .ok (.getfield 218, 3) := by decide +kernel
theorem dX6_isPlanBy_146 : decode cX6_isPlanBy 146 = .ok (.invokevirtual 221, 3) := by decide +kernel
theorem dX6_isPlanBy_149 : decode cX6_isPlanBy 149 = .ok (.ifCond .ne 5, 3) := by decide +kernel
theorem dX6_isPlanBy_152 : decode cX6_isPlanBy 152 = .ok (.iconst 0, 1) := by decide +kernel
theorem dX6_isPlanBy_153 : decode cX6_isPlanBy 153 = .ok (.ireturn, 1) := by decide +kernel
theorem dX6_isPlanBy_154 : decode cX6_isPlanBy 154 = .ok (.iinc 3 1, 3) := by decide +kernel
theorem dX6_isPlanBy_157 : decode cX6_isPlanBy 157 = .ok (.goto (-142), 3) := by decide +kernel
theorem dX6_isPlanBy_160 : decode cX6_isPlanBy 160 = .ok (.aload_n 0, 1) := by decide +kernel
theorem dX6_isPlanBy_161 : decode cX6_isPlanBy 161 = .ok (.getfield 42, 3) := by decide +kernel
theorem dX6_isPlanBy_164 : decode cX6_isPlanBy 164 = .ok (.getfield 109, 3) := by decide +kernel
theorem dX6_isPlanBy_167 : decode cX6_isPlanBy 167 = .ok (.ifCond .ne 7, 3) := by decide +kernel
theorem dX6_isPlanBy_170 : decode cX6_isPlanBy 170 = .ok (.iconst 1, 1) := by decide +kernel
theorem dX6_isPlanBy_171 : decode cX6_isPlanBy 171 = .ok (.goto 4, 3) := by decide +kernel
theorem dX6_isPlanBy_174 : decode cX6_isPlanBy 174 = .ok (.iconst 0, 1) := by decide +kernel
theorem dX6_isPlanBy_175 : decode cX6_isPlanBy 175 = .ok (.ireturn, 1) := by decide +kernel
theorem dX6_isLaw_0 : decode cX6_isLaw 0 = .ok (.iload_n 0, 1) := by decide +kernel
theorem dX6_isLaw_1 : decode cX6_isLaw 1 = .ok (.ifCond .lt 12, 3) := by decide +kernel
theorem dX6_isLaw_4 : decode cX6_isLaw 4 = .ok (.iload_n 0, 1) := by decide +kernel
theorem dX6_isLaw_5 : decode cX6_isLaw 5 = .ok (.iconst 2, 1) := by decide +kernel
theorem dX6_isLaw_6 : decode cX6_isLaw 6 = .ok (.if_icmp .gt 7, 3) := by decide +kernel
theorem dX6_isLaw_9 : decode cX6_isLaw 9 = .ok (.iconst 1, 1) := by decide +kernel
theorem dX6_isLaw_10 : decode cX6_isLaw 10 = .ok (.goto 4, 3) := by decide +kernel
theorem dX6_isLaw_13 : decode cX6_isLaw 13 = .ok (.iconst 0, 1) := by decide +kernel
theorem dX6_isLaw_14 : decode cX6_isLaw 14 = .ok (.ireturn, 1) := by decide +kernel
theorem dX7_init_0 : decode cX7_init 0 = .ok (.aload_n 0, 1) := by decide +kernel
theorem dX7_init_1 : decode cX7_init 1 = .ok (.invokespecial 1, 3) := by decide +kernel
theorem dX7_init_4 : decode cX7_init 4 = .ok (.aload_n 0, 1) := by decide +kernel
theorem dX7_init_5 : decode cX7_init 5 = .ok (.bipush 18, 2) := by decide +kernel
theorem dX7_init_7 : decode cX7_init 7 = .ok (.newarray .int, 2) := by decide +kernel
theorem dX7_init_9 : decode cX7_init 9 = .ok (.putfield 7, 3) := by decide +kernel
theorem dX7_init_12 : decode cX7_init 12 = .ok (.aload_n 0, 1) := by decide +kernel
theorem dX7_init_13 : decode cX7_init 13 = .ok (.bipush 18, 2) := by decide +kernel
theorem dX7_init_15 : decode cX7_init 15 = .ok (.newarray .int, 2) := by decide +kernel
theorem dX7_init_17 : decode cX7_init 17 = .ok (.putfield 13, 3) := by decide +kernel
theorem dX7_init_20 : decode cX7_init 20 = .ok (.aload_n 0, 1) := by decide +kernel
theorem dX7_init_21 : decode cX7_init 21 = .ok (.bipush 18, 2) := by decide +kernel
theorem dX7_init_23 : decode cX7_init 23 = .ok (.newarray .boolean, 2) := by decide +kernel
theorem dX7_init_25 : decode cX7_init 25 = .ok (.putfield 16, 3) := by decide +kernel
theorem dX7_init_28 : decode cX7_init 28 = .ok (.aload_n 0, 1) := by decide +kernel
theorem dX7_init_29 : decode cX7_init 29 = .ok (.bipush 12, 2) := by decide +kernel
theorem dX7_init_31 : decode cX7_init 31 = .ok (.newarray .int, 2) := by decide +kernel
theorem dX7_init_33 : decode cX7_init 33 = .ok (.putfield 20, 3) := by decide +kernel
theorem dX7_init_36 : decode cX7_init 36 = .ok (.aload_n 0, 1) := by decide +kernel
theorem dX7_init_37 : decode cX7_init 37 = .ok (.bipush 12, 2) := by decide +kernel
theorem dX7_init_39 : decode cX7_init 39 = .ok (.newarray .int, 2) := by decide +kernel
theorem dX7_init_41 : decode cX7_init 41 = .ok (.putfield 23, 3) := by decide +kernel
theorem dX7_init_44 : decode cX7_init 44 = .ok (.aload_n 0, 1) := by decide +kernel
theorem dX7_init_45 : decode cX7_init 45 = .ok (.sipush 201, 3) := by decide +kernel
theorem dX7_init_48 : decode cX7_init 48 = .ok (.newarray .int, 2) := by decide +kernel
theorem dX7_init_50 : decode cX7_init 50 = .ok (.putfield 26, 3) := by decide +kernel
theorem dX7_init_53 : decode cX7_init 53 = .ok (.aload_n 0, 1) := by decide +kernel
theorem dX7_init_54 : decode cX7_init 54 = .ok (.sipush 201, 3) := by decide +kernel
theorem dX7_init_57 : decode cX7_init 57 = .ok (.newarray .int, 2) := by decide +kernel
theorem dX7_init_59 : decode cX7_init 59 = .ok (.putfield 29, 3) := by decide +kernel
theorem dX7_init_62 : decode cX7_init 62 = .ok (.aload_n 0, 1) := by decide +kernel
theorem dX7_init_63 : decode cX7_init 63 = .ok (.sipush 201, 3) := by decide +kernel
theorem dX7_init_66 : decode cX7_init 66 = .ok (.newarray .int, 2) := by decide +kernel
theorem dX7_init_68 : decode cX7_init 68 = .ok (.putfield 32, 3) := by decide +kernel
theorem dX7_init_71 : decode cX7_init 71 = .ok (.aload_n 0, 1) := by decide +kernel
theorem dX7_init_72 : decode cX7_init 72 = .ok (.sipush 2412, 3) := by decide +kernel
theorem dX7_init_75 : decode cX7_init 75 = .ok (.newarray .int, 2) := by decide +kernel
theorem dX7_init_77 : decode cX7_init 77 = .ok (.putfield 35, 3) := by decide +kernel
theorem dX7_init_80 : decode cX7_init 80 = .ok (.aload_n 0, 1) := by decide +kernel
theorem dX7_init_81 : decode cX7_init 81 = .ok (.sipush 201, 3) := by decide +kernel
theorem dX7_init_84 : decode cX7_init 84 = .ok (.newarray .int, 2) := by decide +kernel
theorem dX7_init_86 : decode cX7_init 86 = .ok (.putfield 38, 3) := by decide +kernel
theorem dX7_init_89 : decode cX7_init 89 = .ok (.aload_n 0, 1) := by decide +kernel
theorem dX7_init_90 : decode cX7_init 90 = .ok (.sipush 201, 3) := by decide +kernel
theorem dX7_init_93 : decode cX7_init 93 = .ok (.newarray .int, 2) := by decide +kernel
theorem dX7_init_95 : decode cX7_init 95 = .ok (.putfield 41, 3) := by decide +kernel
theorem dX7_init_98 : decode cX7_init 98 = .ok (.aload_n 0, 1) := by decide +kernel
theorem dX7_init_99 : decode cX7_init 99 = .ok (.ldc 44, 2) := by decide +kernel
theorem dX7_init_101 : decode cX7_init 101 = .ok (.newarray .int, 2) := by decide +kernel
theorem dX7_init_103 : decode cX7_init 103 = .ok (.putfield 45, 3) := by decide +kernel
theorem dX7_init_106 : decode cX7_init 106 = .ok (.aload_n 0, 1) := by decide +kernel
theorem dX7_init_107 : decode cX7_init 107 = .ok (.ldc 48, 2) := by decide +kernel
theorem dX7_init_109 : decode cX7_init 109 = .ok (.newarray .int, 2) := by decide +kernel
theorem dX7_init_111 : decode cX7_init 111 = .ok (.putfield 49, 3) := by decide +kernel
theorem dX7_init_114 : decode cX7_init 114 = .ok (.aload_n 0, 1) := by decide +kernel
theorem dX7_init_115 : decode cX7_init 115 = .ok (.ldc 48, 2) := by decide +kernel
theorem dX7_init_117 : decode cX7_init 117 = .ok (.newarray .int, 2) := by decide +kernel
theorem dX7_init_119 : decode cX7_init 119 = .ok (.putfield 52, 3) := by decide +kernel
theorem dX7_init_122 : decode cX7_init 122 = .ok (.aload_n 0, 1) := by decide +kernel
theorem dX7_init_123 : decode cX7_init 123 = .ok (.ldc 48, 2) := by decide +kernel
theorem dX7_init_125 : decode cX7_init 125 = .ok (.newarray .int, 2) := by decide +kernel
theorem dX7_init_127 : decode cX7_init 127 = .ok (.putfield 55, 3) := by decide +kernel
theorem dX7_init_130 : decode cX7_init 130 = .ok (.aload_n 0, 1) := by decide +kernel
theorem dX7_init_131 : decode cX7_init 131 = .ok (.iconst (-1), 1) := by decide +kernel
theorem dX7_init_132 : decode cX7_init 132 = .ok (.putfield 58, 3) := by decide +kernel
theorem dX7_init_135 : decode cX7_init 135 = .ok (.aload_n 0, 1) := by decide +kernel
theorem dX7_init_136 : decode cX7_init 136 = .ok (.sipush 600, 3) := by decide +kernel
theorem dX7_init_139 : decode cX7_init 139 = .ok (.newarray .int, 2) := by decide +kernel
theorem dX7_init_141 : decode cX7_init 141 = .ok (.putfield 62, 3) := by decide +kernel
theorem dX7_init_144 : decode cX7_init 144 = .ok (.aload_n 0, 1) := by decide +kernel
theorem dX7_init_145 : decode cX7_init 145 = .ok (.sipush 4096, 3) := by decide +kernel
theorem dX7_init_148 : decode cX7_init 148 = .ok (.newarray .int, 2) := by decide +kernel
theorem dX7_init_150 : decode cX7_init 150 = .ok (.putfield 65, 3) := by decide +kernel
theorem dX7_init_153 : decode cX7_init 153 = .ok (.return_, 1) := by decide +kernel
theorem dX7_isCave_0 : decode cX7_isCave 0 = .ok (.iload_n 1, 1) := by decide +kernel
theorem dX7_isCave_1 : decode cX7_isCave 1 = .ok (.ifCond .lt 15, 3) := by decide +kernel
theorem dX7_isCave_4 : decode cX7_isCave 4 = .ok (.iload_n 1, 1) := by decide +kernel
theorem dX7_isCave_5 : decode cX7_isCave 5 = .ok (.aload_n 0, 1) := by decide +kernel
theorem dX7_isCave_6 : decode cX7_isCave 6 = .ok (.getfield 68, 3) := by decide +kernel
theorem dX7_isCave_9 : decode cX7_isCave 9 = .ok (.if_icmp .ge 7, 3) := by decide +kernel
theorem dX7_isCave_12 : decode cX7_isCave 12 = .ok (.iconst 1, 1) := by decide +kernel
theorem dX7_isCave_13 : decode cX7_isCave 13 = .ok (.goto 4, 3) := by decide +kernel
theorem dX7_isCave_16 : decode cX7_isCave 16 = .ok (.iconst 0, 1) := by decide +kernel
theorem dX7_isCave_17 : decode cX7_isCave 17 = .ok (.ireturn, 1) := by decide +kernel
theorem dX7_isPassage_0 : decode cX7_isPassage 0 = .ok (.iload_n 1, 1) := by decide +kernel
theorem dX7_isPassage_1 : decode cX7_isPassage 1 = .ok (.ifCond .lt 22, 3) := by decide +kernel
theorem dX7_isPassage_4 : decode cX7_isPassage 4 = .ok (.iload_n 1, 1) := by decide +kernel
theorem dX7_isPassage_5 : decode cX7_isPassage 5 = .ok (.bipush 18, 2) := by decide +kernel
theorem dX7_isPassage_7 : decode cX7_isPassage 7 = .ok (.if_icmp .ge 16, 3) := by decide +kernel
theorem dX7_isPassage_10 : decode cX7_isPassage 10 = .ok (.aload_n 0, 1) := by decide +kernel
theorem dX7_isPassage_11 : decode cX7_isPassage 11 = .ok (.getfield 16, 3) := by decide +kernel
theorem dX7_isPassage_14 : decode cX7_isPassage 14 = .ok (.iload_n 1, 1) := by decide +kernel
theorem dX7_isPassage_15 : decode cX7_isPassage 15 = .ok (.baload, 1) := by decide +kernel
theorem dX7_isPassage_16 : decode cX7_isPassage 16 = .ok (.ifCond .eq 7, 3) := by decide +kernel
theorem dX7_isPassage_19 : decode cX7_isPassage 19 = .ok (.iconst 1, 1) := by decide +kernel
theorem dX7_isPassage_20 : decode cX7_isPassage 20 = .ok (.goto 4, 3) := by decide +kernel
theorem dX7_isPassage_23 : decode cX7_isPassage 23 = .ok (.iconst 0, 1) := by decide +kernel
theorem dX7_isPassage_24 : decode cX7_isPassage 24 = .ok (.ireturn, 1) := by decide +kernel
theorem dX7_isAt_0 : decode cX7_isAt 0 = .ok (.aload_n 0, 1) := by decide +kernel
theorem dX7_isAt_1 : decode cX7_isAt 1 = .ok (.getfield 16, 3) := by decide +kernel
theorem dX7_isAt_4 : decode cX7_isAt 4 = .ok (.iload_n 1, 1) := by decide +kernel
theorem dX7_isAt_5 : decode cX7_isAt 5 = .ok (.baload, 1) := by decide +kernel
theorem dX7_isAt_6 : decode cX7_isAt 6 = .ok (.ifCond .eq 27, 3) := by decide +kernel
theorem dX7_isAt_9 : decode cX7_isAt 9 = .ok (.aload_n 0, 1) := by decide +kernel
theorem dX7_isAt_10 : decode cX7_isAt 10 = .ok (.getfield 7, 3) := by decide +kernel
theorem dX7_isAt_13 : decode cX7_isAt 13 = .ok (.iload_n 1, 1) := by decide +kernel
theorem dX7_isAt_14 : decode cX7_isAt 14 = .ok (.iaload, 1) := by decide +kernel
theorem dX7_isAt_15 : decode cX7_isAt 15 = .ok (.iload_n 2, 1) := by decide +kernel
theorem dX7_isAt_16 : decode cX7_isAt 16 = .ok (.if_icmp .eq 13, 3) := by decide +kernel
theorem dX7_isAt_19 : decode cX7_isAt 19 = .ok (.aload_n 0, 1) := by decide +kernel
theorem dX7_isAt_20 : decode cX7_isAt 20 = .ok (.getfield 13, 3) := by decide +kernel
theorem dX7_isAt_23 : decode cX7_isAt 23 = .ok (.iload_n 1, 1) := by decide +kernel
theorem dX7_isAt_24 : decode cX7_isAt 24 = .ok (.iaload, 1) := by decide +kernel
theorem dX7_isAt_25 : decode cX7_isAt 25 = .ok (.iload_n 2, 1) := by decide +kernel
theorem dX7_isAt_26 : decode cX7_isAt 26 = .ok (.if_icmp .ne 7, 3) := by decide +kernel
theorem dX7_isAt_29 : decode cX7_isAt 29 = .ok (.iconst 1, 1) := by decide +kernel
theorem dX7_isAt_30 : decode cX7_isAt 30 = .ok (.goto 4, 3) := by decide +kernel
theorem dX7_isAt_33 : decode cX7_isAt 33 = .ok (.iconst 0, 1) := by decide +kernel
theorem dX7_isAt_34 : decode cX7_isAt 34 = .ok (.ireturn, 1) := by decide +kernel
theorem dX7_other_0 : decode cX7_other 0 = .ok (.aload_n 0, 1) := by decide +kernel
theorem dX7_other_1 : decode cX7_other 1 = .ok (.getfield 7, 3) := by decide +kernel
theorem dX7_other_4 : decode cX7_other 4 = .ok (.iload_n 1, 1) := by decide +kernel
theorem dX7_other_5 : decode cX7_other 5 = .ok (.iaload, 1) := by decide +kernel
theorem dX7_other_6 : decode cX7_other 6 = .ok (.iload_n 2, 1) := by decide +kernel
theorem dX7_other_7 : decode cX7_other 7 = .ok (.if_icmp .ne 12, 3) := by decide +kernel
theorem dX7_other_10 : decode cX7_other 10 = .ok (.aload_n 0, 1) := by decide +kernel
theorem dX7_other_11 : decode cX7_other 11 = .ok (.getfield 13, 3) := by decide +kernel
theorem dX7_other_14 : decode cX7_other 14 = .ok (.iload_n 1, 1) := by decide +kernel
theorem dX7_other_15 : decode cX7_other 15 = .ok (.iaload, 1) := by decide +kernel
theorem dX7_other_16 : decode cX7_other 16 = .ok (.goto 9, 3) := by decide +kernel
theorem dX7_other_19 : decode cX7_other 19 = .ok (.aload_n 0, 1) := by decide +kernel
theorem dX7_other_20 : decode cX7_other 20 = .ok (.getfield 7, 3) := by decide +kernel
theorem dX7_other_23 : decode cX7_other 23 = .ok (.iload_n 1, 1) := by decide +kernel
theorem dX7_other_24 : decode cX7_other 24 = .ok (.iaload, 1) := by decide +kernel
theorem dX7_other_25 : decode cX7_other 25 = .ok (.ireturn, 1) := by decide +kernel
theorem dX7_passages_0 : decode cX7_passages 0 = .ok (.iconst 0, 1) := by decide +kernel
theorem dX7_passages_1 : decode cX7_passages 1 = .ok (.istore_n 1, 1) := by decide +kernel
theorem dX7_passages_2 : decode cX7_passages 2 = .ok (.iconst 0, 1) := by decide +kernel
theorem dX7_passages_3 : decode cX7_passages 3 = .ok (.istore_n 2, 1) := by decide +kernel
theorem dX7_passages_4 : decode cX7_passages 4 = .ok (.iload_n 2, 1) := by decide +kernel
theorem dX7_passages_5 : decode cX7_passages 5 = .ok (.bipush 18, 2) := by decide +kernel
theorem dX7_passages_7 : decode cX7_passages 7 = .ok (.if_icmp .ge 26, 3) := by decide +kernel
theorem dX7_passages_10 : decode cX7_passages 10 = .ok (.iload_n 1, 1) := by decide +kernel
theorem dX7_passages_11 : decode cX7_passages 11 = .ok (.aload_n 0, 1) := by decide +kernel
theorem dX7_passages_12 : decode cX7_passages 12 = .ok (.getfield 16, 3) := by decide +kernel
theorem dX7_passages_15 : decode cX7_passages 15 = .ok (.iload_n 2, 1) := by decide +kernel
theorem dX7_passages_16 : decode cX7_passages 16 = .ok (.baload, 1) := by decide +kernel
theorem dX7_passages_17 : decode cX7_passages 17 = .ok (.ifCond .eq 7, 3) := by decide +kernel
theorem dX7_passages_20 : decode cX7_passages 20 = .ok (.iconst 1, 1) := by decide +kernel
theorem dX7_passages_21 : decode cX7_passages 21 = .ok (.goto 4, 3) := by decide +kernel
theorem dX7_passages_24 : decode cX7_passages 24 = .ok (.iconst 0, 1) := by decide +kernel
theorem dX7_passages_25 : decode cX7_passages 25 = .ok (.iadd, 1) := by decide +kernel
theorem dX7_passages_26 : decode cX7_passages 26 = .ok (.istore_n 1, 1) := by decide +kernel
theorem dX7_passages_27 : decode cX7_passages 27 = .ok (.iinc 2 1, 3) := by decide +kernel
theorem dX7_passages_30 : decode cX7_passages 30 = .ok (.goto (-26), 3) := by decide +kernel
theorem dX7_passages_33 : decode cX7_passages 33 = .ok (.iload_n 1, 1) := by decide +kernel
theorem dX7_passages_34 : decode cX7_passages 34 = .ok (.ireturn, 1) := by decide +kernel
theorem dX7_changes_0 : decode cX7_changes 0 = .ok (.aload_n 0, 1) := by decide +kernel
theorem dX7_changes_1 : decode cX7_changes 1 = .ok (.iconst (-1), 1) := by decide +kernel
theorem dX7_changes_2 : decode cX7_changes 2 = .ok (.putfield 58, 3) := by decide +kernel
theorem dX7_changes_5 : decode cX7_changes 5 = .ok (.aload_n 0, 1) := by decide +kernel
theorem dX7_changes_6 : decode cX7_changes 6 = .ok (.invokevirtual 71, 3) := by decide +kernel
theorem dX7_changes_9 : decode cX7_changes 9 = .ok (.return_, 1) := by decide +kernel
theorem dX7_caves_0 : decode cX7_caves 0 = .ok (.iload_n 1, 1) := by decide +kernel
theorem dX7_caves_1 : decode cX7_caves 1 = .ok (.ifCond .lt 9, 3) := by decide +kernel
theorem dX7_caves_4 : decode cX7_caves 4 = .ok (.iload_n 1, 1) := by decide +kernel
theorem dX7_caves_5 : decode cX7_caves 5 = .ok (.bipush 12, 2) := by decide +kernel
theorem dX7_caves_7 : decode cX7_caves 7 = .ok (.if_icmp .le 5, 3) := by decide +kernel
theorem dX7_caves_10 : decode cX7_caves 10 = .ok (.iconst 0, 1) := by decide +kernel
theorem dX7_caves_11 : decode cX7_caves 11 = .ok (.ireturn, 1) := by decide +kernel
theorem dX7_caves_12 : decode cX7_caves 12 = .ok (.aload_n 0, 1) := by decide +kernel
theorem dX7_caves_13 : decode cX7_caves 13 = .ok (.iload_n 1, 1) := by decide +kernel
theorem dX7_caves_14 : decode cX7_caves 14 = .ok (.putfield 68, 3) := by decide +kernel
theorem dX7_caves_17 : decode cX7_caves 17 = .ok (.aload_n 0, 1) := by decide +kernel
theorem dX7_caves_18 : decode cX7_caves 18 = .ok (.iconst 0, 1) := by decide +kernel
theorem dX7_caves_19 : decode cX7_caves 19 = .ok (.putfield 74, 3) := by decide +kernel
theorem dX7_caves_22 : decode cX7_caves 22 = .ok (.iconst 0, 1) := by decide +kernel
theorem dX7_caves_23 : decode cX7_caves 23 = .ok (.istore_n 2, 1) := by decide +kernel
theorem dX7_caves_24 : decode cX7_caves 24 = .ok (.iload_n 2, 1) := by decide +kernel
theorem dX7_caves_25 : decode cX7_caves 25 = .ok (.bipush 18, 2) := by decide +kernel
theorem dX7_caves_27 : decode cX7_caves 27 = .ok (.if_icmp .ge 16, 3) := by decide +kernel
theorem dX7_caves_30 : decode cX7_caves 30 = .ok (.aload_n 0, 1) := by decide +kernel
theorem dX7_caves_31 : decode cX7_caves 31 = .ok (.getfield 16, 3) := by decide +kernel
theorem dX7_caves_34 : decode cX7_caves 34 = .ok (.iload_n 2, 1) := by decide +kernel
theorem dX7_caves_35 : decode cX7_caves 35 = .ok (.iconst 0, 1) := by decide +kernel
theorem dX7_caves_36 : decode cX7_caves 36 = .ok (.bastore, 1) := by decide +kernel
theorem dX7_caves_37 : decode cX7_caves 37 = .ok (.iinc 2 1, 3) := by decide +kernel
theorem dX7_caves_40 : decode cX7_caves 40 = .ok (.goto (-16), 3) := by decide +kernel
theorem dX7_caves_43 : decode cX7_caves 43 = .ok (.iconst 0, 1) := by decide +kernel
theorem dX7_caves_44 : decode cX7_caves 44 = .ok (.istore_n 2, 1) := by decide +kernel
theorem dX7_caves_45 : decode cX7_caves 45 = .ok (.iload_n 2, 1) := by decide +kernel
theorem dX7_caves_46 : decode cX7_caves 46 = .ok (.bipush 12, 2) := by decide +kernel
theorem dX7_caves_48 : decode cX7_caves 48 = .ok (.if_icmp .ge 16, 3) := by decide +kernel
theorem dX7_caves_51 : decode cX7_caves 51 = .ok (.aload_n 0, 1) := by decide +kernel
theorem dX7_caves_52 : decode cX7_caves 52 = .ok (.getfield 20, 3) := by decide +kernel
theorem dX7_caves_55 : decode cX7_caves 55 = .ok (.iload_n 2, 1) := by decide +kernel
theorem dX7_caves_56 : decode cX7_caves 56 = .ok (.iload_n 2, 1) := by decide +kernel
theorem dX7_caves_57 : decode cX7_caves 57 = .ok (.iastore, 1) := by decide +kernel
theorem dX7_caves_58 : decode cX7_caves 58 = .ok (.iinc 2 1, 3) := by decide +kernel
theorem dX7_caves_61 : decode cX7_caves 61 = .ok (.goto (-16), 3) := by decide +kernel
theorem dX7_caves_64 : decode cX7_caves 64 = .ok (.aload_n 0, 1) := by decide +kernel
theorem dX7_caves_65 : decode cX7_caves 65 = .ok (.invokevirtual 77, 3) := by decide +kernel
theorem dX7_caves_68 : decode cX7_caves 68 = .ok (.iconst 1, 1) := by decide +kernel
theorem dX7_caves_69 : decode cX7_caves 69 = .ok (.ireturn, 1) := by decide +kernel
theorem dX7_passage_0 : decode cX7_passage 0 = .ok (.aload_n 0, 1) := by decide +kernel
theorem dX7_passage_1 : decode cX7_passage 1 = .ok (.iload_n 1, 1) := by decide +kernel
theorem dX7_passage_2 : decode cX7_passage 2 = .ok (.invokevirtual 80, 3) := by decide +kernel
theorem dX7_passage_5 : decode cX7_passage 5 = .ok (.ifCond .eq 16, 3) := by decide +kernel
theorem dX7_passage_8 : decode cX7_passage 8 = .ok (.aload_n 0, 1) := by decide +kernel
theorem dX7_passage_9 : decode cX7_passage 9 = .ok (.iload_n 2, 1) := by decide +kernel
theorem dX7_passage_10 : decode cX7_passage 10 = .ok (.invokevirtual 80, 3) := by decide +kernel
theorem dX7_passage_13 : decode cX7_passage 13 = .ok (.ifCond .eq 8, 3) := by decide +kernel
theorem dX7_passage_16 : decode cX7_passage 16 = .ok (.iload_n 1, 1) := by decide +kernel
theorem dX7_passage_17 : decode cX7_passage 17 = .ok (.iload_n 2, 1) := by decide +kernel
theorem dX7_passage_18 : decode cX7_passage 18 = .ok (.if_icmp .ne 5, 3) := by decide +kernel
theorem dX7_passage_21 : decode cX7_passage 21 = .ok (.iconst (-1), 1) := by decide +kernel
theorem dX7_passage_22 : decode cX7_passage 22 = .ok (.ireturn, 1) := by decide +kernel
theorem dX7_passage_23 : decode cX7_passage 23 = .ok (.iconst 0, 1) := by decide +kernel
theorem dX7_passage_24 : decode cX7_passage 24 = .ok (.istore_n 3, 1) := by decide +kernel
theorem dX7_passage_25 : decode cX7_passage 25 = .ok (.iload_n 3, 1) := by decide +kernel
theorem dX7_passage_26 : decode cX7_passage 26 = .ok (.bipush 18, 2) := by decide +kernel
theorem dX7_passage_28 : decode cX7_passage 28 = .ok (.if_icmp .ge 19, 3) := by decide +kernel
theorem dX7_passage_31 : decode cX7_passage 31 = .ok (.aload_n 0, 1) := by decide +kernel
theorem dX7_passage_32 : decode cX7_passage 32 = .ok (.getfield 16, 3) := by decide +kernel
theorem dX7_passage_35 : decode cX7_passage 35 = .ok (.iload_n 3, 1) := by decide +kernel
theorem dX7_passage_36 : decode cX7_passage 36 = .ok (.baload, 1) := by decide +kernel
theorem dX7_passage_37 : decode cX7_passage 37 = .ok (.ifCond .eq 10, 3) := by decide +kernel
theorem dX7_passage_40 : decode cX7_passage 40 = .ok (.iload_n 3, 1) := by decide +kernel
theorem dX7_passage_41 : decode cX7_passage 41 = .ok (.iconst 1, 1) := by decide +kernel
theorem dX7_passage_42 : decode cX7_passage 42 = .ok (.iadd, 1) := by decide +kernel
