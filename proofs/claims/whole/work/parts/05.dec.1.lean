theorem dX1_spread_72 : decode cX1_spread 72 = .ok (.iconst (-1), 1) := by decide +kernel
theorem dX1_spread_73 : decode cX1_spread 73 = .ok (.ixor, 1) := by decide +kernel
theorem dX1_spread_74 : decode cX1_spread 74 = .ok (.iand, 1) := by decide +kernel
theorem dX1_spread_75 : decode cX1_spread 75 = .ok (.istore 4, 2) := by decide +kernel
theorem dX1_spread_77 : decode cX1_spread 77 = .ok (.iload_n 3, 1) := by decide +kernel
theorem dX1_spread_78 : decode cX1_spread 78 = .ok (.iload 4, 2) := by decide +kernel
theorem dX1_spread_80 : decode cX1_spread 80 = .ok (.ior, 1) := by decide +kernel
theorem dX1_spread_81 : decode cX1_spread 81 = .ok (.istore_n 3, 1) := by decide +kernel
theorem dX1_spread_82 : decode cX1_spread 82 = .ok (.iinc 5 1, 3) := by decide +kernel
theorem dX1_spread_85 : decode cX1_spread 85 = .ok (.goto (-77), 3) := by decide +kernel
theorem dX1_spread_88 : decode cX1_spread 88 = .ok (.iload_n 3, 1) := by decide +kernel
theorem dX1_spread_89 : decode cX1_spread 89 = .ok (.ireturn, 1) := by decide +kernel
theorem dX1_lostBehind_0 : decode cX1_lostBehind 0 = .ok (.iload_n 1, 1) := by decide +kernel
theorem dX1_lostBehind_1 : decode cX1_lostBehind 1 = .ok (.iload_n 2, 1) := by decide +kernel
theorem dX1_lostBehind_2 : decode cX1_lostBehind 2 = .ok (.iconst (-1), 1) := by decide +kernel
theorem dX1_lostBehind_3 : decode cX1_lostBehind 3 = .ok (.ixor, 1) := by decide +kernel
theorem dX1_lostBehind_4 : decode cX1_lostBehind 4 = .ok (.iand, 1) := by decide +kernel
theorem dX1_lostBehind_5 : decode cX1_lostBehind 5 = .ok (.istore 5, 2) := by decide +kernel
theorem dX1_lostBehind_7 : decode cX1_lostBehind 7 = .ok (.iload_n 2, 1) := by decide +kernel
theorem dX1_lostBehind_8 : decode cX1_lostBehind 8 = .ok (.iload_n 3, 1) := by decide +kernel
theorem dX1_lostBehind_9 : decode cX1_lostBehind 9 = .ok (.ishr, 1) := by decide +kernel
theorem dX1_lostBehind_10 : decode cX1_lostBehind 10 = .ok (.iconst 1, 1) := by decide +kernel
theorem dX1_lostBehind_11 : decode cX1_lostBehind 11 = .ok (.iand, 1) := by decide +kernel
theorem dX1_lostBehind_12 : decode cX1_lostBehind 12 = .ok (.ifCond .eq 6, 3) := by decide +kernel
theorem dX1_lostBehind_15 : decode cX1_lostBehind 15 = .ok (.iload 5, 2) := by decide +kernel
theorem dX1_lostBehind_17 : decode cX1_lostBehind 17 = .ok (.ireturn, 1) := by decide +kernel
theorem dX1_lostBehind_18 : decode cX1_lostBehind 18 = .ok (.aload_n 0, 1) := by decide +kernel
theorem dX1_lostBehind_19 : decode cX1_lostBehind 19 = .ok (.getfield 18, 3) := by decide +kernel
theorem dX1_lostBehind_22 : decode cX1_lostBehind 22 = .ok (.iload_n 3, 1) := by decide +kernel
theorem dX1_lostBehind_23 : decode cX1_lostBehind 23 = .ok (.iaload, 1) := by decide +kernel
theorem dX1_lostBehind_24 : decode cX1_lostBehind 24 = .ok (.aload_n 0, 1) := by decide +kernel
theorem dX1_lostBehind_25 : decode cX1_lostBehind 25 = .ok (.iload_n 1, 1) := by decide +kernel
theorem dX1_lostBehind_26 : decode cX1_lostBehind 26 = .ok (.invokevirtual 56, 3) := by decide +kernel
theorem dX1_lostBehind_29 : decode cX1_lostBehind 29 = .ok (.iand, 1) := by decide +kernel
theorem dX1_lostBehind_30 : decode cX1_lostBehind 30 = .ok (.iload 4, 2) := by decide +kernel
theorem dX1_lostBehind_32 : decode cX1_lostBehind 32 = .ok (.iconst (-1), 1) := by decide +kernel
theorem dX1_lostBehind_33 : decode cX1_lostBehind 33 = .ok (.ixor, 1) := by decide +kernel
theorem dX1_lostBehind_34 : decode cX1_lostBehind 34 = .ok (.iand, 1) := by decide +kernel
theorem dX1_lostBehind_35 : decode cX1_lostBehind 35 = .ok (.istore 6, 2) := by decide +kernel
theorem dX1_lostBehind_37 : decode cX1_lostBehind 37 = .ok (.iload 6, 2) := by decide +kernel
theorem dX1_lostBehind_39 : decode cX1_lostBehind 39 = .ok (.ifCond .ne 8, 3) := by decide +kernel
theorem dX1_lostBehind_42 : decode cX1_lostBehind 42 = .ok (.iload 5, 2) := by decide +kernel
theorem dX1_lostBehind_44 : decode cX1_lostBehind 44 = .ok (.goto 14, 3) := by decide +kernel
theorem dX1_lostBehind_47 : decode cX1_lostBehind 47 = .ok (.aload_n 0, 1) := by decide +kernel
theorem dX1_lostBehind_48 : decode cX1_lostBehind 48 = .ok (.iload 5, 2) := by decide +kernel
theorem dX1_lostBehind_50 : decode cX1_lostBehind 50 = .ok (.iconst 1, 1) := by decide +kernel
theorem dX1_lostBehind_51 : decode cX1_lostBehind 51 = .ok (.iload_n 3, 1) := by decide +kernel
theorem dX1_lostBehind_52 : decode cX1_lostBehind 52 = .ok (.ishl, 1) := by decide +kernel
theorem dX1_lostBehind_53 : decode cX1_lostBehind 53 = .ok (.ior, 1) := by decide +kernel
theorem dX1_lostBehind_54 : decode cX1_lostBehind 54 = .ok (.iload_n 2, 1) := by decide +kernel
theorem dX1_lostBehind_55 : decode cX1_lostBehind 55 = .ok (.invokevirtual 60, 3) := by decide +kernel
theorem dX1_lostBehind_58 : decode cX1_lostBehind 58 = .ok (.ireturn, 1) := by decide +kernel
theorem dX1_allows_0 : decode cX1_allows 0 = .ok (.iload_n 1, 1) := by decide +kernel
theorem dX1_allows_1 : decode cX1_allows 1 = .ok (.ifCond .ne 5, 3) := by decide +kernel
theorem dX1_allows_4 : decode cX1_allows 4 = .ok (.iconst 1, 1) := by decide +kernel
theorem dX1_allows_5 : decode cX1_allows 5 = .ok (.ireturn, 1) := by decide +kernel
theorem dX1_allows_6 : decode cX1_allows 6 = .ok (.iload_n 2, 1) := by decide +kernel
theorem dX1_allows_7 : decode cX1_allows 7 = .ok (.iconst 1, 1) := by decide +kernel
theorem dX1_allows_8 : decode cX1_allows 8 = .ok (.if_icmp .ne 5, 3) := by decide +kernel
theorem dX1_allows_11 : decode cX1_allows 11 = .ok (.iconst 0, 1) := by decide +kernel
theorem dX1_allows_12 : decode cX1_allows 12 = .ok (.ireturn, 1) := by decide +kernel
theorem dX1_allows_13 : decode cX1_allows 13 = .ok (.iload_n 2, 1) := by decide +kernel
theorem dX1_allows_14 : decode cX1_allows 14 = .ok (.ifCond .eq 5, 3) := by decide +kernel
theorem dX1_allows_17 : decode cX1_allows 17 = .ok (.iconst 1, 1) := by decide +kernel
theorem dX1_allows_18 : decode cX1_allows 18 = .ok (.ireturn, 1) := by decide +kernel
theorem dX1_allows_19 : decode cX1_allows 19 = .ok (.iload_n 1, 1) := by decide +kernel
theorem dX1_allows_20 : decode cX1_allows 20 = .ok (.iconst 1, 1) := by decide +kernel
theorem dX1_allows_21 : decode cX1_allows 21 = .ok (.if_icmp .ne 16, 3) := by decide +kernel
theorem dX1_allows_24 : decode cX1_allows 24 = .ok (.iload 4, 2) := by decide +kernel
theorem dX1_allows_26 : decode cX1_allows 26 = .ok (.ifCond .ne 7, 3) := by decide +kernel
theorem dX1_allows_29 : decode cX1_allows 29 = .ok (.iconst 1, 1) := by decide +kernel
theorem dX1_allows_30 : decode cX1_allows 30 = .ok (.goto 20, 3) := by decide +kernel
theorem dX1_allows_33 : decode cX1_allows 33 = .ok (.iconst 0, 1) := by decide +kernel
theorem dX1_allows_34 : decode cX1_allows 34 = .ok (.goto 16, 3) := by decide +kernel
theorem dX1_allows_37 : decode cX1_allows 37 = .ok (.iload_n 3, 1) := by decide +kernel
theorem dX1_allows_38 : decode cX1_allows 38 = .ok (.aload_n 0, 1) := by decide +kernel
theorem dX1_allows_39 : decode cX1_allows 39 = .ok (.getfield 31, 3) := by decide +kernel
theorem dX1_allows_42 : decode cX1_allows 42 = .ok (.if_icmp .ne 7, 3) := by decide +kernel
theorem dX1_allows_45 : decode cX1_allows 45 = .ok (.iconst 1, 1) := by decide +kernel
theorem dX1_allows_46 : decode cX1_allows 46 = .ok (.goto 4, 3) := by decide +kernel
theorem dX1_allows_49 : decode cX1_allows 49 = .ok (.iconst 0, 1) := by decide +kernel
theorem dX1_allows_50 : decode cX1_allows 50 = .ok (.ireturn, 1) := by decide +kernel
theorem dX1_hangsTogether_0 : decode cX1_hangsTogether 0 = .ok (.iconst 1, 1) := by decide +kernel
theorem dX1_hangsTogether_1 : decode cX1_hangsTogether 1 = .ok (.aload_n 0, 1) := by decide +kernel
theorem dX1_hangsTogether_2 : decode cX1_hangsTogether 2 = .ok (.getfield 31, 3) := by decide +kernel
theorem dX1_hangsTogether_5 : decode cX1_hangsTogether 5 = .ok (.ishl, 1) := by decide +kernel
theorem dX1_hangsTogether_6 : decode cX1_hangsTogether 6 = .ok (.istore_n 3, 1) := by decide +kernel
theorem dX1_hangsTogether_7 : decode cX1_hangsTogether 7 = .ok (.iload_n 1, 1) := by decide +kernel
theorem dX1_hangsTogether_8 : decode cX1_hangsTogether 8 = .ok (.iload_n 3, 1) := by decide +kernel
theorem dX1_hangsTogether_9 : decode cX1_hangsTogether 9 = .ok (.iand, 1) := by decide +kernel
theorem dX1_hangsTogether_10 : decode cX1_hangsTogether 10 = .ok (.ifCond .eq 7, 3) := by decide +kernel
theorem dX1_hangsTogether_13 : decode cX1_hangsTogether 13 = .ok (.iload_n 3, 1) := by decide +kernel
theorem dX1_hangsTogether_14 : decode cX1_hangsTogether 14 = .ok (.goto 9, 3) := by decide +kernel
theorem dX1_hangsTogether_17 : decode cX1_hangsTogether 17 = .ok (.aload_n 0, 1) := by decide +kernel
theorem dX1_hangsTogether_18 : decode cX1_hangsTogether 18 = .ok (.iload_n 3, 1) := by decide +kernel
theorem dX1_hangsTogether_19 : decode cX1_hangsTogether 19 = .ok (.iload_n 1, 1) := by decide +kernel
theorem dX1_hangsTogether_20 : decode cX1_hangsTogether 20 = .ok (.invokevirtual 60, 3) := by decide +kernel
theorem dX1_hangsTogether_23 : decode cX1_hangsTogether 23 = .ok (.istore 4, 2) := by decide +kernel
theorem dX1_hangsTogether_25 : decode cX1_hangsTogether 25 = .ok (.aload_n 0, 1) := by decide +kernel
theorem dX1_hangsTogether_26 : decode cX1_hangsTogether 26 = .ok (.getfield 28, 3) := by decide +kernel
theorem dX1_hangsTogether_29 : decode cX1_hangsTogether 29 = .ok (.aload_n 0, 1) := by decide +kernel
theorem dX1_hangsTogether_30 : decode cX1_hangsTogether 30 = .ok (.iload_n 1, 1) := by decide +kernel
theorem dX1_hangsTogether_31 : decode cX1_hangsTogether 31 = .ok (.invokevirtual 56, 3) := by decide +kernel
theorem dX1_hangsTogether_34 : decode cX1_hangsTogether 34 = .ok (.iconst (-1), 1) := by decide +kernel
theorem dX1_hangsTogether_35 : decode cX1_hangsTogether 35 = .ok (.ixor, 1) := by decide +kernel
theorem dX1_hangsTogether_36 : decode cX1_hangsTogether 36 = .ok (.iand, 1) := by decide +kernel
theorem dX1_hangsTogether_37 : decode cX1_hangsTogether 37 = .ok (.istore 5, 2) := by decide +kernel
theorem dX1_hangsTogether_39 : decode cX1_hangsTogether 39 = .ok (.iload_n 2, 1) := by decide +kernel
theorem dX1_hangsTogether_40 : decode cX1_hangsTogether 40 = .ok (.iload 4, 2) := by decide +kernel
theorem dX1_hangsTogether_42 : decode cX1_hangsTogether 42 = .ok (.iconst (-1), 1) := by decide +kernel
theorem dX1_hangsTogether_43 : decode cX1_hangsTogether 43 = .ok (.ixor, 1) := by decide +kernel
theorem dX1_hangsTogether_44 : decode cX1_hangsTogether 44 = .ok (.iand, 1) := by decide +kernel
theorem dX1_hangsTogether_45 : decode cX1_hangsTogether 45 = .ok (.ifCond .ne 21, 3) := by decide +kernel
theorem dX1_hangsTogether_48 : decode cX1_hangsTogether 48 = .ok (.iload 5, 2) := by decide +kernel
theorem dX1_hangsTogether_50 : decode cX1_hangsTogether 50 = .ok (.aload_n 0, 1) := by decide +kernel
theorem dX1_hangsTogether_51 : decode cX1_hangsTogether 51 = .ok (.iload 4, 2) := by decide +kernel
theorem dX1_hangsTogether_53 : decode cX1_hangsTogether 53 = .ok (.invokevirtual 56, 3) := by decide +kernel
theorem dX1_hangsTogether_56 : decode cX1_hangsTogether 56 = .ok (.iconst (-1), 1) := by decide +kernel
theorem dX1_hangsTogether_57 : decode cX1_hangsTogether 57 = .ok (.ixor, 1) := by decide +kernel
theorem dX1_hangsTogether_58 : decode cX1_hangsTogether 58 = .ok (.iand, 1) := by decide +kernel
theorem dX1_hangsTogether_59 : decode cX1_hangsTogether 59 = .ok (.ifCond .ne 7, 3) := by decide +kernel
theorem dX1_hangsTogether_62 : decode cX1_hangsTogether 62 = .ok (.iconst 1, 1) := by decide +kernel
theorem dX1_hangsTogether_63 : decode cX1_hangsTogether 63 = .ok (.goto 4, 3) := by decide +kernel
theorem dX1_hangsTogether_66 : decode cX1_hangsTogether 66 = .ok (.iconst 0, 1) := by decide +kernel
theorem dX1_hangsTogether_67 : decode cX1_hangsTogether 67 = .ok (.ireturn, 1) := by decide +kernel
theorem dX1_parts_0 : decode cX1_parts 0 = .ok (.iconst 0, 1) := by decide +kernel
theorem dX1_parts_1 : decode cX1_parts 1 = .ok (.istore_n 1, 1) := by decide +kernel
theorem dX1_parts_2 : decode cX1_parts 2 = .ok (.iconst 0, 1) := by decide +kernel
theorem dX1_parts_3 : decode cX1_parts 3 = .ok (.istore_n 2, 1) := by decide +kernel
theorem dX1_parts_4 : decode cX1_parts 4 = .ok (.iconst 0, 1) := by decide +kernel
theorem dX1_parts_5 : decode cX1_parts 5 = .ok (.istore_n 3, 1) := by decide +kernel
theorem dX1_parts_6 : decode cX1_parts 6 = .ok (.iload_n 3, 1) := by decide +kernel
theorem dX1_parts_7 : decode cX1_parts 7 = .ok (.aload_n 0, 1) := by decide +kernel
theorem dX1_parts_8 : decode cX1_parts 8 = .ok (.getfield 24, 3) := by decide +kernel
theorem dX1_parts_11 : decode cX1_parts 11 = .ok (.if_icmp .ge 31, 3) := by decide +kernel
theorem dX1_parts_14 : decode cX1_parts 14 = .ok (.iload_n 2, 1) := by decide +kernel
theorem dX1_parts_15 : decode cX1_parts 15 = .ok (.iload_n 3, 1) := by decide +kernel
theorem dX1_parts_16 : decode cX1_parts 16 = .ok (.ishr, 1) := by decide +kernel
theorem dX1_parts_17 : decode cX1_parts 17 = .ok (.iconst 1, 1) := by decide +kernel
theorem dX1_parts_18 : decode cX1_parts 18 = .ok (.iand, 1) := by decide +kernel
theorem dX1_parts_19 : decode cX1_parts 19 = .ok (.ifCond .ne 17, 3) := by decide +kernel
theorem dX1_parts_22 : decode cX1_parts 22 = .ok (.iinc 1 1, 3) := by decide +kernel
theorem dX1_parts_25 : decode cX1_parts 25 = .ok (.iload_n 2, 1) := by decide +kernel
theorem dX1_parts_26 : decode cX1_parts 26 = .ok (.aload_n 0, 1) := by decide +kernel
theorem dX1_parts_27 : decode cX1_parts 27 = .ok (.iconst 1, 1) := by decide +kernel
theorem dX1_parts_28 : decode cX1_parts 28 = .ok (.iload_n 3, 1) := by decide +kernel
theorem dX1_parts_29 : decode cX1_parts 29 = .ok (.ishl, 1) := by decide +kernel
theorem dX1_parts_30 : decode cX1_parts 30 = .ok (.iconst 0, 1) := by decide +kernel
theorem dX1_parts_31 : decode cX1_parts 31 = .ok (.invokevirtual 60, 3) := by decide +kernel
theorem dX1_parts_34 : decode cX1_parts 34 = .ok (.ior, 1) := by decide +kernel
theorem dX1_parts_35 : decode cX1_parts 35 = .ok (.istore_n 2, 1) := by decide +kernel
theorem dX1_parts_36 : decode cX1_parts 36 = .ok (.iinc 3 1, 3) := by decide +kernel
theorem dX1_parts_39 : decode cX1_parts 39 = .ok (.goto (-33), 3) := by decide +kernel
theorem dX1_parts_42 : decode cX1_parts 42 = .ok (.iload_n 1, 1) := by decide +kernel
theorem dX1_parts_43 : decode cX1_parts 43 = .ok (.ireturn, 1) := by decide +kernel
theorem dX1_isTree_0 : decode cX1_isTree 0 = .ok (.aload_n 0, 1) := by decide +kernel
theorem dX1_isTree_1 : decode cX1_isTree 1 = .ok (.invokevirtual 63, 3) := by decide +kernel
theorem dX1_isTree_4 : decode cX1_isTree 4 = .ok (.iconst 1, 1) := by decide +kernel
theorem dX1_isTree_5 : decode cX1_isTree 5 = .ok (.if_icmp .ne 23, 3) := by decide +kernel
theorem dX1_isTree_8 : decode cX1_isTree 8 = .ok (.aload_n 0, 1) := by decide +kernel
theorem dX1_isTree_9 : decode cX1_isTree 9 = .ok (.getfield 28, 3) := by decide +kernel
theorem dX1_isTree_12 : decode cX1_isTree 12 = .ok (.invokestatic 67, 3) := by decide +kernel
theorem dX1_isTree_15 : decode cX1_isTree 15 = .ok (.aload_n 0, 1) := by decide +kernel
theorem dX1_isTree_16 : decode cX1_isTree 16 = .ok (.getfield 24, 3) := by decide +kernel
theorem dX1_isTree_19 : decode cX1_isTree 19 = .ok (.iconst 1, 1) := by decide +kernel
theorem dX1_isTree_20 : decode cX1_isTree 20 = .ok (.isub, 1) := by decide +kernel
theorem dX1_isTree_21 : decode cX1_isTree 21 = .ok (.if_icmp .ne 7, 3) := by decide +kernel
theorem dX1_isTree_24 : decode cX1_isTree 24 = .ok (.iconst 1, 1) := by decide +kernel
theorem dX1_isTree_25 : decode cX1_isTree 25 = .ok (.goto 4, 3) := by decide +kernel
theorem dX1_isTree_28 : decode cX1_isTree 28 = .ok (.iconst 0, 1) := by decide +kernel
theorem dX1_isTree_29 : decode cX1_isTree 29 = .ok (.ireturn, 1) := by decide +kernel
theorem dX1_cutBetween_0 : decode cX1_cutBetween 0 = .ok (.iconst 0, 1) := by decide +kernel
theorem dX1_cutBetween_1 : decode cX1_cutBetween 1 = .ok (.istore_n 2, 1) := by decide +kernel
theorem dX1_cutBetween_2 : decode cX1_cutBetween 2 = .ok (.iconst 0, 1) := by decide +kernel
theorem dX1_cutBetween_3 : decode cX1_cutBetween 3 = .ok (.istore_n 3, 1) := by decide +kernel
theorem dX1_cutBetween_4 : decode cX1_cutBetween 4 = .ok (.iload_n 3, 1) := by decide +kernel
theorem dX1_cutBetween_5 : decode cX1_cutBetween 5 = .ok (.aload_n 0, 1) := by decide +kernel
theorem dX1_cutBetween_6 : decode cX1_cutBetween 6 = .ok (.getfield 24, 3) := by decide +kernel
theorem dX1_cutBetween_9 : decode cX1_cutBetween 9 = .ok (.if_icmp .ge 33, 3) := by decide +kernel
theorem dX1_cutBetween_12 : decode cX1_cutBetween 12 = .ok (.iload_n 1, 1) := by decide +kernel
theorem dX1_cutBetween_13 : decode cX1_cutBetween 13 = .ok (.iload_n 3, 1) := by decide +kernel
theorem dX1_cutBetween_14 : decode cX1_cutBetween 14 = .ok (.ishr, 1) := by decide +kernel
theorem dX1_cutBetween_15 : decode cX1_cutBetween 15 = .ok (.iconst 1, 1) := by decide +kernel
theorem dX1_cutBetween_16 : decode cX1_cutBetween 16 = .ok (.iand, 1) := by decide +kernel
theorem dX1_cutBetween_17 : decode cX1_cutBetween 17 = .ok (.ifCond .eq 19, 3) := by decide +kernel
theorem dX1_cutBetween_20 : decode cX1_cutBetween 20 = .ok (.aload_n 0, 1) := by decide +kernel
theorem dX1_cutBetween_21 : decode cX1_cutBetween 21 = .ok (.getfield 21, 3) := by decide +kernel
theorem dX1_cutBetween_24 : decode cX1_cutBetween 24 = .ok (.iload_n 3, 1) := by decide +kernel
theorem dX1_cutBetween_25 : decode cX1_cutBetween 25 = .ok (.iaload, 1) := by decide +kernel
theorem dX1_cutBetween_26 : decode cX1_cutBetween 26 = .ok (.iload_n 1, 1) := by decide +kernel
theorem dX1_cutBetween_27 : decode cX1_cutBetween 27 = .ok (.iconst (-1), 1) := by decide +kernel
theorem dX1_cutBetween_28 : decode cX1_cutBetween 28 = .ok (.ixor, 1) := by decide +kernel
theorem dX1_cutBetween_29 : decode cX1_cutBetween 29 = .ok (.iand, 1) := by decide +kernel
theorem dX1_cutBetween_30 : decode cX1_cutBetween 30 = .ok (.ifCond .eq 6, 3) := by decide +kernel
theorem dX1_cutBetween_33 : decode cX1_cutBetween 33 = .ok (.iinc 2 1, 3) := by decide +kernel
theorem dX1_cutBetween_36 : decode cX1_cutBetween 36 = .ok (.iinc 3 1, 3) := by decide +kernel
theorem dX1_cutBetween_39 : decode cX1_cutBetween 39 = .ok (.goto (-35), 3) := by decide +kernel
theorem dX1_cutBetween_42 : decode cX1_cutBetween 42 = .ok (.iload_n 2, 1) := by decide +kernel
theorem dX1_cutBetween_43 : decode cX1_cutBetween 43 = .ok (.ireturn, 1) := by decide +kernel
theorem dX2_init_0 : decode cX2_init 0 = .ok (.aload_n 0, 1) := by decide +kernel
theorem dX2_init_1 : decode cX2_init 1 = .ok (.invokespecial 3, 3) := by decide +kernel
theorem dX2_init_4 : decode cX2_init 4 = .ok (.aload_n 0, 1) := by decide +kernel
theorem dX2_init_5 : decode cX2_init 5 = .ok (.bipush 12, 2) := by decide +kernel
theorem dX2_init_7 : decode cX2_init 7 = .ok (.newarray .int, 2) := by decide +kernel
theorem dX2_init_9 : decode cX2_init 9 = .ok (.putfield 9, 3) := by decide +kernel
theorem dX2_init_12 : decode cX2_init 12 = .ok (.aload_n 0, 1) := by decide +kernel
theorem dX2_init_13 : decode cX2_init 13 = .ok (.sipush 4096, 3) := by decide +kernel
theorem dX2_init_16 : decode cX2_init 16 = .ok (.newarray .int, 2) := by decide +kernel
theorem dX2_init_18 : decode cX2_init 18 = .ok (.putfield 15, 3) := by decide +kernel
theorem dX2_init_21 : decode cX2_init 21 = .ok (.aload_n 0, 1) := by decide +kernel
theorem dX2_init_22 : decode cX2_init 22 = .ok (.aload_n 1, 1) := by decide +kernel
theorem dX2_init_23 : decode cX2_init 23 = .ok (.putfield 18, 3) := by decide +kernel
theorem dX2_init_26 : decode cX2_init 26 = .ok (.return_, 1) := by decide +kernel
theorem dX2_reset_0 : decode cX2_reset 0 = .ok (.iconst 0, 1) := by decide +kernel
theorem dX2_reset_1 : decode cX2_reset 1 = .ok (.istore_n 1, 1) := by decide +kernel
theorem dX2_reset_2 : decode cX2_reset 2 = .ok (.iload_n 1, 1) := by decide +kernel
theorem dX2_reset_3 : decode cX2_reset 3 = .ok (.bipush 12, 2) := by decide +kernel
theorem dX2_reset_5 : decode cX2_reset 5 = .ok (.if_icmp .ge 16, 3) := by decide +kernel
theorem dX2_reset_8 : decode cX2_reset 8 = .ok (.aload_n 0, 1) := by decide +kernel
theorem dX2_reset_9 : decode cX2_reset 9 = .ok (.getfield 9, 3) := by decide +kernel
theorem dX2_reset_12 : decode cX2_reset 12 = .ok (.iload_n 1, 1) := by decide +kernel
theorem dX2_reset_13 : decode cX2_reset 13 = .ok (.iload_n 1, 1) := by decide +kernel
theorem dX2_reset_14 : decode cX2_reset 14 = .ok (.iastore, 1) := by decide +kernel
theorem dX2_reset_15 : decode cX2_reset 15 = .ok (.iinc 1 1, 3) := by decide +kernel
theorem dX2_reset_18 : decode cX2_reset 18 = .ok (.goto (-16), 3) := by decide +kernel
theorem dX2_reset_21 : decode cX2_reset 21 = .ok (.return_, 1) := by decide +kernel
theorem dX2_placeOf_0 : decode cX2_placeOf 0 = .ok (.iconst 0, 1) := by decide +kernel
theorem dX2_placeOf_1 : decode cX2_placeOf 1 = .ok (.istore_n 2, 1) := by decide +kernel
theorem dX2_placeOf_2 : decode cX2_placeOf 2 = .ok (.iload_n 2, 1) := by decide +kernel
theorem dX2_placeOf_3 : decode cX2_placeOf 3 = .ok (.aload_n 0, 1) := by decide +kernel
theorem dX2_placeOf_4 : decode cX2_placeOf 4 = .ok (.getfield 18, 3) := by decide +kernel
theorem dX2_placeOf_7 : decode cX2_placeOf 7 = .ok (.getfield 22, 3) := by decide +kernel
theorem dX2_placeOf_10 : decode cX2_placeOf 10 = .ok (.if_icmp .ge 21, 3) := by decide +kernel
theorem dX2_placeOf_13 : decode cX2_placeOf 13 = .ok (.aload_n 0, 1) := by decide +kernel
theorem dX2_placeOf_14 : decode cX2_placeOf 14 = .ok (.getfield 9, 3) := by decide +kernel
theorem dX2_placeOf_17 : decode cX2_placeOf 17 = .ok (.iload_n 2, 1) := by decide +kernel
theorem dX2_placeOf_18 : decode cX2_placeOf 18 = .ok (.iaload, 1) := by decide +kernel
theorem dX2_placeOf_19 : decode cX2_placeOf 19 = .ok (.iload_n 1, 1) := by decide +kernel
theorem dX2_placeOf_20 : decode cX2_placeOf 20 = .ok (.if_icmp .ne 5, 3) := by decide +kernel
theorem dX2_placeOf_23 : decode cX2_placeOf 23 = .ok (.iload_n 2, 1) := by decide +kernel
theorem dX2_placeOf_24 : decode cX2_placeOf 24 = .ok (.ireturn, 1) := by decide +kernel
theorem dX2_placeOf_25 : decode cX2_placeOf 25 = .ok (.iinc 2 1, 3) := by decide +kernel
theorem dX2_placeOf_28 : decode cX2_placeOf 28 = .ok (.goto (-26), 3) := by decide +kernel
theorem dX2_placeOf_31 : decode cX2_placeOf 31 = .ok (.iconst (-1), 1) := by decide +kernel
theorem dX2_placeOf_32 : decode cX2_placeOf 32 = .ok (.ireturn, 1) := by decide +kernel
theorem dX2_swapIn_0 : decode cX2_swapIn 0 = .ok (.aload_n 0, 1) := by decide +kernel
theorem dX2_swapIn_1 : decode cX2_swapIn 1 = .ok (.iload_n 2, 1) := by decide +kernel
theorem dX2_swapIn_2 : decode cX2_swapIn 2 = .ok (.invokevirtual 28, 3) := by decide +kernel
theorem dX2_swapIn_5 : decode cX2_swapIn 5 = .ok (.istore_n 3, 1) := by decide +kernel
theorem dX2_swapIn_6 : decode cX2_swapIn 6 = .ok (.iload_n 3, 1) := by decide +kernel
theorem dX2_swapIn_7 : decode cX2_swapIn 7 = .ok (.iconst (-1), 1) := by decide +kernel
theorem dX2_swapIn_8 : decode cX2_swapIn 8 = .ok (.if_icmp .eq 22, 3) := by decide +kernel
theorem dX2_swapIn_11 : decode cX2_swapIn 11 = .ok (.aload_n 0, 1) := by decide +kernel
theorem dX2_swapIn_12 : decode cX2_swapIn 12 = .ok (.getfield 9, 3) := by decide +kernel
theorem dX2_swapIn_15 : decode cX2_swapIn 15 = .ok (.iload_n 3, 1) := by decide +kernel
theorem dX2_swapIn_16 : decode cX2_swapIn 16 = .ok (.aload_n 0, 1) := by decide +kernel
theorem dX2_swapIn_17 : decode cX2_swapIn 17 = .ok (.getfield 9, 3) := by decide +kernel
theorem dX2_swapIn_20 : decode cX2_swapIn 20 = .ok (.iload_n 1, 1) := by decide +kernel
theorem dX2_swapIn_21 : decode cX2_swapIn 21 = .ok (.iaload, 1) := by decide +kernel
theorem dX2_swapIn_22 : decode cX2_swapIn 22 = .ok (.iastore, 1) := by decide +kernel
theorem dX2_swapIn_23 : decode cX2_swapIn 23 = .ok (.aload_n 0, 1) := by decide +kernel
theorem dX2_swapIn_24 : decode cX2_swapIn 24 = .ok (.getfield 9, 3) := by decide +kernel
theorem dX2_swapIn_27 : decode cX2_swapIn 27 = .ok (.iload_n 1, 1) := by decide +kernel
theorem dX2_swapIn_28 : decode cX2_swapIn 28 = .ok (.iload_n 2, 1) := by decide +kernel
theorem dX2_swapIn_29 : decode cX2_swapIn 29 = .ok (.iastore, 1) := by decide +kernel
theorem dX2_swapIn_30 : decode cX2_swapIn 30 = .ok (.return_, 1) := by decide +kernel
theorem dX2_cutBehind_0 : decode cX2_cutBehind 0 = .ok (.iconst 0, 1) := by decide +kernel
theorem dX2_cutBehind_1 : decode cX2_cutBehind 1 = .ok (.istore_n 2, 1) := by decide +kernel
theorem dX2_cutBehind_2 : decode cX2_cutBehind 2 = .ok (.iconst 0, 1) := by decide +kernel
theorem dX2_cutBehind_3 : decode cX2_cutBehind 3 = .ok (.istore_n 3, 1) := by decide +kernel
theorem dX2_cutBehind_4 : decode cX2_cutBehind 4 = .ok (.iload_n 3, 1) := by decide +kernel
theorem dX2_cutBehind_5 : decode cX2_cutBehind 5 = .ok (.iload_n 1, 1) := by decide +kernel
theorem dX2_cutBehind_6 : decode cX2_cutBehind 6 = .ok (.if_icmp .ge 31, 3) := by decide +kernel
theorem dX2_cutBehind_9 : decode cX2_cutBehind 9 = .ok (.iload_n 3, 1) := by decide +kernel
theorem dX2_cutBehind_10 : decode cX2_cutBehind 10 = .ok (.aload_n 0, 1) := by decide +kernel
theorem dX2_cutBehind_11 : decode cX2_cutBehind 11 = .ok (.getfield 18, 3) := by decide +kernel
theorem dX2_cutBehind_14 : decode cX2_cutBehind 14 = .ok (.getfield 22, 3) := by decide +kernel
theorem dX2_cutBehind_17 : decode cX2_cutBehind 17 = .ok (.if_icmp .ge 20, 3) := by decide +kernel
theorem dX2_cutBehind_20 : decode cX2_cutBehind 20 = .ok (.iload_n 2, 1) := by decide +kernel
theorem dX2_cutBehind_21 : decode cX2_cutBehind 21 = .ok (.iconst 1, 1) := by decide +kernel
theorem dX2_cutBehind_22 : decode cX2_cutBehind 22 = .ok (.aload_n 0, 1) := by decide +kernel
theorem dX2_cutBehind_23 : decode cX2_cutBehind 23 = .ok (.getfield 9, 3) := by decide +kernel
theorem dX2_cutBehind_26 : decode cX2_cutBehind 26 = .ok (.iload_n 3, 1) := by decide +kernel
theorem dX2_cutBehind_27 : decode cX2_cutBehind 27 = .ok (.iaload, 1) := by decide +kernel
theorem dX2_cutBehind_28 : decode cX2_cutBehind 28 = .ok (.ishl, 1) := by decide +kernel
theorem dX2_cutBehind_29 : decode cX2_cutBehind 29 = .ok (.ior, 1) := by decide +kernel
theorem dX2_cutBehind_30 : decode cX2_cutBehind 30 = .ok (.istore_n 2, 1) := by decide +kernel
theorem dX2_cutBehind_31 : decode cX2_cutBehind 31 = .ok (.iinc 3 1, 3) := by decide +kernel
theorem dX2_cutBehind_34 : decode cX2_cutBehind 34 = .ok (.goto (-30), 3) := by decide +kernel
theorem dX2_cutBehind_37 : decode cX2_cutBehind 37 = .ok (.aload_n 0, 1) := by decide +kernel
theorem dX2_cutBehind_38 : decode cX2_cutBehind 38 = .ok (.getfield 18, 3) := by decide +kernel
theorem dX2_cutBehind_41 : decode cX2_cutBehind 41 = .ok (.iload_n 2, 1) := by decide +kernel
theorem dX2_cutBehind_42 : decode cX2_cutBehind 42 = .ok (.invokevirtual 32, 3) := by decide +kernel
theorem dX2_cutBehind_45 : decode cX2_cutBehind 45 = .ok (.ireturn, 1) := by decide +kernel
theorem dX2_greatestCut_0 : decode cX2_greatestCut 0 = .ok (.iconst (-1), 1) := by decide +kernel
theorem dX2_greatestCut_1 : decode cX2_greatestCut 1 = .ok (.istore_n 1, 1) := by decide +kernel
theorem dX2_greatestCut_2 : decode cX2_greatestCut 2 = .ok (.iconst 1, 1) := by decide +kernel
theorem dX2_greatestCut_3 : decode cX2_greatestCut 3 = .ok (.istore_n 2, 1) := by decide +kernel
theorem dX2_greatestCut_4 : decode cX2_greatestCut 4 = .ok (.iload_n 2, 1) := by decide +kernel
theorem dX2_greatestCut_5 : decode cX2_greatestCut 5 = .ok (.aload_n 0, 1) := by decide +kernel
theorem dX2_greatestCut_6 : decode cX2_greatestCut 6 = .ok (.getfield 18, 3) := by decide +kernel
theorem dX2_greatestCut_9 : decode cX2_greatestCut 9 = .ok (.getfield 22, 3) := by decide +kernel
theorem dX2_greatestCut_12 : decode cX2_greatestCut 12 = .ok (.if_icmp .gt 19, 3) := by decide +kernel
theorem dX2_greatestCut_15 : decode cX2_greatestCut 15 = .ok (.iload_n 1, 1) := by decide +kernel
theorem dX2_greatestCut_16 : decode cX2_greatestCut 16 = .ok (.aload_n 0, 1) := by decide +kernel
theorem dX2_greatestCut_17 : decode cX2_greatestCut 17 = .ok (.iload_n 2, 1) := by decide +kernel
theorem dX2_greatestCut_18 : decode cX2_greatestCut 18 = .ok (.invokevirtual 35, 3) := by decide +kernel
theorem dX2_greatestCut_21 : decode cX2_greatestCut 21 = .ok (.invokestatic 38, 3) := by decide +kernel
theorem dX2_greatestCut_24 : decode cX2_greatestCut 24 = .ok (.istore_n 1, 1) := by decide +kernel
theorem dX2_greatestCut_25 : decode cX2_greatestCut 25 = .ok (.iinc 2 1, 3) := by decide +kernel
theorem dX2_greatestCut_28 : decode cX2_greatestCut 28 = .ok (.goto (-24), 3) := by decide +kernel
theorem dX2_greatestCut_31 : decode cX2_greatestCut 31 = .ok (.iload_n 1, 1) := by decide +kernel
theorem dX2_greatestCut_32 : decode cX2_greatestCut 32 = .ok (.ireturn, 1) := by decide +kernel
theorem dX2_becomeTheLeast_0 : decode cX2_becomeTheLeast 0 = .ok (.aload_n 0, 1) := by decide +kernel
theorem dX2_becomeTheLeast_1 : decode cX2_becomeTheLeast 1 = .ok (.getfield 18, 3) := by decide +kernel
theorem dX2_becomeTheLeast_4 : decode cX2_becomeTheLeast 4 = .ok (.invokevirtual 44, 3) := by decide +kernel
theorem dX2_becomeTheLeast_7 : decode cX2_becomeTheLeast 7 = .ok (.istore_n 1, 1) := by decide +kernel
theorem dX2_becomeTheLeast_8 : decode cX2_becomeTheLeast 8 = .ok (.iload_n 1, 1) := by decide +kernel
theorem dX2_becomeTheLeast_9 : decode cX2_becomeTheLeast 9 = .ok (.istore_n 2, 1) := by decide +kernel
theorem dX2_becomeTheLeast_10 : decode cX2_becomeTheLeast 10 = .ok (.iload_n 2, 1) := by decide +kernel
theorem dX2_becomeTheLeast_11 : decode cX2_becomeTheLeast 11 = .ok (.ifCond .lt 31, 3) := by decide +kernel
theorem dX2_becomeTheLeast_14 : decode cX2_becomeTheLeast 14 = .ok (.aload_n 0, 1) := by decide +kernel
theorem dX2_becomeTheLeast_15 : decode cX2_becomeTheLeast 15 = .ok (.getfield 15, 3) := by decide +kernel
theorem dX2_becomeTheLeast_18 : decode cX2_becomeTheLeast 18 = .ok (.iload_n 2, 1) := by decide +kernel
theorem dX2_becomeTheLeast_19 : decode cX2_becomeTheLeast 19 = .ok (.aload_n 0, 1) := by decide +kernel
theorem dX2_becomeTheLeast_20 : decode cX2_becomeTheLeast 20 = .ok (.getfield 18, 3) := by decide +kernel
theorem dX2_becomeTheLeast_23 : decode cX2_becomeTheLeast 23 = .ok (.iload_n 2, 1) := by decide +kernel
theorem dX2_becomeTheLeast_24 : decode cX2_becomeTheLeast 24 = .ok (.invokevirtual 32, 3) := by decide +kernel
theorem dX2_becomeTheLeast_27 : decode cX2_becomeTheLeast 27 = .ok (.aload_n 0, 1) := by decide +kernel
theorem dX2_becomeTheLeast_28 : decode cX2_becomeTheLeast 28 = .ok (.iload_n 2, 1) := by decide +kernel
theorem dX2_becomeTheLeast_29 : decode cX2_becomeTheLeast 29 = .ok (.invokevirtual 48, 3) := by decide +kernel
theorem dX2_becomeTheLeast_32 : decode cX2_becomeTheLeast 32 = .ok (.invokestatic 38, 3) := by decide +kernel
theorem dX2_becomeTheLeast_35 : decode cX2_becomeTheLeast 35 = .ok (.iastore, 1) := by decide +kernel
theorem dX2_becomeTheLeast_36 : decode cX2_becomeTheLeast 36 = .ok (.iinc 2 (-1), 3) := by decide +kernel
theorem dX2_becomeTheLeast_39 : decode cX2_becomeTheLeast 39 = .ok (.goto (-29), 3) := by decide +kernel
theorem dX2_becomeTheLeast_42 : decode cX2_becomeTheLeast 42 = .ok (.aload_n 0, 1) := by decide +kernel
theorem dX2_becomeTheLeast_43 : decode cX2_becomeTheLeast 43 = .ok (.getfield 15, 3) := by decide +kernel
theorem dX2_becomeTheLeast_46 : decode cX2_becomeTheLeast 46 = .ok (.iconst 0, 1) := by decide +kernel
theorem dX2_becomeTheLeast_47 : decode cX2_becomeTheLeast 47 = .ok (.iaload, 1) := by decide +kernel
theorem dX2_becomeTheLeast_48 : decode cX2_becomeTheLeast 48 = .ok (.istore_n 2, 1) := by decide +kernel
theorem dX2_becomeTheLeast_49 : decode cX2_becomeTheLeast 49 = .ok (.iconst 0, 1) := by decide +kernel
theorem dX2_becomeTheLeast_50 : decode cX2_becomeTheLeast 50 = .ok (.istore_n 3, 1) := by decide +kernel
theorem dX2_becomeTheLeast_51 : decode cX2_becomeTheLeast 51 = .ok (.iconst 0, 1) := by decide +kernel
theorem dX2_becomeTheLeast_52 : decode cX2_becomeTheLeast 52 = .ok (.istore 4, 2) := by decide +kernel
theorem dX2_becomeTheLeast_54 : decode cX2_becomeTheLeast 54 = .ok (.iload 4, 2) := by decide +kernel
theorem dX2_becomeTheLeast_56 : decode cX2_becomeTheLeast 56 = .ok (.aload_n 0, 1) := by decide +kernel
theorem dX2_becomeTheLeast_57 : decode cX2_becomeTheLeast 57 = .ok (.getfield 18, 3) := by decide +kernel
theorem dX2_becomeTheLeast_60 : decode cX2_becomeTheLeast 60 = .ok (.getfield 22, 3) := by decide +kernel
theorem dX2_becomeTheLeast_63 : decode cX2_becomeTheLeast 63 = .ok (.if_icmp .ge 34, 3) := by decide +kernel
theorem dX2_becomeTheLeast_66 : decode cX2_becomeTheLeast 66 = .ok (.aload_n 0, 1) := by decide +kernel
theorem dX2_becomeTheLeast_67 : decode cX2_becomeTheLeast 67 = .ok (.getfield 9, 3) := by decide +kernel
theorem dX2_becomeTheLeast_70 : decode cX2_becomeTheLeast 70 = .ok (.iload 4, 2) := by decide +kernel
theorem dX2_becomeTheLeast_72 : decode cX2_becomeTheLeast 72 = .ok (.aload_n 0, 1) := by decide +kernel
theorem dX2_becomeTheLeast_73 : decode cX2_becomeTheLeast 73 = .ok (.iload_n 3, 1) := by decide +kernel
theorem dX2_becomeTheLeast_74 : decode cX2_becomeTheLeast 74 = .ok (.iload_n 2, 1) := by decide +kernel
theorem dX2_becomeTheLeast_75 : decode cX2_becomeTheLeast 75 = .ok (.invokevirtual 51, 3) := by decide +kernel
theorem dX2_becomeTheLeast_78 : decode cX2_becomeTheLeast 78 = .ok (.iastore, 1) := by decide +kernel
theorem dX2_becomeTheLeast_79 : decode cX2_becomeTheLeast 79 = .ok (.iload_n 3, 1) := by decide +kernel
theorem dX2_becomeTheLeast_80 : decode cX2_becomeTheLeast 80 = .ok (.iconst 1, 1) := by decide +kernel
theorem dX2_becomeTheLeast_81 : decode cX2_becomeTheLeast 81 = .ok (.aload_n 0, 1) := by decide +kernel
theorem dX2_becomeTheLeast_82 : decode cX2_becomeTheLeast 82 = .ok (.getfield 9, 3) := by decide +kernel
theorem dX2_becomeTheLeast_85 : decode cX2_becomeTheLeast 85 = .ok (.iload 4, 2) := by decide +kernel
theorem dX2_becomeTheLeast_87 : decode cX2_becomeTheLeast 87 = .ok (.iaload, 1) := by decide +kernel
theorem dX2_becomeTheLeast_88 : decode cX2_becomeTheLeast 88 = .ok (.ishl, 1) := by decide +kernel
theorem dX2_becomeTheLeast_89 : decode cX2_becomeTheLeast 89 = .ok (.ior, 1) := by decide +kernel
theorem dX2_becomeTheLeast_90 : decode cX2_becomeTheLeast 90 = .ok (.istore_n 3, 1) := by decide +kernel
theorem dX2_becomeTheLeast_91 : decode cX2_becomeTheLeast 91 = .ok (.iinc 4 1, 3) := by decide +kernel
theorem dX2_becomeTheLeast_94 : decode cX2_becomeTheLeast 94 = .ok (.goto (-40), 3) := by decide +kernel
theorem dX2_becomeTheLeast_97 : decode cX2_becomeTheLeast 97 = .ok (.iload_n 2, 1) := by decide +kernel
theorem dX2_becomeTheLeast_98 : decode cX2_becomeTheLeast 98 = .ok (.ireturn, 1) := by decide +kernel
theorem dX2_leastWorstBehind_0 : decode cX2_leastWorstBehind 0 = .ok (.iload_n 1, 1) := by decide +kernel
theorem dX2_leastWorstBehind_1 : decode cX2_leastWorstBehind 1 = .ok (.aload_n 0, 1) := by decide +kernel
theorem dX2_leastWorstBehind_2 : decode cX2_leastWorstBehind 2 = .ok (.getfield 18, 3) := by decide +kernel
theorem dX2_leastWorstBehind_5 : decode cX2_leastWorstBehind 5 = .ok (.invokevirtual 44, 3) := by decide +kernel
theorem dX2_leastWorstBehind_8 : decode cX2_leastWorstBehind 8 = .ok (.if_icmp .ne 5, 3) := by decide +kernel
theorem dX2_leastWorstBehind_11 : decode cX2_leastWorstBehind 11 = .ok (.iconst 0, 1) := by decide +kernel
theorem dX2_leastWorstBehind_12 : decode cX2_leastWorstBehind 12 = .ok (.ireturn, 1) := by decide +kernel
theorem dX2_leastWorstBehind_13 : decode cX2_leastWorstBehind 13 = .ok (.bipush 12, 2) := by decide +kernel
theorem dX2_leastWorstBehind_15 : decode cX2_leastWorstBehind 15 = .ok (.istore_n 2, 1) := by decide +kernel
theorem dX2_leastWorstBehind_16 : decode cX2_leastWorstBehind 16 = .ok (.iconst 0, 1) := by decide +kernel
theorem dX2_leastWorstBehind_17 : decode cX2_leastWorstBehind 17 = .ok (.istore_n 3, 1) := by decide +kernel
theorem dX2_leastWorstBehind_18 : decode cX2_leastWorstBehind 18 = .ok (.iload_n 3, 1) := by decide +kernel
theorem dX2_leastWorstBehind_19 : decode cX2_leastWorstBehind 19 = .ok (.aload_n 0, 1) := by decide +kernel
theorem dX2_leastWorstBehind_20 : decode cX2_leastWorstBehind 20 = .ok (.getfield 18, 3) := by decide +kernel
theorem dX2_leastWorstBehind_23 : decode cX2_leastWorstBehind 23 = .ok (.getfield 22, 3) := by decide +kernel
theorem dX2_leastWorstBehind_26 : decode cX2_leastWorstBehind 26 = .ok (.if_icmp .ge 32, 3) := by decide +kernel
theorem dX2_leastWorstBehind_29 : decode cX2_leastWorstBehind 29 = .ok (.iload_n 1, 1) := by decide +kernel
theorem dX2_leastWorstBehind_30 : decode cX2_leastWorstBehind 30 = .ok (.iload_n 3, 1) := by decide +kernel
theorem dX2_leastWorstBehind_31 : decode cX2_leastWorstBehind 31 = .ok (.ishr, 1) := by decide +kernel
theorem dX2_leastWorstBehind_32 : decode cX2_leastWorstBehind 32 = .ok (.iconst 1, 1) := by decide +kernel
theorem dX2_leastWorstBehind_33 : decode cX2_leastWorstBehind 33 = .ok (.iand, 1) := by decide +kernel
theorem dX2_leastWorstBehind_34 : decode cX2_leastWorstBehind 34 = .ok (.ifCond .ne 18, 3) := by decide +kernel
theorem dX2_leastWorstBehind_37 : decode cX2_leastWorstBehind 37 = .ok (.iload_n 2, 1) := by decide +kernel
theorem dX2_leastWorstBehind_38 : decode cX2_leastWorstBehind 38 = .ok (.aload_n 0, 1) := by decide +kernel
theorem dX2_leastWorstBehind_39 : decode cX2_leastWorstBehind 39 = .ok (.getfield 15, 3) := by decide +kernel
theorem dX2_leastWorstBehind_42 : decode cX2_leastWorstBehind 42 = .ok (.iload_n 1, 1) := by decide +kernel
theorem dX2_leastWorstBehind_43 : decode cX2_leastWorstBehind 43 = .ok (.iconst 1, 1) := by decide +kernel
theorem dX2_leastWorstBehind_44 : decode cX2_leastWorstBehind 44 = .ok (.iload_n 3, 1) := by decide +kernel
theorem dX2_leastWorstBehind_45 : decode cX2_leastWorstBehind 45 = .ok (.ishl, 1) := by decide +kernel
theorem dX2_leastWorstBehind_46 : decode cX2_leastWorstBehind 46 = .ok (.ior, 1) := by decide +kernel
theorem dX2_leastWorstBehind_47 : decode cX2_leastWorstBehind 47 = .ok (.iaload, 1) := by decide +kernel
theorem dX2_leastWorstBehind_48 : decode cX2_leastWorstBehind 48 = .ok (.invokestatic 54, 3) := by decide +kernel
theorem dX2_leastWorstBehind_51 : decode cX2_leastWorstBehind 51 = .ok (.istore_n 2, 1) := by decide +kernel
theorem dX2_leastWorstBehind_52 : decode cX2_leastWorstBehind 52 = .ok (.iinc 3 1, 3) := by decide +kernel
theorem dX2_leastWorstBehind_55 : decode cX2_leastWorstBehind 55 = .ok (.goto (-37), 3) := by decide +kernel
theorem dX2_leastWorstBehind_58 : decode cX2_leastWorstBehind 58 = .ok (.iload_n 2, 1) := by decide +kernel
theorem dX2_leastWorstBehind_59 : decode cX2_leastWorstBehind 59 = .ok (.ireturn, 1) := by decide +kernel
theorem dX2_firstWithin_0 : decode cX2_firstWithin 0 = .ok (.iconst 0, 1) := by decide +kernel
theorem dX2_firstWithin_1 : decode cX2_firstWithin 1 = .ok (.istore_n 3, 1) := by decide +kernel
theorem dX2_firstWithin_2 : decode cX2_firstWithin 2 = .ok (.iload_n 3, 1) := by decide +kernel
theorem dX2_firstWithin_3 : decode cX2_firstWithin 3 = .ok (.aload_n 0, 1) := by decide +kernel
theorem dX2_firstWithin_4 : decode cX2_firstWithin 4 = .ok (.getfield 18, 3) := by decide +kernel
theorem dX2_firstWithin_7 : decode cX2_firstWithin 7 = .ok (.getfield 22, 3) := by decide +kernel
theorem dX2_firstWithin_10 : decode cX2_firstWithin 10 = .ok (.if_icmp .ge 33, 3) := by decide +kernel
theorem dX2_firstWithin_13 : decode cX2_firstWithin 13 = .ok (.iload_n 1, 1) := by decide +kernel
theorem dX2_firstWithin_14 : decode cX2_firstWithin 14 = .ok (.iload_n 3, 1) := by decide +kernel
theorem dX2_firstWithin_15 : decode cX2_firstWithin 15 = .ok (.ishr, 1) := by decide +kernel
theorem dX2_firstWithin_16 : decode cX2_firstWithin 16 = .ok (.iconst 1, 1) := by decide +kernel
theorem dX2_firstWithin_17 : decode cX2_firstWithin 17 = .ok (.iand, 1) := by decide +kernel
theorem dX2_firstWithin_18 : decode cX2_firstWithin 18 = .ok (.ifCond .ne 19, 3) := by decide +kernel
theorem dX2_firstWithin_21 : decode cX2_firstWithin 21 = .ok (.aload_n 0, 1) := by decide +kernel
theorem dX2_firstWithin_22 : decode cX2_firstWithin 22 = .ok (.getfield 15, 3) := by decide +kernel
theorem dX2_firstWithin_25 : decode cX2_firstWithin 25 = .ok (.iload_n 1, 1) := by decide +kernel
theorem dX2_firstWithin_26 : decode cX2_firstWithin 26 = .ok (.iconst 1, 1) := by decide +kernel
theorem dX2_firstWithin_27 : decode cX2_firstWithin 27 = .ok (.iload_n 3, 1) := by decide +kernel
theorem dX2_firstWithin_28 : decode cX2_firstWithin 28 = .ok (.ishl, 1) := by decide +kernel
theorem dX2_firstWithin_29 : decode cX2_firstWithin 29 = .ok (.ior, 1) := by decide +kernel
theorem dX2_firstWithin_30 : decode cX2_firstWithin 30 = .ok (.iaload, 1) := by decide +kernel
theorem dX2_firstWithin_31 : decode cX2_firstWithin 31 = .ok (.iload_n 2, 1) := by decide +kernel
theorem dX2_firstWithin_32 : decode cX2_firstWithin 32 = .ok (.if_icmp .gt 5, 3) := by decide +kernel
theorem dX2_firstWithin_35 : decode cX2_firstWithin 35 = .ok (.iload_n 3, 1) := by decide +kernel
theorem dX2_firstWithin_36 : decode cX2_firstWithin 36 = .ok (.ireturn, 1) := by decide +kernel
theorem dX2_firstWithin_37 : decode cX2_firstWithin 37 = .ok (.iinc 3 1, 3) := by decide +kernel
theorem dX2_firstWithin_40 : decode cX2_firstWithin 40 = .ok (.goto (-38), 3) := by decide +kernel
theorem dX2_firstWithin_43 : decode cX2_firstWithin 43 = .ok (.iconst 0, 1) := by decide +kernel
theorem dX2_firstWithin_44 : decode cX2_firstWithin 44 = .ok (.ireturn, 1) := by decide +kernel
theorem dX3_init_0 : decode cX3_init 0 = .ok (.aload_n 0, 1) := by decide +kernel
theorem dX3_init_1 : decode cX3_init 1 = .ok (.invokespecial 3, 3) := by decide +kernel
theorem dX3_init_4 : decode cX3_init 4 = .ok (.aload_n 0, 1) := by decide +kernel
theorem dX3_init_5 : decode cX3_init 5 = .ok (.new 9, 3) := by decide +kernel
theorem dX3_init_8 : decode cX3_init 8 = .ok (.dup, 1) := by decide +kernel
theorem dX3_init_9 : decode cX3_init 9 = .ok (.invokespecial 11, 3) := by decide +kernel
theorem dX3_init_12 : decode cX3_init 12 = .ok (.putfield 12, 3) := by decide +kernel
theorem dX3_init_15 : decode cX3_init 15 = .ok (.aload_n 0, 1) := by decide +kernel
theorem dX3_init_16 : decode cX3_init 16 = .ok (.sipush 200, 3) := by decide +kernel
theorem dX3_init_19 : decode cX3_init 19 = .ok (.newarray .int, 2) := by decide +kernel
theorem dX3_init_21 : decode cX3_init 21 = .ok (.putfield 18, 3) := by decide +kernel
theorem dX3_init_24 : decode cX3_init 24 = .ok (.aload_n 0, 1) := by decide +kernel
theorem dX3_init_25 : decode cX3_init 25 = .ok (.sipush 200, 3) := by decide +kernel
theorem dX3_init_28 : decode cX3_init 28 = .ok (.newarray .int, 2) := by decide +kernel
theorem dX3_init_30 : decode cX3_init 30 = .ok (.putfield 22, 3) := by decide +kernel
theorem dX3_init_33 : decode cX3_init 33 = .ok (.aload_n 0, 1) := by decide +kernel
theorem dX3_init_34 : decode cX3_init 34 = .ok (.sipush 200, 3) := by decide +kernel
theorem dX3_init_37 : decode cX3_init 37 = .ok (.newarray .int, 2) := by decide +kernel
theorem dX3_init_39 : decode cX3_init 39 = .ok (.putfield 25, 3) := by decide +kernel
theorem dX3_init_42 : decode cX3_init 42 = .ok (.aload_n 0, 1) := by decide +kernel
theorem dX3_init_43 : decode cX3_init 43 = .ok (.sipush 200, 3) := by decide +kernel
theorem dX3_init_46 : decode cX3_init 46 = .ok (.newarray .int, 2) := by decide +kernel
theorem dX3_init_48 : decode cX3_init 48 = .ok (.putfield 28, 3) := by decide +kernel
theorem dX3_init_51 : decode cX3_init 51 = .ok (.aload_n 0, 1) := by decide +kernel
theorem dX3_init_52 : decode cX3_init 52 = .ok (.sipush 200, 3) := by decide +kernel
theorem dX3_init_55 : decode cX3_init 55 = .ok (.newarray .int, 2) := by decide +kernel
theorem dX3_init_57 : decode cX3_init 57 = .ok (.putfield 31, 3) := by decide +kernel
theorem dX3_init_60 : decode cX3_init 60 = .ok (.aload_n 0, 1) := by decide +kernel
theorem dX3_init_61 : decode cX3_init 61 = .ok (.aload_n 1, 1) := by decide +kernel
theorem dX3_init_62 : decode cX3_init 62 = .ok (.putfield 34, 3) := by decide +kernel
theorem dX3_init_65 : decode cX3_init 65 = .ok (.return_, 1) := by decide +kernel
theorem dX3_begin_0 : decode cX3_begin 0 = .ok (.aload_n 0, 1) := by decide +kernel
theorem dX3_begin_1 : decode cX3_begin 1 = .ok (.getfield 12, 3) := by decide +kernel
theorem dX3_begin_4 : decode cX3_begin 4 = .ok (.aload_n 0, 1) := by decide +kernel
theorem dX3_begin_5 : decode cX3_begin 5 = .ok (.getfield 34, 3) := by decide +kernel
theorem dX3_begin_8 : decode cX3_begin 8 = .ok (.invokevirtual 38, 3) := by decide +kernel
theorem dX3_begin_11 : decode cX3_begin 11 = .ok (.aload_n 0, 1) := by decide +kernel
theorem dX3_begin_12 : decode cX3_begin 12 = .ok (.iconst 0, 1) := by decide +kernel
theorem dX3_begin_13 : decode cX3_begin 13 = .ok (.putfield 42, 3) := by decide +kernel
theorem dX3_begin_16 : decode cX3_begin 16 = .ok (.aload_n 0, 1) := by decide +kernel
theorem dX3_begin_17 : decode cX3_begin 17 = .ok (.iconst 0, 1) := by decide +kernel
theorem dX3_begin_18 : decode cX3_begin 18 = .ok (.putfield 46, 3) := by decide +kernel
theorem dX3_begin_21 : decode cX3_begin 21 = .ok (.return_, 1) := by decide +kernel
theorem dX3_carryOut_0 : decode cX3_carryOut 0 = .ok (.aload_n 0, 1) := by decide +kernel
theorem dX3_carryOut_1 : decode cX3_carryOut 1 = .ok (.getfield 42, 3) := by decide +kernel
theorem dX3_carryOut_4 : decode cX3_carryOut 4 = .ok (.sipush 200, 3) := by decide +kernel
theorem dX3_carryOut_7 : decode cX3_carryOut 7 = .ok (.if_icmp .ge 12, 3) := by decide +kernel
theorem dX3_carryOut_10 : decode cX3_carryOut 10 = .ok (.aload_n 0, 1) := by decide +kernel
theorem dX3_carryOut_11 : decode cX3_carryOut 11 = .ok (.iload_n 1, 1) := by decide +kernel
theorem dX3_carryOut_12 : decode cX3_carryOut 12 = .ok (.iload_n 2, 1) := by decide +kernel
theorem dX3_carryOut_13 : decode cX3_carryOut 13 = .ok (.invokevirtual 49, 3) := by decide +kernel
theorem dX3_carryOut_16 : decode cX3_carryOut 16 = .ok (.ifCond .ne 5, 3) := by decide +kernel
theorem dX3_carryOut_19 : decode cX3_carryOut 19 = .ok (.iconst 0, 1) := by decide +kernel
theorem dX3_carryOut_20 : decode cX3_carryOut 20 = .ok (.ireturn, 1) := by decide +kernel
theorem dX3_carryOut_21 : decode cX3_carryOut 21 = .ok (.aload_n 0, 1) := by decide +kernel
theorem dX3_carryOut_22 : decode cX3_carryOut 22 = .ok (.getfield 12, 3) := by decide +kernel
theorem dX3_carryOut_25 : decode cX3_carryOut 25 = .ok (.getfield 53, 3) := by decide +kernel
theorem dX3_carryOut_28 : decode cX3_carryOut 28 = .ok (.istore 4, 2) := by decide +kernel
theorem dX3_carryOut_30 : decode cX3_carryOut 30 = .ok (.aload_n 0, 1) := by decide +kernel
theorem dX3_carryOut_31 : decode cX3_carryOut 31 = .ok (.getfield 12, 3) := by decide +kernel
theorem dX3_carryOut_34 : decode cX3_carryOut 34 = .ok (.aload_n 0, 1) := by decide +kernel
theorem dX3_carryOut_35 : decode cX3_carryOut 35 = .ok (.getfield 34, 3) := by decide +kernel
theorem dX3_carryOut_38 : decode cX3_carryOut 38 = .ok (.iload_n 1, 1) := by decide +kernel
theorem dX3_carryOut_39 : decode cX3_carryOut 39 = .ok (.iload_n 2, 1) := by decide +kernel
theorem dX3_carryOut_40 : decode cX3_carryOut 40 = .ok (.iload_n 3, 1) := by decide +kernel
theorem dX3_carryOut_41 : decode cX3_carryOut 41 = .ok (.invokevirtual 56, 3) := by decide +kernel
theorem dX3_carryOut_44 : decode cX3_carryOut 44 = .ok (.iload_n 1, 1) := by decide +kernel
theorem dX3_carryOut_45 : decode cX3_carryOut 45 = .ok (.iconst 3, 1) := by decide +kernel
theorem dX3_carryOut_46 : decode cX3_carryOut 46 = .ok (.if_icmp .ne 36, 3) := by decide +kernel
theorem dX3_carryOut_49 : decode cX3_carryOut 49 = .ok (.aload_n 0, 1) := by decide +kernel
theorem dX3_carryOut_50 : decode cX3_carryOut 50 = .ok (.getfield 12, 3) := by decide +kernel
theorem dX3_carryOut_53 : decode cX3_carryOut 53 = .ok (.getfield 53, 3) := by decide +kernel
theorem dX3_carryOut_56 : decode cX3_carryOut 56 = .ok (.iload 4, 2) := by decide +kernel
theorem dX3_carryOut_58 : decode cX3_carryOut 58 = .ok (.iconst (-1), 1) := by decide +kernel
theorem dX3_carryOut_59 : decode cX3_carryOut 59 = .ok (.ixor, 1) := by decide +kernel
theorem dX3_carryOut_60 : decode cX3_carryOut 60 = .ok (.iand, 1) := by decide +kernel
theorem dX3_carryOut_61 : decode cX3_carryOut 61 = .ok (.ifCond .eq 21, 3) := by decide +kernel
theorem dX3_carryOut_64 : decode cX3_carryOut 64 = .ok (.aload_n 0, 1) := by decide +kernel
theorem dX3_carryOut_65 : decode cX3_carryOut 65 = .ok (.getfield 12, 3) := by decide +kernel
theorem dX3_carryOut_68 : decode cX3_carryOut 68 = .ok (.aload_n 0, 1) := by decide +kernel
theorem dX3_carryOut_69 : decode cX3_carryOut 69 = .ok (.getfield 34, 3) := by decide +kernel
theorem dX3_carryOut_72 : decode cX3_carryOut 72 = .ok (.iload_n 1, 1) := by decide +kernel
theorem dX3_carryOut_73 : decode cX3_carryOut 73 = .ok (.iload_n 2, 1) := by decide +kernel
theorem dX3_carryOut_74 : decode cX3_carryOut 74 = .ok (.iload_n 3, 1) := by decide +kernel
theorem dX3_carryOut_75 : decode cX3_carryOut 75 = .ok (.iload 4, 2) := by decide +kernel
theorem dX3_carryOut_77 : decode cX3_carryOut 77 = .ok (.invokevirtual 60, 3) := by decide +kernel
theorem dX3_carryOut_80 : decode cX3_carryOut 80 = .ok (.iconst 0, 1) := by decide +kernel
theorem dX3_carryOut_81 : decode cX3_carryOut 81 = .ok (.ireturn, 1) := by decide +kernel
theorem dX3_carryOut_82 : decode cX3_carryOut 82 = .ok (.aload_n 0, 1) := by decide +kernel
theorem dX3_carryOut_83 : decode cX3_carryOut 83 = .ok (.getfield 18, 3) := by decide +kernel
theorem dX3_carryOut_86 : decode cX3_carryOut 86 = .ok (.aload_n 0, 1) := by decide +kernel
theorem dX3_carryOut_87 : decode cX3_carryOut 87 = .ok (.getfield 42, 3) := by decide +kernel
theorem dX3_carryOut_90 : decode cX3_carryOut 90 = .ok (.iload_n 1, 1) := by decide +kernel
theorem dX3_carryOut_91 : decode cX3_carryOut 91 = .ok (.iastore, 1) := by decide +kernel
theorem dX3_carryOut_92 : decode cX3_carryOut 92 = .ok (.aload_n 0, 1) := by decide +kernel
theorem dX3_carryOut_93 : decode cX3_carryOut 93 = .ok (.getfield 22, 3) := by decide +kernel
theorem dX3_carryOut_96 : decode cX3_carryOut 96 = .ok (.aload_n 0, 1) := by decide +kernel
theorem dX3_carryOut_97 : decode cX3_carryOut 97 = .ok (.getfield 42, 3) := by decide +kernel
theorem dX3_carryOut_100 : decode cX3_carryOut 100 = .ok (.iload_n 2, 1) := by decide +kernel
theorem dX3_carryOut_101 : decode cX3_carryOut 101 = .ok (.iastore, 1) := by decide +kernel
theorem dX3_carryOut_102 : decode cX3_carryOut 102 = .ok (.aload_n 0, 1) := by decide +kernel
theorem dX3_carryOut_103 : decode cX3_carryOut 103 = .ok (.getfield 25, 3) := by decide +kernel
theorem dX3_carryOut_106 : decode cX3_carryOut 106 = .ok (.aload_n 0, 1) := by decide +kernel
theorem dX3_carryOut_107 : decode cX3_carryOut 107 = .ok (.getfield 42, 3) := by decide +kernel
theorem dX3_carryOut_110 : decode cX3_carryOut 110 = .ok (.iload_n 3, 1) := by decide +kernel
theorem dX3_carryOut_111 : decode cX3_carryOut 111 = .ok (.iastore, 1) := by decide +kernel
theorem dX3_carryOut_112 : decode cX3_carryOut 112 = .ok (.aload_n 0, 1) := by decide +kernel
theorem dX3_carryOut_113 : decode cX3_carryOut 113 = .ok (.getfield 28, 3) := by decide +kernel
theorem dX3_carryOut_116 : decode cX3_carryOut 116 = .ok (.aload_n 0, 1) := by decide +kernel
theorem dX3_carryOut_117 : decode cX3_carryOut 117 = .ok (.getfield 42, 3) := by decide +kernel
theorem dX3_carryOut_120 : decode cX3_carryOut 120 = .ok (.iload 4, 2) := by decide +kernel
theorem dX3_carryOut_122 : decode cX3_carryOut 122 = .ok (.iastore, 1) := by decide +kernel
theorem dX3_carryOut_123 : decode cX3_carryOut 123 = .ok (.aload_n 0, 1) := by decide +kernel
theorem dX3_carryOut_124 : decode cX3_carryOut 124 = .ok (.getfield 31, 3) := by decide +kernel
theorem dX3_carryOut_127 : decode cX3_carryOut 127 = .ok (.aload_n 0, 1) := by decide +kernel
theorem dX3_carryOut_128 : decode cX3_carryOut 128 = .ok (.getfield 42, 3) := by decide +kernel
theorem dX3_carryOut_131 : decode cX3_carryOut 131 = .ok (.aload_n 0, 1) := by decide +kernel
theorem dX3_carryOut_132 : decode cX3_carryOut 132 = .ok (.getfield 46, 3) := by decide +kernel
theorem dX3_carryOut_135 : decode cX3_carryOut 135 = .ok (.iastore, 1) := by decide +kernel
theorem dX3_carryOut_136 : decode cX3_carryOut 136 = .ok (.aload_n 0, 1) := by decide +kernel
theorem dX3_carryOut_137 : decode cX3_carryOut 137 = .ok (.dup, 1) := by decide +kernel
theorem dX3_carryOut_138 : decode cX3_carryOut 138 = .ok (.getfield 42, 3) := by decide +kernel
theorem dX3_carryOut_141 : decode cX3_carryOut 141 = .ok (.iconst 1, 1) := by decide +kernel
theorem dX3_carryOut_142 : decode cX3_carryOut 142 = .ok (.iadd, 1) := by decide +kernel
theorem dX3_carryOut_143 : decode cX3_carryOut 143 = .ok (.putfield 42, 3) := by decide +kernel
theorem dX3_carryOut_146 : decode cX3_carryOut 146 = .ok (.aload_n 0, 1) := by decide +kernel
theorem dX3_carryOut_147 : decode cX3_carryOut 147 = .ok (.aload_n 0, 1) := by decide +kernel
theorem dX3_carryOut_148 : decode cX3_carryOut 148 = .ok (.getfield 46, 3) := by decide +kernel
theorem dX3_carryOut_151 : decode cX3_carryOut 151 = .ok (.aload_n 0, 1) := by decide +kernel
theorem dX3_carryOut_152 : decode cX3_carryOut 152 = .ok (.getfield 12, 3) := by decide +kernel
theorem dX3_carryOut_155 : decode cX3_carryOut 155 = .ok (.getfield 64, 3) := by decide +kernel
theorem dX3_carryOut_158 : decode cX3_carryOut 158 = .ok (.invokestatic 67, 3) := by decide +kernel
theorem dX3_carryOut_161 : decode cX3_carryOut 161 = .ok (.putfield 46, 3) := by decide +kernel
theorem dX3_carryOut_164 : decode cX3_carryOut 164 = .ok (.iconst 1, 1) := by decide +kernel
theorem dX3_carryOut_165 : decode cX3_carryOut 165 = .ok (.ireturn, 1) := by decide +kernel
theorem dX3_canBeDone_0 : decode cX3_canBeDone 0 = .ok (.iload_n 1, 1) := by decide +kernel
theorem dX3_canBeDone_1 : decode cX3_canBeDone 1 = .ok (.ifCond .ne 23, 3) := by decide +kernel
theorem dX3_canBeDone_4 : decode cX3_canBeDone 4 = .ok (.aload_n 0, 1) := by decide +kernel
theorem dX3_canBeDone_5 : decode cX3_canBeDone 5 = .ok (.getfield 12, 3) := by decide +kernel
theorem dX3_canBeDone_8 : decode cX3_canBeDone 8 = .ok (.getfield 64, 3) := by decide +kernel
theorem dX3_canBeDone_11 : decode cX3_canBeDone 11 = .ok (.bipush 9, 2) := by decide +kernel
theorem dX3_canBeDone_13 : decode cX3_canBeDone 13 = .ok (.if_icmp .ge 7, 3) := by decide +kernel
theorem dX3_canBeDone_16 : decode cX3_canBeDone 16 = .ok (.iconst 1, 1) := by decide +kernel
theorem dX3_canBeDone_17 : decode cX3_canBeDone 17 = .ok (.goto 24, 3) := by decide +kernel
theorem dX3_canBeDone_20 : decode cX3_canBeDone 20 = .ok (.iconst 0, 1) := by decide +kernel
theorem dX3_canBeDone_21 : decode cX3_canBeDone 21 = .ok (.goto 20, 3) := by decide +kernel
theorem dX3_canBeDone_24 : decode cX3_canBeDone 24 = .ok (.aload_n 0, 1) := by decide +kernel
theorem dX3_canBeDone_25 : decode cX3_canBeDone 25 = .ok (.getfield 12, 3) := by decide +kernel
theorem dX3_canBeDone_28 : decode cX3_canBeDone 28 = .ok (.getfield 73, 3) := by decide +kernel
theorem dX3_canBeDone_31 : decode cX3_canBeDone 31 = .ok (.iload_n 2, 1) := by decide +kernel
theorem dX3_canBeDone_32 : decode cX3_canBeDone 32 = .ok (.iaload, 1) := by decide +kernel
theorem dX3_canBeDone_33 : decode cX3_canBeDone 33 = .ok (.ifCond .le 7, 3) := by decide +kernel
theorem dX3_canBeDone_36 : decode cX3_canBeDone 36 = .ok (.iconst 1, 1) := by decide +kernel
theorem dX3_canBeDone_37 : decode cX3_canBeDone 37 = .ok (.goto 4, 3) := by decide +kernel
theorem dX3_canBeDone_40 : decode cX3_canBeDone 40 = .ok (.iconst 0, 1) := by decide +kernel
theorem dX3_canBeDone_41 : decode cX3_canBeDone 41 = .ok (.ireturn, 1) := by decide +kernel
theorem dX3_takeBack_0 : decode cX3_takeBack 0 = .ok (.aload_n 0, 1) := by decide +kernel
theorem dX3_takeBack_1 : decode cX3_takeBack 1 = .ok (.getfield 42, 3) := by decide +kernel
theorem dX3_takeBack_4 : decode cX3_takeBack 4 = .ok (.iconst 1, 1) := by decide +kernel
theorem dX3_takeBack_5 : decode cX3_takeBack 5 = .ok (.isub, 1) := by decide +kernel
theorem dX3_takeBack_6 : decode cX3_takeBack 6 = .ok (.istore_n 1, 1) := by decide +kernel
theorem dX3_takeBack_7 : decode cX3_takeBack 7 = .ok (.iload_n 1, 1) := by decide +kernel
theorem dX3_takeBack_8 : decode cX3_takeBack 8 = .ok (.ifCond .ge 5, 3) := by decide +kernel
theorem dX3_takeBack_11 : decode cX3_takeBack 11 = .ok (.iconst 0, 1) := by decide +kernel
theorem dX3_takeBack_12 : decode cX3_takeBack 12 = .ok (.ireturn, 1) := by decide +kernel
theorem dX3_takeBack_13 : decode cX3_takeBack 13 = .ok (.aload_n 0, 1) := by decide +kernel
theorem dX3_takeBack_14 : decode cX3_takeBack 14 = .ok (.getfield 12, 3) := by decide +kernel
theorem dX3_takeBack_17 : decode cX3_takeBack 17 = .ok (.aload_n 0, 1) := by decide +kernel
theorem dX3_takeBack_18 : decode cX3_takeBack 18 = .ok (.getfield 34, 3) := by decide +kernel
theorem dX3_takeBack_21 : decode cX3_takeBack 21 = .ok (.aload_n 0, 1) := by decide +kernel
theorem dX3_takeBack_22 : decode cX3_takeBack 22 = .ok (.getfield 18, 3) := by decide +kernel
theorem dX3_takeBack_25 : decode cX3_takeBack 25 = .ok (.iload_n 1, 1) := by decide +kernel
theorem dX3_takeBack_26 : decode cX3_takeBack 26 = .ok (.iaload, 1) := by decide +kernel
theorem dX3_takeBack_27 : decode cX3_takeBack 27 = .ok (.aload_n 0, 1) := by decide +kernel
theorem dX3_takeBack_28 : decode cX3_takeBack 28 = .ok (.getfield 22, 3) := by decide +kernel
theorem dX3_takeBack_31 : decode cX3_takeBack 31 = .ok (.iload_n 1, 1) := by decide +kernel
theorem dX3_takeBack_32 : decode cX3_takeBack 32 = .ok (.iaload, 1) := by decide +kernel
theorem dX3_takeBack_33 : decode cX3_takeBack 33 = .ok (.aload_n 0, 1) := by decide +kernel
theorem dX3_takeBack_34 : decode cX3_takeBack 34 = .ok (.getfield 25, 3) := by decide +kernel
theorem dX3_takeBack_37 : decode cX3_takeBack 37 = .ok (.iload_n 1, 1) := by decide +kernel
theorem dX3_takeBack_38 : decode cX3_takeBack 38 = .ok (.iaload, 1) := by decide +kernel
theorem dX3_takeBack_39 : decode cX3_takeBack 39 = .ok (.aload_n 0, 1) := by decide +kernel
theorem dX3_takeBack_40 : decode cX3_takeBack 40 = .ok (.getfield 28, 3) := by decide +kernel
theorem dX3_takeBack_43 : decode cX3_takeBack 43 = .ok (.iload_n 1, 1) := by decide +kernel
theorem dX3_takeBack_44 : decode cX3_takeBack 44 = .ok (.iaload, 1) := by decide +kernel
theorem dX3_takeBack_45 : decode cX3_takeBack 45 = .ok (.invokevirtual 60, 3) := by decide +kernel
theorem dX3_takeBack_48 : decode cX3_takeBack 48 = .ok (.aload_n 0, 1) := by decide +kernel
theorem dX3_takeBack_49 : decode cX3_takeBack 49 = .ok (.aload_n 0, 1) := by decide +kernel
theorem dX3_takeBack_50 : decode cX3_takeBack 50 = .ok (.getfield 31, 3) := by decide +kernel
theorem dX3_takeBack_53 : decode cX3_takeBack 53 = .ok (.iload_n 1, 1) := by decide +kernel
theorem dX3_takeBack_54 : decode cX3_takeBack 54 = .ok (.iaload, 1) := by decide +kernel
theorem dX3_takeBack_55 : decode cX3_takeBack 55 = .ok (.putfield 46, 3) := by decide +kernel
theorem dX3_takeBack_58 : decode cX3_takeBack 58 = .ok (.aload_n 0, 1) := by decide +kernel
theorem dX3_takeBack_59 : decode cX3_takeBack 59 = .ok (.iload_n 1, 1) := by decide +kernel
theorem dX3_takeBack_60 : decode cX3_takeBack 60 = .ok (.putfield 42, 3) := by decide +kernel
theorem dX3_takeBack_63 : decode cX3_takeBack 63 = .ok (.iconst 1, 1) := by decide +kernel
theorem dX3_takeBack_64 : decode cX3_takeBack 64 = .ok (.ireturn, 1) := by decide +kernel
theorem dX3_passagesJustLost_0 : decode cX3_passagesJustLost 0 = .ok (.aload_n 0, 1) := by decide +kernel
theorem dX3_passagesJustLost_1 : decode cX3_passagesJustLost 1 = .ok (.getfield 42, 3) := by decide +kernel
theorem dX3_passagesJustLost_4 : decode cX3_passagesJustLost 4 = .ok (.iconst 1, 1) := by decide +kernel
theorem dX3_passagesJustLost_5 : decode cX3_passagesJustLost 5 = .ok (.isub, 1) := by decide +kernel
theorem dX3_passagesJustLost_6 : decode cX3_passagesJustLost 6 = .ok (.istore_n 1, 1) := by decide +kernel
theorem dX3_passagesJustLost_7 : decode cX3_passagesJustLost 7 = .ok (.iload_n 1, 1) := by decide +kernel
theorem dX3_passagesJustLost_8 : decode cX3_passagesJustLost 8 = .ok (.ifCond .ge 5, 3) := by decide +kernel
theorem dX3_passagesJustLost_11 : decode cX3_passagesJustLost 11 = .ok (.iconst 0, 1) := by decide +kernel
theorem dX3_passagesJustLost_12 : decode cX3_passagesJustLost 12 = .ok (.ireturn, 1) := by decide +kernel
theorem dX3_passagesJustLost_13 : decode cX3_passagesJustLost 13 = .ok (.aload_n 0, 1) := by decide +kernel
theorem dX3_passagesJustLost_14 : decode cX3_passagesJustLost 14 = .ok (.getfield 34, 3) := by decide +kernel
theorem dX3_passagesJustLost_17 : decode cX3_passagesJustLost 17 = .ok (.aload_n 0, 1) := by decide +kernel
theorem dX3_passagesJustLost_18 : decode cX3_passagesJustLost 18 = .ok (.getfield 12, 3) := by decide +kernel
theorem dX3_passagesJustLost_21 : decode cX3_passagesJustLost 21 = .ok (.getfield 53, 3) := by decide +kernel
theorem dX3_passagesJustLost_24 : decode cX3_passagesJustLost 24 = .ok (.invokevirtual 76, 3) := by decide +kernel
theorem dX3_passagesJustLost_27 : decode cX3_passagesJustLost 27 = .ok (.aload_n 0, 1) := by decide +kernel
theorem dX3_passagesJustLost_28 : decode cX3_passagesJustLost 28 = .ok (.getfield 34, 3) := by decide +kernel
theorem dX3_passagesJustLost_31 : decode cX3_passagesJustLost 31 = .ok (.aload_n 0, 1) := by decide +kernel
theorem dX3_passagesJustLost_32 : decode cX3_passagesJustLost 32 = .ok (.getfield 28, 3) := by decide +kernel
theorem dX3_passagesJustLost_35 : decode cX3_passagesJustLost 35 = .ok (.iload_n 1, 1) := by decide +kernel
theorem dX3_passagesJustLost_36 : decode cX3_passagesJustLost 36 = .ok (.iaload, 1) := by decide +kernel
theorem dX3_passagesJustLost_37 : decode cX3_passagesJustLost 37 = .ok (.invokevirtual 76, 3) := by decide +kernel
theorem dX3_passagesJustLost_40 : decode cX3_passagesJustLost 40 = .ok (.iconst (-1), 1) := by decide +kernel
theorem dX3_passagesJustLost_41 : decode cX3_passagesJustLost 41 = .ok (.ixor, 1) := by decide +kernel
theorem dX3_passagesJustLost_42 : decode cX3_passagesJustLost 42 = .ok (.iand, 1) := by decide +kernel
theorem dX3_passagesJustLost_43 : decode cX3_passagesJustLost 43 = .ok (.ireturn, 1) := by decide +kernel
theorem dX4_init_0 : decode cX4_init 0 = .ok (.aload_n 0, 1) := by decide +kernel
theorem dX4_init_1 : decode cX4_init 1 = .ok (.invokespecial 3, 3) := by decide +kernel
theorem dX4_init_4 : decode cX4_init 4 = .ok (.aload_n 0, 1) := by decide +kernel
theorem dX4_init_5 : decode cX4_init 5 = .ok (.bipush 12, 2) := by decide +kernel
theorem dX4_init_7 : decode cX4_init 7 = .ok (.newarray .int, 2) := by decide +kernel
theorem dX4_init_9 : decode cX4_init 9 = .ok (.putfield 9, 3) := by decide +kernel
theorem dX4_init_12 : decode cX4_init 12 = .ok (.return_, 1) := by decide +kernel
theorem dX4_begin_0 : decode cX4_begin 0 = .ok (.aload_n 0, 1) := by decide +kernel
theorem dX4_begin_1 : decode cX4_begin 1 = .ok (.getfield 9, 3) := by decide +kernel
theorem dX4_begin_4 : decode cX4_begin 4 = .ok (.iconst 0, 1) := by decide +kernel
theorem dX4_begin_5 : decode cX4_begin 5 = .ok (.invokestatic 15, 3) := by decide +kernel
theorem dX4_begin_8 : decode cX4_begin 8 = .ok (.aload_n 0, 1) := by decide +kernel
theorem dX4_begin_9 : decode cX4_begin 9 = .ok (.iconst 0, 1) := by decide +kernel
theorem dX4_begin_10 : decode cX4_begin 10 = .ok (.putfield 21, 3) := by decide +kernel
theorem dX4_begin_13 : decode cX4_begin 13 = .ok (.aload_n 0, 1) := by decide +kernel
theorem dX4_begin_14 : decode cX4_begin 14 = .ok (.iconst 0, 1) := by decide +kernel
theorem dX4_begin_15 : decode cX4_begin 15 = .ok (.putfield 25, 3) := by decide +kernel
theorem dX4_begin_18 : decode cX4_begin 18 = .ok (.aload_n 0, 1) := by decide +kernel
theorem dX4_begin_19 : decode cX4_begin 19 = .ok (.aload_n 1, 1) := by decide +kernel
theorem dX4_begin_20 : decode cX4_begin 20 = .ok (.invokevirtual 28, 3) := by decide +kernel
theorem dX4_begin_23 : decode cX4_begin 23 = .ok (.putfield 34, 3) := by decide +kernel
theorem dX4_begin_26 : decode cX4_begin 26 = .ok (.return_, 1) := by decide +kernel
theorem dX4_follow_0 : decode cX4_follow 0 = .ok (.iload_n 2, 1) := by decide +kernel
theorem dX4_follow_1 : decode cX4_follow 1 = .ok (.ifCond .eq 8, 3) := by decide +kernel
theorem dX4_follow_4 : decode cX4_follow 4 = .ok (.aload_n 0, 1) := by decide +kernel
theorem dX4_follow_5 : decode cX4_follow 5 = .ok (.iload_n 3, 1) := by decide +kernel
theorem dX4_follow_6 : decode cX4_follow 6 = .ok (.invokevirtual 37, 3) := by decide +kernel
theorem dX4_follow_9 : decode cX4_follow 9 = .ok (.iload_n 2, 1) := by decide +kernel
theorem dX4_follow_10 : decode cX4_follow 10 = .ok (.ifCond .ne 11, 3) := by decide +kernel
theorem dX4_follow_13 : decode cX4_follow 13 = .ok (.aload_n 0, 1) := by decide +kernel
theorem dX4_follow_14 : decode cX4_follow 14 = .ok (.iload_n 3, 1) := by decide +kernel
theorem dX4_follow_15 : decode cX4_follow 15 = .ok (.invokevirtual 41, 3) := by decide +kernel
theorem dX4_follow_18 : decode cX4_follow 18 = .ok (.goto 19, 3) := by decide +kernel
theorem dX4_follow_21 : decode cX4_follow 21 = .ok (.iload_n 2, 1) := by decide +kernel
theorem dX4_follow_22 : decode cX4_follow 22 = .ok (.iconst 1, 1) := by decide +kernel
theorem dX4_follow_23 : decode cX4_follow 23 = .ok (.if_icmp .eq 14, 3) := by decide +kernel
theorem dX4_follow_26 : decode cX4_follow 26 = .ok (.aload_n 0, 1) := by decide +kernel
theorem dX4_follow_27 : decode cX4_follow 27 = .ok (.aload_n 1, 1) := by decide +kernel
theorem dX4_follow_28 : decode cX4_follow 28 = .ok (.iload 4, 2) := by decide +kernel
theorem dX4_follow_30 : decode cX4_follow 30 = .ok (.iload_n 3, 1) := by decide +kernel
theorem dX4_follow_31 : decode cX4_follow 31 = .ok (.invokevirtual 44, 3) := by decide +kernel
theorem dX4_follow_34 : decode cX4_follow 34 = .ok (.invokevirtual 41, 3) := by decide +kernel
theorem dX4_follow_37 : decode cX4_follow 37 = .ok (.aload_n 0, 1) := by decide +kernel
theorem dX4_follow_38 : decode cX4_follow 38 = .ok (.aload_n 1, 1) := by decide +kernel
theorem dX4_follow_39 : decode cX4_follow 39 = .ok (.aload_n 0, 1) := by decide +kernel
theorem dX4_follow_40 : decode cX4_follow 40 = .ok (.getfield 34, 3) := by decide +kernel
theorem dX4_follow_43 : decode cX4_follow 43 = .ok (.aload_n 0, 1) := by decide +kernel
theorem dX4_follow_44 : decode cX4_follow 44 = .ok (.getfield 25, 3) := by decide +kernel
theorem dX4_follow_47 : decode cX4_follow 47 = .ok (.iload_n 3, 1) := by decide +kernel
theorem dX4_follow_48 : decode cX4_follow 48 = .ok (.iload_n 2, 1) := by decide +kernel
theorem dX4_follow_49 : decode cX4_follow 49 = .ok (.iconst 2, 1) := by decide +kernel
theorem dX4_follow_50 : decode cX4_follow 50 = .ok (.if_icmp .lt 10, 3) := by decide +kernel
theorem dX4_follow_53 : decode cX4_follow 53 = .ok (.iconst 1, 1) := by decide +kernel
theorem dX4_follow_54 : decode cX4_follow 54 = .ok (.iload 4, 2) := by decide +kernel
theorem dX4_follow_56 : decode cX4_follow 56 = .ok (.ishl, 1) := by decide +kernel
theorem dX4_follow_57 : decode cX4_follow 57 = .ok (.goto 4, 3) := by decide +kernel
theorem dX4_follow_60 : decode cX4_follow 60 = .ok (.iconst 0, 1) := by decide +kernel
theorem dX4_follow_61 : decode cX4_follow 61 = .ok (.invokevirtual 48, 3) := by decide +kernel
theorem dX4_follow_64 : decode cX4_follow 64 = .ok (.putfield 34, 3) := by decide +kernel
theorem dX4_follow_67 : decode cX4_follow 67 = .ok (.return_, 1) := by decide +kernel
theorem dX4_goBack_0 : decode cX4_goBack 0 = .ok (.iload_n 2, 1) := by decide +kernel
theorem dX4_goBack_1 : decode cX4_goBack 1 = .ok (.ifCond .ne 11, 3) := by decide +kernel
theorem dX4_goBack_4 : decode cX4_goBack 4 = .ok (.aload_n 0, 1) := by decide +kernel
theorem dX4_goBack_5 : decode cX4_goBack 5 = .ok (.iload_n 3, 1) := by decide +kernel
theorem dX4_goBack_6 : decode cX4_goBack 6 = .ok (.invokevirtual 37, 3) := by decide +kernel
theorem dX4_goBack_9 : decode cX4_goBack 9 = .ok (.goto 19, 3) := by decide +kernel
theorem dX4_goBack_12 : decode cX4_goBack 12 = .ok (.iload_n 2, 1) := by decide +kernel
theorem dX4_goBack_13 : decode cX4_goBack 13 = .ok (.iconst 1, 1) := by decide +kernel
theorem dX4_goBack_14 : decode cX4_goBack 14 = .ok (.if_icmp .eq 14, 3) := by decide +kernel
theorem dX4_goBack_17 : decode cX4_goBack 17 = .ok (.aload_n 0, 1) := by decide +kernel
theorem dX4_goBack_18 : decode cX4_goBack 18 = .ok (.aload_n 1, 1) := by decide +kernel
theorem dX4_goBack_19 : decode cX4_goBack 19 = .ok (.iload 4, 2) := by decide +kernel
theorem dX4_goBack_21 : decode cX4_goBack 21 = .ok (.iload_n 3, 1) := by decide +kernel
theorem dX4_goBack_22 : decode cX4_goBack 22 = .ok (.invokevirtual 44, 3) := by decide +kernel
theorem dX4_goBack_25 : decode cX4_goBack 25 = .ok (.invokevirtual 37, 3) := by decide +kernel
theorem dX4_goBack_28 : decode cX4_goBack 28 = .ok (.iload_n 2, 1) := by decide +kernel
theorem dX4_goBack_29 : decode cX4_goBack 29 = .ok (.ifCond .eq 8, 3) := by decide +kernel
theorem dX4_goBack_32 : decode cX4_goBack 32 = .ok (.aload_n 0, 1) := by decide +kernel
theorem dX4_goBack_33 : decode cX4_goBack 33 = .ok (.iload_n 3, 1) := by decide +kernel
theorem dX4_goBack_34 : decode cX4_goBack 34 = .ok (.invokevirtual 41, 3) := by decide +kernel
theorem dX4_goBack_37 : decode cX4_goBack 37 = .ok (.aload_n 0, 1) := by decide +kernel
theorem dX4_goBack_38 : decode cX4_goBack 38 = .ok (.iload 5, 2) := by decide +kernel
theorem dX4_goBack_40 : decode cX4_goBack 40 = .ok (.putfield 34, 3) := by decide +kernel
theorem dX4_goBack_43 : decode cX4_goBack 43 = .ok (.return_, 1) := by decide +kernel
theorem dX4_come_0 : decode cX4_come 0 = .ok (.aload_n 0, 1) := by decide +kernel
theorem dX4_come_1 : decode cX4_come 1 = .ok (.getfield 9, 3) := by decide +kernel
theorem dX4_come_4 : decode cX4_come 4 = .ok (.iload_n 1, 1) := by decide +kernel
theorem dX4_come_5 : decode cX4_come 5 = .ok (.dup2, 1) := by decide +kernel
theorem dX4_come_6 : decode cX4_come 6 = .ok (.iaload, 1) := by decide +kernel
theorem dX4_come_7 : decode cX4_come 7 = .ok (.iconst 1, 1) := by decide +kernel
theorem dX4_come_8 : decode cX4_come 8 = .ok (.iadd, 1) := by decide +kernel
theorem dX4_come_9 : decode cX4_come 9 = .ok (.iastore, 1) := by decide +kernel
theorem dX4_come_10 : decode cX4_come 10 = .ok (.aload_n 0, 1) := by decide +kernel
theorem dX4_come_11 : decode cX4_come 11 = .ok (.dup, 1) := by decide +kernel
theorem dX4_come_12 : decode cX4_come 12 = .ok (.getfield 21, 3) := by decide +kernel
theorem dX4_come_15 : decode cX4_come 15 = .ok (.iconst 1, 1) := by decide +kernel
theorem dX4_come_16 : decode cX4_come 16 = .ok (.iadd, 1) := by decide +kernel
theorem dX4_come_17 : decode cX4_come 17 = .ok (.putfield 21, 3) := by decide +kernel
theorem dX4_come_20 : decode cX4_come 20 = .ok (.aload_n 0, 1) := by decide +kernel
theorem dX4_come_21 : decode cX4_come 21 = .ok (.dup, 1) := by decide +kernel
theorem dX4_come_22 : decode cX4_come 22 = .ok (.getfield 25, 3) := by decide +kernel
theorem dX4_come_25 : decode cX4_come 25 = .ok (.iconst 1, 1) := by decide +kernel
theorem dX4_come_26 : decode cX4_come 26 = .ok (.iload_n 1, 1) := by decide +kernel
theorem dX4_come_27 : decode cX4_come 27 = .ok (.ishl, 1) := by decide +kernel
theorem dX4_come_28 : decode cX4_come 28 = .ok (.ior, 1) := by decide +kernel
theorem dX4_come_29 : decode cX4_come 29 = .ok (.putfield 25, 3) := by decide +kernel
theorem dX4_come_32 : decode cX4_come 32 = .ok (.return_, 1) := by decide +kernel
theorem dX4_leave_0 : decode cX4_leave 0 = .ok (.aload_n 0, 1) := by decide +kernel
theorem dX4_leave_1 : decode cX4_leave 1 = .ok (.getfield 9, 3) := by decide +kernel
theorem dX4_leave_4 : decode cX4_leave 4 = .ok (.iload_n 1, 1) := by decide +kernel
theorem dX4_leave_5 : decode cX4_leave 5 = .ok (.dup2, 1) := by decide +kernel
theorem dX4_leave_6 : decode cX4_leave 6 = .ok (.iaload, 1) := by decide +kernel
theorem dX4_leave_7 : decode cX4_leave 7 = .ok (.iconst 1, 1) := by decide +kernel
theorem dX4_leave_8 : decode cX4_leave 8 = .ok (.isub, 1) := by decide +kernel
theorem dX4_leave_9 : decode cX4_leave 9 = .ok (.iastore, 1) := by decide +kernel
theorem dX4_leave_10 : decode cX4_leave 10 = .ok (.aload_n 0, 1) := by decide +kernel
theorem dX4_leave_11 : decode cX4_leave 11 = .ok (.dup, 1) := by decide +kernel
theorem dX4_leave_12 : decode cX4_leave 12 = .ok (.getfield 21, 3) := by decide +kernel
theorem dX4_leave_15 : decode cX4_leave 15 = .ok (.iconst 1, 1) := by decide +kernel
theorem dX4_leave_16 : decode cX4_leave 16 = .ok (.isub, 1) := by decide +kernel
theorem dX4_leave_17 : decode cX4_leave 17 = .ok (.putfield 21, 3) := by decide +kernel
theorem dX4_leave_20 : decode cX4_leave 20 = .ok (.aload_n 0, 1) := by decide +kernel
theorem dX4_leave_21 : decode cX4_leave 21 = .ok (.getfield 9, 3) := by decide +kernel
theorem dX4_leave_24 : decode cX4_leave 24 = .ok (.iload_n 1, 1) := by decide +kernel
theorem dX4_leave_25 : decode cX4_leave 25 = .ok (.iaload, 1) := by decide +kernel
theorem dX4_leave_26 : decode cX4_leave 26 = .ok (.ifCond .ne 17, 3) := by decide +kernel
theorem dX4_leave_29 : decode cX4_leave 29 = .ok (.aload_n 0, 1) := by decide +kernel
theorem dX4_leave_30 : decode cX4_leave 30 = .ok (.dup, 1) := by decide +kernel
theorem dX4_leave_31 : decode cX4_leave 31 = .ok (.getfield 25, 3) := by decide +kernel
theorem dX4_leave_34 : decode cX4_leave 34 = .ok (.iconst 1, 1) := by decide +kernel
theorem dX4_leave_35 : decode cX4_leave 35 = .ok (.iload_n 1, 1) := by decide +kernel
theorem dX4_leave_36 : decode cX4_leave 36 = .ok (.ishl, 1) := by decide +kernel
theorem dX4_leave_37 : decode cX4_leave 37 = .ok (.iconst (-1), 1) := by decide +kernel
theorem dX4_leave_38 : decode cX4_leave 38 = .ok (.ixor, 1) := by decide +kernel
theorem dX4_leave_39 : decode cX4_leave 39 = .ok (.iand, 1) := by decide +kernel
theorem dX4_leave_40 : decode cX4_leave 40 = .ok (.putfield 25, 3) := by decide +kernel
theorem dX4_leave_43 : decode cX4_leave 43 = .ok (.return_, 1) := by decide +kernel
theorem dX5_init_0 : decode cX5_init 0 = .ok (.aload_n 0, 1) := by decide +kernel
theorem dX5_init_1 : decode cX5_init 1 = .ok (.invokespecial 3, 3) := by decide +kernel
theorem dX5_init_4 : decode cX5_init 4 = .ok (.aload_n 0, 1) := by decide +kernel
theorem dX5_init_5 : decode cX5_init 5 = .ok (.iconst 0, 1) := by decide +kernel
theorem dX5_init_6 : decode cX5_init 6 = .ok (.iload_n 1, 1) := by decide +kernel
theorem dX5_init_7 : decode cX5_init 7 = .ok (.invokestatic 9, 3) := by decide +kernel
theorem dX5_init_10 : decode cX5_init 10 = .ok (.newarray .int, 2) := by decide +kernel
theorem dX5_init_12 : decode cX5_init 12 = .ok (.putfield 15, 3) := by decide +kernel
theorem dX5_init_15 : decode cX5_init 15 = .ok (.return_, 1) := by decide +kernel
theorem dX5_packed_0 : decode cX5_packed 0 = .ok (.iload_n 0, 1) := by decide +kernel
theorem dX5_packed_1 : decode cX5_packed 1 = .ok (.bipush 10, 2) := by decide +kernel
theorem dX5_packed_3 : decode cX5_packed 3 = .ok (.ishl, 1) := by decide +kernel
theorem dX5_packed_4 : decode cX5_packed 4 = .ok (.iload_n 1, 1) := by decide +kernel
theorem dX5_packed_5 : decode cX5_packed 5 = .ok (.iconst 5, 1) := by decide +kernel
theorem dX5_packed_6 : decode cX5_packed 6 = .ok (.ishl, 1) := by decide +kernel
theorem dX5_packed_7 : decode cX5_packed 7 = .ok (.ior, 1) := by decide +kernel
theorem dX5_packed_8 : decode cX5_packed 8 = .ok (.iload_n 2, 1) := by decide +kernel
theorem dX5_packed_9 : decode cX5_packed 9 = .ok (.iconst 1, 1) := by decide +kernel
theorem dX5_packed_10 : decode cX5_packed 10 = .ok (.iadd, 1) := by decide +kernel
theorem dX5_packed_11 : decode cX5_packed 11 = .ok (.ior, 1) := by decide +kernel
theorem dX5_packed_12 : decode cX5_packed 12 = .ok (.ireturn, 1) := by decide +kernel
theorem dX5_length_0 : decode cX5_length 0 = .ok (.aload_n 0, 1) := by decide +kernel
theorem dX5_length_1 : decode cX5_length 1 = .ok (.getfield 15, 3) := by decide +kernel
theorem dX5_length_4 : decode cX5_length 4 = .ok (.arraylength, 1) := by decide +kernel
theorem dX5_length_5 : decode cX5_length 5 = .ok (.ireturn, 1) := by decide +kernel
theorem dX5_put_0 : decode cX5_put 0 = .ok (.iload_n 1, 1) := by decide +kernel
theorem dX5_put_1 : decode cX5_put 1 = .ok (.ifCond .lt 19, 3) := by decide +kernel
theorem dX5_put_4 : decode cX5_put 4 = .ok (.iload_n 1, 1) := by decide +kernel
theorem dX5_put_5 : decode cX5_put 5 = .ok (.aload_n 0, 1) := by decide +kernel
theorem dX5_put_6 : decode cX5_put 6 = .ok (.getfield 15, 3) := by decide +kernel
theorem dX5_put_9 : decode cX5_put 9 = .ok (.arraylength, 1) := by decide +kernel
theorem dX5_put_10 : decode cX5_put 10 = .ok (.if_icmp .ge 10, 3) := by decide +kernel
theorem dX5_put_13 : decode cX5_put 13 = .ok (.aload_n 0, 1) := by decide +kernel
theorem dX5_put_14 : decode cX5_put 14 = .ok (.getfield 15, 3) := by decide +kernel
theorem dX5_put_17 : decode cX5_put 17 = .ok (.iload_n 1, 1) := by decide +kernel
theorem dX5_put_18 : decode cX5_put 18 = .ok (.iload_n 2, 1) := by decide +kernel
theorem dX5_put_19 : decode cX5_put 19 = .ok (.iastore, 1) := by decide +kernel
theorem dX5_put_20 : decode cX5_put 20 = .ok (.return_, 1) := by decide +kernel
theorem dX5_tell_0 : decode cX5_tell 0 = .ok (.iload_n 1, 1) := by decide +kernel
theorem dX5_tell_1 : decode cX5_tell 1 = .ok (.ifCond .lt 12, 3) := by decide +kernel
theorem dX5_tell_4 : decode cX5_tell 4 = .ok (.iload_n 1, 1) := by decide +kernel
theorem dX5_tell_5 : decode cX5_tell 5 = .ok (.aload_n 0, 1) := by decide +kernel
theorem dX5_tell_6 : decode cX5_tell 6 = .ok (.getfield 15, 3) := by decide +kernel
theorem dX5_tell_9 : decode cX5_tell 9 = .ok (.arraylength, 1) := by decide +kernel
theorem dX5_tell_10 : decode cX5_tell 10 = .ok (.if_icmp .lt 5, 3) := by decide +kernel
theorem dX5_tell_13 : decode cX5_tell 13 = .ok (.iconst (-1), 1) := by decide +kernel
theorem dX5_tell_14 : decode cX5_tell 14 = .ok (.ireturn, 1) := by decide +kernel
theorem dX5_tell_15 : decode cX5_tell 15 = .ok (.iload_n 2, 1) := by decide +kernel
theorem dX5_tell_16 : decode cX5_tell 16 = .ok (.tableswitch 62 0 2 #[28, 38, 50], 28) := by decide +kernel
theorem dX5_tell_44 : decode cX5_tell 44 = .ok (.aload_n 0, 1) := by decide +kernel
theorem dX5_tell_45 : decode cX5_tell 45 = .ok (.getfield 15, 3) := by decide +kernel
theorem dX5_tell_48 : decode cX5_tell 48 = .ok (.iload_n 1, 1) := by decide +kernel
theorem dX5_tell_49 : decode cX5_tell 49 = .ok (.iaload, 1) := by decide +kernel
theorem dX5_tell_50 : decode cX5_tell 50 = .ok (.bipush 10, 2) := by decide +kernel
