theorem dX0_init_0 : decode cX0_init 0 = .ok (.aload_n 0, 1) := by decide +kernel
theorem dX0_init_1 : decode cX0_init 1 = .ok (.invokespecial 3, 3) := by decide +kernel
theorem dX0_init_4 : decode cX0_init 4 = .ok (.aload_n 0, 1) := by decide +kernel
theorem dX0_init_5 : decode cX0_init 5 = .ok (.sipush 2048, 3) := by decide +kernel
theorem dX0_init_8 : decode cX0_init 8 = .ok (.newarray .int, 2) := by decide +kernel
theorem dX0_init_10 : decode cX0_init 10 = .ok (.putfield 11, 3) := by decide +kernel
theorem dX0_init_13 : decode cX0_init 13 = .ok (.aload_n 0, 1) := by decide +kernel
theorem dX0_init_14 : decode cX0_init 14 = .ok (.sipush 1604, 3) := by decide +kernel
theorem dX0_init_17 : decode cX0_init 17 = .ok (.newarray .int, 2) := by decide +kernel
theorem dX0_init_19 : decode cX0_init 19 = .ok (.putfield 15, 3) := by decide +kernel
theorem dX0_init_22 : decode cX0_init 22 = .ok (.aload_n 0, 1) := by decide +kernel
theorem dX0_init_23 : decode cX0_init 23 = .ok (.sipush 1604, 3) := by decide +kernel
theorem dX0_init_26 : decode cX0_init 26 = .ok (.newarray .int, 2) := by decide +kernel
theorem dX0_init_28 : decode cX0_init 28 = .ok (.putfield 18, 3) := by decide +kernel
theorem dX0_init_31 : decode cX0_init 31 = .ok (.aload_n 0, 1) := by decide +kernel
theorem dX0_init_32 : decode cX0_init 32 = .ok (.sipush 1604, 3) := by decide +kernel
theorem dX0_init_35 : decode cX0_init 35 = .ok (.newarray .int, 2) := by decide +kernel
theorem dX0_init_37 : decode cX0_init 37 = .ok (.putfield 21, 3) := by decide +kernel
theorem dX0_init_40 : decode cX0_init 40 = .ok (.aload_n 0, 1) := by decide +kernel
theorem dX0_init_41 : decode cX0_init 41 = .ok (.aload_n 1, 1) := by decide +kernel
theorem dX0_init_42 : decode cX0_init 42 = .ok (.putfield 24, 3) := by decide +kernel
theorem dX0_init_45 : decode cX0_init 45 = .ok (.return_, 1) := by decide +kernel
theorem dX0_finds_0 : decode cX0_finds 0 = .ok (.aload_n 0, 1) := by decide +kernel
theorem dX0_finds_1 : decode cX0_finds 1 = .ok (.iload_n 1, 1) := by decide +kernel
theorem dX0_finds_2 : decode cX0_finds 2 = .ok (.putfield 28, 3) := by decide +kernel
theorem dX0_finds_5 : decode cX0_finds 5 = .ok (.aload_n 0, 1) := by decide +kernel
theorem dX0_finds_6 : decode cX0_finds 6 = .ok (.iload_n 2, 1) := by decide +kernel
theorem dX0_finds_7 : decode cX0_finds 7 = .ok (.putfield 32, 3) := by decide +kernel
theorem dX0_finds_10 : decode cX0_finds 10 = .ok (.aload_n 0, 1) := by decide +kernel
theorem dX0_finds_11 : decode cX0_finds 11 = .ok (.iconst 0, 1) := by decide +kernel
theorem dX0_finds_12 : decode cX0_finds 12 = .ok (.putfield 35, 3) := by decide +kernel
theorem dX0_finds_15 : decode cX0_finds 15 = .ok (.aload_n 0, 1) := by decide +kernel
theorem dX0_finds_16 : decode cX0_finds 16 = .ok (.iconst (-1), 1) := by decide +kernel
theorem dX0_finds_17 : decode cX0_finds 17 = .ok (.putfield 38, 3) := by decide +kernel
theorem dX0_finds_20 : decode cX0_finds 20 = .ok (.aload_n 0, 1) := by decide +kernel
theorem dX0_finds_21 : decode cX0_finds 21 = .ok (.getfield 11, 3) := by decide +kernel
theorem dX0_finds_24 : decode cX0_finds 24 = .ok (.iconst 0, 1) := by decide +kernel
theorem dX0_finds_25 : decode cX0_finds 25 = .ok (.invokestatic 41, 3) := by decide +kernel
theorem dX0_finds_28 : decode cX0_finds 28 = .ok (.aload_n 0, 1) := by decide +kernel
theorem dX0_finds_29 : decode cX0_finds 29 = .ok (.iconst (-1), 1) := by decide +kernel
theorem dX0_finds_30 : decode cX0_finds 30 = .ok (.putfield 47, 3) := by decide +kernel
theorem dX0_finds_33 : decode cX0_finds 33 = .ok (.aload_n 0, 1) := by decide +kernel
theorem dX0_finds_34 : decode cX0_finds 34 = .ok (.iconst 0, 1) := by decide +kernel
theorem dX0_finds_35 : decode cX0_finds 35 = .ok (.putfield 50, 3) := by decide +kernel
theorem dX0_finds_38 : decode cX0_finds 38 = .ok (.aload_n 0, 1) := by decide +kernel
theorem dX0_finds_39 : decode cX0_finds 39 = .ok (.iconst 0, 1) := by decide +kernel
theorem dX0_finds_40 : decode cX0_finds 40 = .ok (.aload_n 0, 1) := by decide +kernel
theorem dX0_finds_41 : decode cX0_finds 41 = .ok (.getfield 24, 3) := by decide +kernel
theorem dX0_finds_44 : decode cX0_finds 44 = .ok (.invokevirtual 54, 3) := by decide +kernel
theorem dX0_finds_47 : decode cX0_finds 47 = .ok (.iconst 0, 1) := by decide +kernel
theorem dX0_finds_48 : decode cX0_finds 48 = .ok (.iconst 0, 1) := by decide +kernel
theorem dX0_finds_49 : decode cX0_finds 49 = .ok (.iconst 0, 1) := by decide +kernel
theorem dX0_finds_50 : decode cX0_finds 50 = .ok (.iconst (-1), 1) := by decide +kernel
theorem dX0_finds_51 : decode cX0_finds 51 = .ok (.invokevirtual 60, 3) := by decide +kernel
theorem dX0_finds_54 : decode cX0_finds 54 = .ok (.iconst 0, 1) := by decide +kernel
theorem dX0_finds_55 : decode cX0_finds 55 = .ok (.istore_n 3, 1) := by decide +kernel
theorem dX0_finds_56 : decode cX0_finds 56 = .ok (.iload_n 3, 1) := by decide +kernel
theorem dX0_finds_57 : decode cX0_finds 57 = .ok (.aload_n 0, 1) := by decide +kernel
theorem dX0_finds_58 : decode cX0_finds 58 = .ok (.getfield 35, 3) := by decide +kernel
theorem dX0_finds_61 : decode cX0_finds 61 = .ok (.if_icmp .ge 41, 3) := by decide +kernel
theorem dX0_finds_64 : decode cX0_finds 64 = .ok (.iload_n 3, 1) := by decide +kernel
theorem dX0_finds_65 : decode cX0_finds 65 = .ok (.sipush 1604, 3) := by decide +kernel
theorem dX0_finds_68 : decode cX0_finds 68 = .ok (.if_icmp .ge 34, 3) := by decide +kernel
theorem dX0_finds_71 : decode cX0_finds 71 = .ok (.aload_n 0, 1) := by decide +kernel
theorem dX0_finds_72 : decode cX0_finds 72 = .ok (.getfield 38, 3) := by decide +kernel
theorem dX0_finds_75 : decode cX0_finds 75 = .ok (.iconst (-1), 1) := by decide +kernel
theorem dX0_finds_76 : decode cX0_finds 76 = .ok (.if_icmp .ne 26, 3) := by decide +kernel
theorem dX0_finds_79 : decode cX0_finds 79 = .ok (.aload_n 0, 1) := by decide +kernel
theorem dX0_finds_80 : decode cX0_finds 80 = .ok (.iload_n 3, 1) := by decide +kernel
theorem dX0_finds_81 : decode cX0_finds 81 = .ok (.invokevirtual 64, 3) := by decide +kernel
theorem dX0_finds_84 : decode cX0_finds 84 = .ok (.aload_n 0, 1) := by decide +kernel
theorem dX0_finds_85 : decode cX0_finds 85 = .ok (.invokevirtual 68, 3) := by decide +kernel
theorem dX0_finds_88 : decode cX0_finds 88 = .ok (.aload_n 0, 1) := by decide +kernel
theorem dX0_finds_89 : decode cX0_finds 89 = .ok (.invokevirtual 71, 3) := by decide +kernel
theorem dX0_finds_92 : decode cX0_finds 92 = .ok (.aload_n 0, 1) := by decide +kernel
theorem dX0_finds_93 : decode cX0_finds 93 = .ok (.invokevirtual 74, 3) := by decide +kernel
theorem dX0_finds_96 : decode cX0_finds 96 = .ok (.iinc 3 1, 3) := by decide +kernel
theorem dX0_finds_99 : decode cX0_finds 99 = .ok (.goto (-43), 3) := by decide +kernel
theorem dX0_finds_102 : decode cX0_finds 102 = .ok (.aload_n 0, 1) := by decide +kernel
theorem dX0_finds_103 : decode cX0_finds 103 = .ok (.getfield 38, 3) := by decide +kernel
theorem dX0_finds_106 : decode cX0_finds 106 = .ok (.iconst (-1), 1) := by decide +kernel
theorem dX0_finds_107 : decode cX0_finds 107 = .ok (.if_icmp .eq 7, 3) := by decide +kernel
theorem dX0_finds_110 : decode cX0_finds 110 = .ok (.iconst 1, 1) := by decide +kernel
theorem dX0_finds_111 : decode cX0_finds 111 = .ok (.goto 4, 3) := by decide +kernel
theorem dX0_finds_114 : decode cX0_finds 114 = .ok (.iconst 0, 1) := by decide +kernel
theorem dX0_finds_115 : decode cX0_finds 115 = .ok (.ireturn, 1) := by decide +kernel
theorem dX0_wayToGoal_0 : decode cX0_wayToGoal 0 = .ok (.iconst 0, 1) := by decide +kernel
theorem dX0_wayToGoal_1 : decode cX0_wayToGoal 1 = .ok (.istore_n 1, 1) := by decide +kernel
theorem dX0_wayToGoal_2 : decode cX0_wayToGoal 2 = .ok (.aload_n 0, 1) := by decide +kernel
theorem dX0_wayToGoal_3 : decode cX0_wayToGoal 3 = .ok (.getfield 38, 3) := by decide +kernel
theorem dX0_wayToGoal_6 : decode cX0_wayToGoal 6 = .ok (.istore_n 2, 1) := by decide +kernel
theorem dX0_wayToGoal_7 : decode cX0_wayToGoal 7 = .ok (.iload_n 2, 1) := by decide +kernel
theorem dX0_wayToGoal_8 : decode cX0_wayToGoal 8 = .ok (.ifCond .le 30, 3) := by decide +kernel
theorem dX0_wayToGoal_11 : decode cX0_wayToGoal 11 = .ok (.iload_n 2, 1) := by decide +kernel
theorem dX0_wayToGoal_12 : decode cX0_wayToGoal 12 = .ok (.sipush 1604, 3) := by decide +kernel
theorem dX0_wayToGoal_15 : decode cX0_wayToGoal 15 = .ok (.if_icmp .ge 23, 3) := by decide +kernel
theorem dX0_wayToGoal_18 : decode cX0_wayToGoal 18 = .ok (.iload_n 1, 1) := by decide +kernel
theorem dX0_wayToGoal_19 : decode cX0_wayToGoal 19 = .ok (.sipush 1604, 3) := by decide +kernel
theorem dX0_wayToGoal_22 : decode cX0_wayToGoal 22 = .ok (.if_icmp .ge 16, 3) := by decide +kernel
theorem dX0_wayToGoal_25 : decode cX0_wayToGoal 25 = .ok (.iinc 1 1, 3) := by decide +kernel
theorem dX0_wayToGoal_28 : decode cX0_wayToGoal 28 = .ok (.aload_n 0, 1) := by decide +kernel
theorem dX0_wayToGoal_29 : decode cX0_wayToGoal 29 = .ok (.getfield 18, 3) := by decide +kernel
theorem dX0_wayToGoal_32 : decode cX0_wayToGoal 32 = .ok (.iload_n 2, 1) := by decide +kernel
theorem dX0_wayToGoal_33 : decode cX0_wayToGoal 33 = .ok (.iaload, 1) := by decide +kernel
theorem dX0_wayToGoal_34 : decode cX0_wayToGoal 34 = .ok (.istore_n 2, 1) := by decide +kernel
theorem dX0_wayToGoal_35 : decode cX0_wayToGoal 35 = .ok (.goto (-28), 3) := by decide +kernel
theorem dX0_wayToGoal_38 : decode cX0_wayToGoal 38 = .ok (.new 77, 3) := by decide +kernel
theorem dX0_wayToGoal_41 : decode cX0_wayToGoal 41 = .ok (.dup, 1) := by decide +kernel
theorem dX0_wayToGoal_42 : decode cX0_wayToGoal 42 = .ok (.iload_n 1, 1) := by decide +kernel
theorem dX0_wayToGoal_43 : decode cX0_wayToGoal 43 = .ok (.invokespecial 79, 3) := by decide +kernel
theorem dX0_wayToGoal_46 : decode cX0_wayToGoal 46 = .ok (.astore_n 2, 1) := by decide +kernel
theorem dX0_wayToGoal_47 : decode cX0_wayToGoal 47 = .ok (.iload_n 1, 1) := by decide +kernel
theorem dX0_wayToGoal_48 : decode cX0_wayToGoal 48 = .ok (.istore_n 3, 1) := by decide +kernel
theorem dX0_wayToGoal_49 : decode cX0_wayToGoal 49 = .ok (.aload_n 0, 1) := by decide +kernel
theorem dX0_wayToGoal_50 : decode cX0_wayToGoal 50 = .ok (.getfield 38, 3) := by decide +kernel
theorem dX0_wayToGoal_53 : decode cX0_wayToGoal 53 = .ok (.istore 4, 2) := by decide +kernel
theorem dX0_wayToGoal_55 : decode cX0_wayToGoal 55 = .ok (.iload 4, 2) := by decide +kernel
theorem dX0_wayToGoal_57 : decode cX0_wayToGoal 57 = .ok (.ifCond .le 42, 3) := by decide +kernel
theorem dX0_wayToGoal_60 : decode cX0_wayToGoal 60 = .ok (.iload 4, 2) := by decide +kernel
theorem dX0_wayToGoal_62 : decode cX0_wayToGoal 62 = .ok (.sipush 1604, 3) := by decide +kernel
theorem dX0_wayToGoal_65 : decode cX0_wayToGoal 65 = .ok (.if_icmp .ge 34, 3) := by decide +kernel
theorem dX0_wayToGoal_68 : decode cX0_wayToGoal 68 = .ok (.iload_n 3, 1) := by decide +kernel
theorem dX0_wayToGoal_69 : decode cX0_wayToGoal 69 = .ok (.ifCond .le 30, 3) := by decide +kernel
theorem dX0_wayToGoal_72 : decode cX0_wayToGoal 72 = .ok (.iinc 3 (-1), 3) := by decide +kernel
theorem dX0_wayToGoal_75 : decode cX0_wayToGoal 75 = .ok (.aload_n 2, 1) := by decide +kernel
theorem dX0_wayToGoal_76 : decode cX0_wayToGoal 76 = .ok (.iload_n 3, 1) := by decide +kernel
theorem dX0_wayToGoal_77 : decode cX0_wayToGoal 77 = .ok (.aload_n 0, 1) := by decide +kernel
theorem dX0_wayToGoal_78 : decode cX0_wayToGoal 78 = .ok (.getfield 21, 3) := by decide +kernel
theorem dX0_wayToGoal_81 : decode cX0_wayToGoal 81 = .ok (.iload 4, 2) := by decide +kernel
theorem dX0_wayToGoal_83 : decode cX0_wayToGoal 83 = .ok (.iaload, 1) := by decide +kernel
theorem dX0_wayToGoal_84 : decode cX0_wayToGoal 84 = .ok (.invokevirtual 81, 3) := by decide +kernel
theorem dX0_wayToGoal_87 : decode cX0_wayToGoal 87 = .ok (.aload_n 0, 1) := by decide +kernel
theorem dX0_wayToGoal_88 : decode cX0_wayToGoal 88 = .ok (.getfield 18, 3) := by decide +kernel
theorem dX0_wayToGoal_91 : decode cX0_wayToGoal 91 = .ok (.iload 4, 2) := by decide +kernel
theorem dX0_wayToGoal_93 : decode cX0_wayToGoal 93 = .ok (.iaload, 1) := by decide +kernel
theorem dX0_wayToGoal_94 : decode cX0_wayToGoal 94 = .ok (.istore 4, 2) := by decide +kernel
theorem dX0_wayToGoal_96 : decode cX0_wayToGoal 96 = .ok (.goto (-41), 3) := by decide +kernel
theorem dX0_wayToGoal_99 : decode cX0_wayToGoal 99 = .ok (.aload_n 2, 1) := by decide +kernel
theorem dX0_wayToGoal_100 : decode cX0_wayToGoal 100 = .ok (.areturn, 1) := by decide +kernel
theorem dX0_takeUp_0 : decode cX0_takeUp 0 = .ok (.aload_n 0, 1) := by decide +kernel
theorem dX0_takeUp_1 : decode cX0_takeUp 1 = .ok (.getfield 15, 3) := by decide +kernel
theorem dX0_takeUp_4 : decode cX0_takeUp 4 = .ok (.iload_n 1, 1) := by decide +kernel
theorem dX0_takeUp_5 : decode cX0_takeUp 5 = .ok (.iaload, 1) := by decide +kernel
theorem dX0_takeUp_6 : decode cX0_takeUp 6 = .ok (.istore_n 2, 1) := by decide +kernel
theorem dX0_takeUp_7 : decode cX0_takeUp 7 = .ok (.aload_n 0, 1) := by decide +kernel
theorem dX0_takeUp_8 : decode cX0_takeUp 8 = .ok (.iload_n 1, 1) := by decide +kernel
theorem dX0_takeUp_9 : decode cX0_takeUp 9 = .ok (.putfield 47, 3) := by decide +kernel
theorem dX0_takeUp_12 : decode cX0_takeUp 12 = .ok (.aload_n 0, 1) := by decide +kernel
theorem dX0_takeUp_13 : decode cX0_takeUp 13 = .ok (.iload_n 2, 1) := by decide +kernel
theorem dX0_takeUp_14 : decode cX0_takeUp 14 = .ok (.sipush 4095, 3) := by decide +kernel
theorem dX0_takeUp_17 : decode cX0_takeUp 17 = .ok (.iand, 1) := by decide +kernel
theorem dX0_takeUp_18 : decode cX0_takeUp 18 = .ok (.putfield 85, 3) := by decide +kernel
theorem dX0_takeUp_21 : decode cX0_takeUp 21 = .ok (.aload_n 0, 1) := by decide +kernel
theorem dX0_takeUp_22 : decode cX0_takeUp 22 = .ok (.iload_n 2, 1) := by decide +kernel
theorem dX0_takeUp_23 : decode cX0_takeUp 23 = .ok (.bipush 12, 2) := by decide +kernel
theorem dX0_takeUp_25 : decode cX0_takeUp 25 = .ok (.ishr, 1) := by decide +kernel
theorem dX0_takeUp_26 : decode cX0_takeUp 26 = .ok (.bipush 63, 2) := by decide +kernel
theorem dX0_takeUp_28 : decode cX0_takeUp 28 = .ok (.iand, 1) := by decide +kernel
theorem dX0_takeUp_29 : decode cX0_takeUp 29 = .ok (.putfield 88, 3) := by decide +kernel
theorem dX0_takeUp_32 : decode cX0_takeUp 32 = .ok (.aload_n 0, 1) := by decide +kernel
theorem dX0_takeUp_33 : decode cX0_takeUp 33 = .ok (.iload_n 2, 1) := by decide +kernel
theorem dX0_takeUp_34 : decode cX0_takeUp 34 = .ok (.bipush 18, 2) := by decide +kernel
theorem dX0_takeUp_36 : decode cX0_takeUp 36 = .ok (.ishr, 1) := by decide +kernel
theorem dX0_takeUp_37 : decode cX0_takeUp 37 = .ok (.ifCond .eq 7, 3) := by decide +kernel
theorem dX0_takeUp_40 : decode cX0_takeUp 40 = .ok (.iconst 1, 1) := by decide +kernel
theorem dX0_takeUp_41 : decode cX0_takeUp 41 = .ok (.goto 4, 3) := by decide +kernel
theorem dX0_takeUp_44 : decode cX0_takeUp 44 = .ok (.iconst 0, 1) := by decide +kernel
theorem dX0_takeUp_45 : decode cX0_takeUp 45 = .ok (.putfield 50, 3) := by decide +kernel
theorem dX0_takeUp_48 : decode cX0_takeUp 48 = .ok (.aload_n 0, 1) := by decide +kernel
theorem dX0_takeUp_49 : decode cX0_takeUp 49 = .ok (.iconst 0, 1) := by decide +kernel
theorem dX0_takeUp_50 : decode cX0_takeUp 50 = .ok (.putfield 91, 3) := by decide +kernel
theorem dX0_takeUp_53 : decode cX0_takeUp 53 = .ok (.aload_n 0, 1) := by decide +kernel
theorem dX0_takeUp_54 : decode cX0_takeUp 54 = .ok (.iconst 0, 1) := by decide +kernel
theorem dX0_takeUp_55 : decode cX0_takeUp 55 = .ok (.putfield 94, 3) := by decide +kernel
theorem dX0_takeUp_58 : decode cX0_takeUp 58 = .ok (.iconst 0, 1) := by decide +kernel
theorem dX0_takeUp_59 : decode cX0_takeUp 59 = .ok (.istore_n 3, 1) := by decide +kernel
theorem dX0_takeUp_60 : decode cX0_takeUp 60 = .ok (.iload_n 3, 1) := by decide +kernel
theorem dX0_takeUp_61 : decode cX0_takeUp 61 = .ok (.bipush 6, 2) := by decide +kernel
theorem dX0_takeUp_63 : decode cX0_takeUp 63 = .ok (.if_icmp .ge 49, 3) := by decide +kernel
theorem dX0_takeUp_66 : decode cX0_takeUp 66 = .ok (.aload_n 0, 1) := by decide +kernel
theorem dX0_takeUp_67 : decode cX0_takeUp 67 = .ok (.getfield 85, 3) := by decide +kernel
theorem dX0_takeUp_70 : decode cX0_takeUp 70 = .ok (.iconst 2, 1) := by decide +kernel
theorem dX0_takeUp_71 : decode cX0_takeUp 71 = .ok (.iload_n 3, 1) := by decide +kernel
theorem dX0_takeUp_72 : decode cX0_takeUp 72 = .ok (.imul, 1) := by decide +kernel
theorem dX0_takeUp_73 : decode cX0_takeUp 73 = .ok (.ishr, 1) := by decide +kernel
theorem dX0_takeUp_74 : decode cX0_takeUp 74 = .ok (.iconst 3, 1) := by decide +kernel
theorem dX0_takeUp_75 : decode cX0_takeUp 75 = .ok (.iand, 1) := by decide +kernel
theorem dX0_takeUp_76 : decode cX0_takeUp 76 = .ok (.istore 4, 2) := by decide +kernel
theorem dX0_takeUp_78 : decode cX0_takeUp 78 = .ok (.aload_n 0, 1) := by decide +kernel
theorem dX0_takeUp_79 : decode cX0_takeUp 79 = .ok (.dup, 1) := by decide +kernel
theorem dX0_takeUp_80 : decode cX0_takeUp 80 = .ok (.getfield 94, 3) := by decide +kernel
theorem dX0_takeUp_83 : decode cX0_takeUp 83 = .ok (.iload 4, 2) := by decide +kernel
theorem dX0_takeUp_85 : decode cX0_takeUp 85 = .ok (.iadd, 1) := by decide +kernel
theorem dX0_takeUp_86 : decode cX0_takeUp 86 = .ok (.putfield 94, 3) := by decide +kernel
theorem dX0_takeUp_89 : decode cX0_takeUp 89 = .ok (.iload 4, 2) := by decide +kernel
theorem dX0_takeUp_91 : decode cX0_takeUp 91 = .ok (.ifCond .le 15, 3) := by decide +kernel
theorem dX0_takeUp_94 : decode cX0_takeUp 94 = .ok (.aload_n 0, 1) := by decide +kernel
theorem dX0_takeUp_95 : decode cX0_takeUp 95 = .ok (.dup, 1) := by decide +kernel
theorem dX0_takeUp_96 : decode cX0_takeUp 96 = .ok (.getfield 91, 3) := by decide +kernel
theorem dX0_takeUp_99 : decode cX0_takeUp 99 = .ok (.iconst 1, 1) := by decide +kernel
theorem dX0_takeUp_100 : decode cX0_takeUp 100 = .ok (.iload_n 3, 1) := by decide +kernel
theorem dX0_takeUp_101 : decode cX0_takeUp 101 = .ok (.ishl, 1) := by decide +kernel
theorem dX0_takeUp_102 : decode cX0_takeUp 102 = .ok (.ior, 1) := by decide +kernel
theorem dX0_takeUp_103 : decode cX0_takeUp 103 = .ok (.putfield 91, 3) := by decide +kernel
theorem dX0_takeUp_106 : decode cX0_takeUp 106 = .ok (.iinc 3 1, 3) := by decide +kernel
theorem dX0_takeUp_109 : decode cX0_takeUp 109 = .ok (.goto (-49), 3) := by decide +kernel
theorem dX0_takeUp_112 : decode cX0_takeUp 112 = .ok (.return_, 1) := by decide +kernel
theorem dX0_tryPuts_0 : decode cX0_tryPuts 0 = .ok (.iconst 0, 1) := by decide +kernel
theorem dX0_tryPuts_1 : decode cX0_tryPuts 1 = .ok (.istore_n 1, 1) := by decide +kernel
theorem dX0_tryPuts_2 : decode cX0_tryPuts 2 = .ok (.iload_n 1, 1) := by decide +kernel
theorem dX0_tryPuts_3 : decode cX0_tryPuts 3 = .ok (.aload_n 0, 1) := by decide +kernel
theorem dX0_tryPuts_4 : decode cX0_tryPuts 4 = .ok (.getfield 24, 3) := by decide +kernel
theorem dX0_tryPuts_7 : decode cX0_tryPuts 7 = .ok (.getfield 97, 3) := by decide +kernel
theorem dX0_tryPuts_10 : decode cX0_tryPuts 10 = .ok (.if_icmp .ge 74, 3) := by decide +kernel
theorem dX0_tryPuts_13 : decode cX0_tryPuts 13 = .ok (.aload_n 0, 1) := by decide +kernel
theorem dX0_tryPuts_14 : decode cX0_tryPuts 14 = .ok (.getfield 94, 3) := by decide +kernel
theorem dX0_tryPuts_17 : decode cX0_tryPuts 17 = .ok (.aload_n 0, 1) := by decide +kernel
theorem dX0_tryPuts_18 : decode cX0_tryPuts 18 = .ok (.getfield 32, 3) := by decide +kernel
theorem dX0_tryPuts_21 : decode cX0_tryPuts 21 = .ok (.if_icmp .ge 63, 3) := by decide +kernel
theorem dX0_tryPuts_24 : decode cX0_tryPuts 24 = .ok (.aload_n 0, 1) := by decide +kernel
theorem dX0_tryPuts_25 : decode cX0_tryPuts 25 = .ok (.getfield 24, 3) := by decide +kernel
theorem dX0_tryPuts_28 : decode cX0_tryPuts 28 = .ok (.aload_n 0, 1) := by decide +kernel
theorem dX0_tryPuts_29 : decode cX0_tryPuts 29 = .ok (.getfield 28, 3) := by decide +kernel
theorem dX0_tryPuts_32 : decode cX0_tryPuts 32 = .ok (.iconst 0, 1) := by decide +kernel
theorem dX0_tryPuts_33 : decode cX0_tryPuts 33 = .ok (.iload_n 1, 1) := by decide +kernel
theorem dX0_tryPuts_34 : decode cX0_tryPuts 34 = .ok (.aload_n 0, 1) := by decide +kernel
theorem dX0_tryPuts_35 : decode cX0_tryPuts 35 = .ok (.getfield 50, 3) := by decide +kernel
theorem dX0_tryPuts_38 : decode cX0_tryPuts 38 = .ok (.invokevirtual 100, 3) := by decide +kernel
theorem dX0_tryPuts_41 : decode cX0_tryPuts 41 = .ok (.ifCond .eq 37, 3) := by decide +kernel
theorem dX0_tryPuts_44 : decode cX0_tryPuts 44 = .ok (.aload_n 0, 1) := by decide +kernel
theorem dX0_tryPuts_45 : decode cX0_tryPuts 45 = .ok (.getfield 91, 3) := by decide +kernel
theorem dX0_tryPuts_48 : decode cX0_tryPuts 48 = .ok (.iconst 1, 1) := by decide +kernel
theorem dX0_tryPuts_49 : decode cX0_tryPuts 49 = .ok (.iload_n 1, 1) := by decide +kernel
theorem dX0_tryPuts_50 : decode cX0_tryPuts 50 = .ok (.ishl, 1) := by decide +kernel
theorem dX0_tryPuts_51 : decode cX0_tryPuts 51 = .ok (.ior, 1) := by decide +kernel
theorem dX0_tryPuts_52 : decode cX0_tryPuts 52 = .ok (.istore_n 2, 1) := by decide +kernel
theorem dX0_tryPuts_53 : decode cX0_tryPuts 53 = .ok (.aload_n 0, 1) := by decide +kernel
theorem dX0_tryPuts_54 : decode cX0_tryPuts 54 = .ok (.aload_n 0, 1) := by decide +kernel
theorem dX0_tryPuts_55 : decode cX0_tryPuts 55 = .ok (.getfield 85, 3) := by decide +kernel
theorem dX0_tryPuts_58 : decode cX0_tryPuts 58 = .ok (.iload_n 1, 1) := by decide +kernel
theorem dX0_tryPuts_59 : decode cX0_tryPuts 59 = .ok (.invokestatic 104, 3) := by decide +kernel
theorem dX0_tryPuts_62 : decode cX0_tryPuts 62 = .ok (.iadd, 1) := by decide +kernel
theorem dX0_tryPuts_63 : decode cX0_tryPuts 63 = .ok (.aload_n 0, 1) := by decide +kernel
theorem dX0_tryPuts_64 : decode cX0_tryPuts 64 = .ok (.getfield 88, 3) := by decide +kernel
theorem dX0_tryPuts_67 : decode cX0_tryPuts 67 = .ok (.iload_n 2, 1) := by decide +kernel
theorem dX0_tryPuts_68 : decode cX0_tryPuts 68 = .ok (.iconst (-1), 1) := by decide +kernel
theorem dX0_tryPuts_69 : decode cX0_tryPuts 69 = .ok (.ixor, 1) := by decide +kernel
theorem dX0_tryPuts_70 : decode cX0_tryPuts 70 = .ok (.iand, 1) := by decide +kernel
theorem dX0_tryPuts_71 : decode cX0_tryPuts 71 = .ok (.iload_n 2, 1) := by decide +kernel
theorem dX0_tryPuts_72 : decode cX0_tryPuts 72 = .ok (.iconst 0, 1) := by decide +kernel
theorem dX0_tryPuts_73 : decode cX0_tryPuts 73 = .ok (.iload_n 1, 1) := by decide +kernel
theorem dX0_tryPuts_74 : decode cX0_tryPuts 74 = .ok (.iconst (-1), 1) := by decide +kernel
theorem dX0_tryPuts_75 : decode cX0_tryPuts 75 = .ok (.invokevirtual 60, 3) := by decide +kernel
theorem dX0_tryPuts_78 : decode cX0_tryPuts 78 = .ok (.iinc 1 1, 3) := by decide +kernel
theorem dX0_tryPuts_81 : decode cX0_tryPuts 81 = .ok (.goto (-79), 3) := by decide +kernel
theorem dX0_tryPuts_84 : decode cX0_tryPuts 84 = .ok (.return_, 1) := by decide +kernel
theorem dX0_tryLifts_0 : decode cX0_tryLifts 0 = .ok (.iconst 0, 1) := by decide +kernel
theorem dX0_tryLifts_1 : decode cX0_tryLifts 1 = .ok (.istore_n 1, 1) := by decide +kernel
theorem dX0_tryLifts_2 : decode cX0_tryLifts 2 = .ok (.iload_n 1, 1) := by decide +kernel
theorem dX0_tryLifts_3 : decode cX0_tryLifts 3 = .ok (.aload_n 0, 1) := by decide +kernel
theorem dX0_tryLifts_4 : decode cX0_tryLifts 4 = .ok (.getfield 24, 3) := by decide +kernel
theorem dX0_tryLifts_7 : decode cX0_tryLifts 7 = .ok (.getfield 97, 3) := by decide +kernel
theorem dX0_tryLifts_10 : decode cX0_tryLifts 10 = .ok (.if_icmp .ge 77, 3) := by decide +kernel
theorem dX0_tryLifts_13 : decode cX0_tryLifts 13 = .ok (.aload_n 0, 1) := by decide +kernel
theorem dX0_tryLifts_14 : decode cX0_tryLifts 14 = .ok (.getfield 91, 3) := by decide +kernel
theorem dX0_tryLifts_17 : decode cX0_tryLifts 17 = .ok (.iload_n 1, 1) := by decide +kernel
theorem dX0_tryLifts_18 : decode cX0_tryLifts 18 = .ok (.ishr, 1) := by decide +kernel
theorem dX0_tryLifts_19 : decode cX0_tryLifts 19 = .ok (.iconst 1, 1) := by decide +kernel
theorem dX0_tryLifts_20 : decode cX0_tryLifts 20 = .ok (.iand, 1) := by decide +kernel
theorem dX0_tryLifts_21 : decode cX0_tryLifts 21 = .ok (.ifCond .eq 60, 3) := by decide +kernel
theorem dX0_tryLifts_24 : decode cX0_tryLifts 24 = .ok (.aload_n 0, 1) := by decide +kernel
theorem dX0_tryLifts_25 : decode cX0_tryLifts 25 = .ok (.getfield 24, 3) := by decide +kernel
theorem dX0_tryLifts_28 : decode cX0_tryLifts 28 = .ok (.aload_n 0, 1) := by decide +kernel
theorem dX0_tryLifts_29 : decode cX0_tryLifts 29 = .ok (.getfield 28, 3) := by decide +kernel
theorem dX0_tryLifts_32 : decode cX0_tryLifts 32 = .ok (.iconst 1, 1) := by decide +kernel
theorem dX0_tryLifts_33 : decode cX0_tryLifts 33 = .ok (.iload_n 1, 1) := by decide +kernel
theorem dX0_tryLifts_34 : decode cX0_tryLifts 34 = .ok (.aload_n 0, 1) := by decide +kernel
theorem dX0_tryLifts_35 : decode cX0_tryLifts 35 = .ok (.getfield 50, 3) := by decide +kernel
theorem dX0_tryLifts_38 : decode cX0_tryLifts 38 = .ok (.invokevirtual 100, 3) := by decide +kernel
theorem dX0_tryLifts_41 : decode cX0_tryLifts 41 = .ok (.ifCond .eq 40, 3) := by decide +kernel
theorem dX0_tryLifts_44 : decode cX0_tryLifts 44 = .ok (.aload_n 0, 1) := by decide +kernel
theorem dX0_tryLifts_45 : decode cX0_tryLifts 45 = .ok (.iload_n 1, 1) := by decide +kernel
theorem dX0_tryLifts_46 : decode cX0_tryLifts 46 = .ok (.invokevirtual 108, 3) := by decide +kernel
theorem dX0_tryLifts_49 : decode cX0_tryLifts 49 = .ok (.istore_n 2, 1) := by decide +kernel
theorem dX0_tryLifts_50 : decode cX0_tryLifts 50 = .ok (.aload_n 0, 1) := by decide +kernel
theorem dX0_tryLifts_51 : decode cX0_tryLifts 51 = .ok (.aload_n 0, 1) := by decide +kernel
theorem dX0_tryLifts_52 : decode cX0_tryLifts 52 = .ok (.getfield 85, 3) := by decide +kernel
theorem dX0_tryLifts_55 : decode cX0_tryLifts 55 = .ok (.iload_n 1, 1) := by decide +kernel
theorem dX0_tryLifts_56 : decode cX0_tryLifts 56 = .ok (.invokestatic 104, 3) := by decide +kernel
theorem dX0_tryLifts_59 : decode cX0_tryLifts 59 = .ok (.isub, 1) := by decide +kernel
theorem dX0_tryLifts_60 : decode cX0_tryLifts 60 = .ok (.aload_n 0, 1) := by decide +kernel
theorem dX0_tryLifts_61 : decode cX0_tryLifts 61 = .ok (.getfield 24, 3) := by decide +kernel
theorem dX0_tryLifts_64 : decode cX0_tryLifts 64 = .ok (.aload_n 0, 1) := by decide +kernel
theorem dX0_tryLifts_65 : decode cX0_tryLifts 65 = .ok (.getfield 88, 3) := by decide +kernel
theorem dX0_tryLifts_68 : decode cX0_tryLifts 68 = .ok (.iload_n 2, 1) := by decide +kernel
theorem dX0_tryLifts_69 : decode cX0_tryLifts 69 = .ok (.iload_n 1, 1) := by decide +kernel
theorem dX0_tryLifts_70 : decode cX0_tryLifts 70 = .ok (.iconst 0, 1) := by decide +kernel
theorem dX0_tryLifts_71 : decode cX0_tryLifts 71 = .ok (.invokevirtual 111, 3) := by decide +kernel
theorem dX0_tryLifts_74 : decode cX0_tryLifts 74 = .ok (.iload_n 2, 1) := by decide +kernel
theorem dX0_tryLifts_75 : decode cX0_tryLifts 75 = .ok (.iconst 1, 1) := by decide +kernel
theorem dX0_tryLifts_76 : decode cX0_tryLifts 76 = .ok (.iload_n 1, 1) := by decide +kernel
theorem dX0_tryLifts_77 : decode cX0_tryLifts 77 = .ok (.iconst (-1), 1) := by decide +kernel
theorem dX0_tryLifts_78 : decode cX0_tryLifts 78 = .ok (.invokevirtual 60, 3) := by decide +kernel
theorem dX0_tryLifts_81 : decode cX0_tryLifts 81 = .ok (.iinc 1 1, 3) := by decide +kernel
theorem dX0_tryLifts_84 : decode cX0_tryLifts 84 = .ok (.goto (-82), 3) := by decide +kernel
theorem dX0_tryLifts_87 : decode cX0_tryLifts 87 = .ok (.return_, 1) := by decide +kernel
theorem dX0_trySlides_0 : decode cX0_trySlides 0 = .ok (.iconst 0, 1) := by decide +kernel
theorem dX0_trySlides_1 : decode cX0_trySlides 1 = .ok (.istore_n 1, 1) := by decide +kernel
theorem dX0_trySlides_2 : decode cX0_trySlides 2 = .ok (.iload_n 1, 1) := by decide +kernel
theorem dX0_trySlides_3 : decode cX0_trySlides 3 = .ok (.aload_n 0, 1) := by decide +kernel
theorem dX0_trySlides_4 : decode cX0_trySlides 4 = .ok (.getfield 24, 3) := by decide +kernel
theorem dX0_trySlides_7 : decode cX0_trySlides 7 = .ok (.getfield 97, 3) := by decide +kernel
theorem dX0_trySlides_10 : decode cX0_trySlides 10 = .ok (.if_icmp .ge 25, 3) := by decide +kernel
theorem dX0_trySlides_13 : decode cX0_trySlides 13 = .ok (.aload_n 0, 1) := by decide +kernel
theorem dX0_trySlides_14 : decode cX0_trySlides 14 = .ok (.getfield 91, 3) := by decide +kernel
theorem dX0_trySlides_17 : decode cX0_trySlides 17 = .ok (.iload_n 1, 1) := by decide +kernel
theorem dX0_trySlides_18 : decode cX0_trySlides 18 = .ok (.ishr, 1) := by decide +kernel
theorem dX0_trySlides_19 : decode cX0_trySlides 19 = .ok (.iconst 1, 1) := by decide +kernel
theorem dX0_trySlides_20 : decode cX0_trySlides 20 = .ok (.iand, 1) := by decide +kernel
theorem dX0_trySlides_21 : decode cX0_trySlides 21 = .ok (.ifCond .eq 8, 3) := by decide +kernel
theorem dX0_trySlides_24 : decode cX0_trySlides 24 = .ok (.aload_n 0, 1) := by decide +kernel
theorem dX0_trySlides_25 : decode cX0_trySlides 25 = .ok (.iload_n 1, 1) := by decide +kernel
theorem dX0_trySlides_26 : decode cX0_trySlides 26 = .ok (.invokevirtual 115, 3) := by decide +kernel
theorem dX0_trySlides_29 : decode cX0_trySlides 29 = .ok (.iinc 1 1, 3) := by decide +kernel
theorem dX0_trySlides_32 : decode cX0_trySlides 32 = .ok (.goto (-30), 3) := by decide +kernel
theorem dX0_trySlides_35 : decode cX0_trySlides 35 = .ok (.return_, 1) := by decide +kernel
theorem dX0_trySlidesFrom_0 : decode cX0_trySlidesFrom 0 = .ok (.aload_n 0, 1) := by decide +kernel
theorem dX0_trySlidesFrom_1 : decode cX0_trySlidesFrom 1 = .ok (.getfield 24, 3) := by decide +kernel
theorem dX0_trySlidesFrom_4 : decode cX0_trySlidesFrom 4 = .ok (.getfield 118, 3) := by decide +kernel
theorem dX0_trySlidesFrom_7 : decode cX0_trySlidesFrom 7 = .ok (.iload_n 1, 1) := by decide +kernel
theorem dX0_trySlidesFrom_8 : decode cX0_trySlidesFrom 8 = .ok (.iaload, 1) := by decide +kernel
theorem dX0_trySlidesFrom_9 : decode cX0_trySlidesFrom 9 = .ok (.istore_n 2, 1) := by decide +kernel
theorem dX0_trySlidesFrom_10 : decode cX0_trySlidesFrom 10 = .ok (.iconst 0, 1) := by decide +kernel
theorem dX0_trySlidesFrom_11 : decode cX0_trySlidesFrom 11 = .ok (.istore_n 3, 1) := by decide +kernel
theorem dX0_trySlidesFrom_12 : decode cX0_trySlidesFrom 12 = .ok (.iload_n 3, 1) := by decide +kernel
theorem dX0_trySlidesFrom_13 : decode cX0_trySlidesFrom 13 = .ok (.bipush 18, 2) := by decide +kernel
theorem dX0_trySlidesFrom_15 : decode cX0_trySlidesFrom 15 = .ok (.if_icmp .ge 91, 3) := by decide +kernel
theorem dX0_trySlidesFrom_18 : decode cX0_trySlidesFrom 18 = .ok (.iload_n 2, 1) := by decide +kernel
theorem dX0_trySlidesFrom_19 : decode cX0_trySlidesFrom 19 = .ok (.iload_n 3, 1) := by decide +kernel
theorem dX0_trySlidesFrom_20 : decode cX0_trySlidesFrom 20 = .ok (.ishr, 1) := by decide +kernel
theorem dX0_trySlidesFrom_21 : decode cX0_trySlidesFrom 21 = .ok (.ifCond .eq 85, 3) := by decide +kernel
theorem dX0_trySlidesFrom_24 : decode cX0_trySlidesFrom 24 = .ok (.iload_n 2, 1) := by decide +kernel
theorem dX0_trySlidesFrom_25 : decode cX0_trySlidesFrom 25 = .ok (.iload_n 3, 1) := by decide +kernel
theorem dX0_trySlidesFrom_26 : decode cX0_trySlidesFrom 26 = .ok (.ishr, 1) := by decide +kernel
theorem dX0_trySlidesFrom_27 : decode cX0_trySlidesFrom 27 = .ok (.iconst 1, 1) := by decide +kernel
theorem dX0_trySlidesFrom_28 : decode cX0_trySlidesFrom 28 = .ok (.iand, 1) := by decide +kernel
theorem dX0_trySlidesFrom_29 : decode cX0_trySlidesFrom 29 = .ok (.ifCond .eq 71, 3) := by decide +kernel
theorem dX0_trySlidesFrom_32 : decode cX0_trySlidesFrom 32 = .ok (.aload_n 0, 1) := by decide +kernel
theorem dX0_trySlidesFrom_33 : decode cX0_trySlidesFrom 33 = .ok (.getfield 24, 3) := by decide +kernel
theorem dX0_trySlidesFrom_36 : decode cX0_trySlidesFrom 36 = .ok (.iload_n 3, 1) := by decide +kernel
theorem dX0_trySlidesFrom_37 : decode cX0_trySlidesFrom 37 = .ok (.iload_n 1, 1) := by decide +kernel
theorem dX0_trySlidesFrom_38 : decode cX0_trySlidesFrom 38 = .ok (.invokevirtual 121, 3) := by decide +kernel
theorem dX0_trySlidesFrom_41 : decode cX0_trySlidesFrom 41 = .ok (.istore 4, 2) := by decide +kernel
theorem dX0_trySlidesFrom_43 : decode cX0_trySlidesFrom 43 = .ok (.aload_n 0, 1) := by decide +kernel
theorem dX0_trySlidesFrom_44 : decode cX0_trySlidesFrom 44 = .ok (.iload_n 1, 1) := by decide +kernel
theorem dX0_trySlidesFrom_45 : decode cX0_trySlidesFrom 45 = .ok (.invokevirtual 108, 3) := by decide +kernel
theorem dX0_trySlidesFrom_48 : decode cX0_trySlidesFrom 48 = .ok (.iconst 1, 1) := by decide +kernel
theorem dX0_trySlidesFrom_49 : decode cX0_trySlidesFrom 49 = .ok (.iload 4, 2) := by decide +kernel
theorem dX0_trySlidesFrom_51 : decode cX0_trySlidesFrom 51 = .ok (.ishl, 1) := by decide +kernel
theorem dX0_trySlidesFrom_52 : decode cX0_trySlidesFrom 52 = .ok (.ior, 1) := by decide +kernel
theorem dX0_trySlidesFrom_53 : decode cX0_trySlidesFrom 53 = .ok (.istore 5, 2) := by decide +kernel
theorem dX0_trySlidesFrom_55 : decode cX0_trySlidesFrom 55 = .ok (.aload_n 0, 1) := by decide +kernel
theorem dX0_trySlidesFrom_56 : decode cX0_trySlidesFrom 56 = .ok (.getfield 24, 3) := by decide +kernel
theorem dX0_trySlidesFrom_59 : decode cX0_trySlidesFrom 59 = .ok (.aload_n 0, 1) := by decide +kernel
theorem dX0_trySlidesFrom_60 : decode cX0_trySlidesFrom 60 = .ok (.getfield 88, 3) := by decide +kernel
theorem dX0_trySlidesFrom_63 : decode cX0_trySlidesFrom 63 = .ok (.iload 5, 2) := by decide +kernel
theorem dX0_trySlidesFrom_65 : decode cX0_trySlidesFrom 65 = .ok (.iload_n 1, 1) := by decide +kernel
theorem dX0_trySlidesFrom_66 : decode cX0_trySlidesFrom 66 = .ok (.iconst 1, 1) := by decide +kernel
theorem dX0_trySlidesFrom_67 : decode cX0_trySlidesFrom 67 = .ok (.iload_n 3, 1) := by decide +kernel
theorem dX0_trySlidesFrom_68 : decode cX0_trySlidesFrom 68 = .ok (.ishl, 1) := by decide +kernel
theorem dX0_trySlidesFrom_69 : decode cX0_trySlidesFrom 69 = .ok (.invokevirtual 111, 3) := by decide +kernel
theorem dX0_trySlidesFrom_72 : decode cX0_trySlidesFrom 72 = .ok (.istore 6, 2) := by decide +kernel
theorem dX0_trySlidesFrom_74 : decode cX0_trySlidesFrom 74 = .ok (.aload_n 0, 1) := by decide +kernel
theorem dX0_trySlidesFrom_75 : decode cX0_trySlidesFrom 75 = .ok (.aload_n 0, 1) := by decide +kernel
theorem dX0_trySlidesFrom_76 : decode cX0_trySlidesFrom 76 = .ok (.getfield 85, 3) := by decide +kernel
theorem dX0_trySlidesFrom_79 : decode cX0_trySlidesFrom 79 = .ok (.iload_n 1, 1) := by decide +kernel
theorem dX0_trySlidesFrom_80 : decode cX0_trySlidesFrom 80 = .ok (.invokestatic 104, 3) := by decide +kernel
theorem dX0_trySlidesFrom_83 : decode cX0_trySlidesFrom 83 = .ok (.isub, 1) := by decide +kernel
theorem dX0_trySlidesFrom_84 : decode cX0_trySlidesFrom 84 = .ok (.iload 4, 2) := by decide +kernel
theorem dX0_trySlidesFrom_86 : decode cX0_trySlidesFrom 86 = .ok (.invokestatic 104, 3) := by decide +kernel
theorem dX0_trySlidesFrom_89 : decode cX0_trySlidesFrom 89 = .ok (.iadd, 1) := by decide +kernel
theorem dX0_trySlidesFrom_90 : decode cX0_trySlidesFrom 90 = .ok (.iload 6, 2) := by decide +kernel
theorem dX0_trySlidesFrom_92 : decode cX0_trySlidesFrom 92 = .ok (.iload 5, 2) := by decide +kernel
theorem dX0_trySlidesFrom_94 : decode cX0_trySlidesFrom 94 = .ok (.iconst 2, 1) := by decide +kernel
theorem dX0_trySlidesFrom_95 : decode cX0_trySlidesFrom 95 = .ok (.iload_n 1, 1) := by decide +kernel
theorem dX0_trySlidesFrom_96 : decode cX0_trySlidesFrom 96 = .ok (.iload_n 3, 1) := by decide +kernel
theorem dX0_trySlidesFrom_97 : decode cX0_trySlidesFrom 97 = .ok (.invokevirtual 60, 3) := by decide +kernel
theorem dX0_trySlidesFrom_100 : decode cX0_trySlidesFrom 100 = .ok (.iinc 3 1, 3) := by decide +kernel
theorem dX0_trySlidesFrom_103 : decode cX0_trySlidesFrom 103 = .ok (.goto (-91), 3) := by decide +kernel
theorem dX0_trySlidesFrom_106 : decode cX0_trySlidesFrom 106 = .ok (.return_, 1) := by decide +kernel
theorem dX0_one_0 : decode cX0_one 0 = .ok (.iconst 1, 1) := by decide +kernel
theorem dX0_one_1 : decode cX0_one 1 = .ok (.iconst 2, 1) := by decide +kernel
theorem dX0_one_2 : decode cX0_one 2 = .ok (.iload_n 0, 1) := by decide +kernel
theorem dX0_one_3 : decode cX0_one 3 = .ok (.imul, 1) := by decide +kernel
theorem dX0_one_4 : decode cX0_one 4 = .ok (.ishl, 1) := by decide +kernel
theorem dX0_one_5 : decode cX0_one 5 = .ok (.ireturn, 1) := by decide +kernel
theorem dX0_guardedWithout_0 : decode cX0_guardedWithout 0 = .ok (.aload_n 0, 1) := by decide +kernel
theorem dX0_guardedWithout_1 : decode cX0_guardedWithout 1 = .ok (.getfield 85, 3) := by decide +kernel
theorem dX0_guardedWithout_4 : decode cX0_guardedWithout 4 = .ok (.iconst 2, 1) := by decide +kernel
theorem dX0_guardedWithout_5 : decode cX0_guardedWithout 5 = .ok (.iload_n 1, 1) := by decide +kernel
theorem dX0_guardedWithout_6 : decode cX0_guardedWithout 6 = .ok (.imul, 1) := by decide +kernel
theorem dX0_guardedWithout_7 : decode cX0_guardedWithout 7 = .ok (.ishr, 1) := by decide +kernel
theorem dX0_guardedWithout_8 : decode cX0_guardedWithout 8 = .ok (.iconst 3, 1) := by decide +kernel
theorem dX0_guardedWithout_9 : decode cX0_guardedWithout 9 = .ok (.iand, 1) := by decide +kernel
theorem dX0_guardedWithout_10 : decode cX0_guardedWithout 10 = .ok (.iconst 1, 1) := by decide +kernel
theorem dX0_guardedWithout_11 : decode cX0_guardedWithout 11 = .ok (.if_icmp .le 10, 3) := by decide +kernel
theorem dX0_guardedWithout_14 : decode cX0_guardedWithout 14 = .ok (.aload_n 0, 1) := by decide +kernel
theorem dX0_guardedWithout_15 : decode cX0_guardedWithout 15 = .ok (.getfield 91, 3) := by decide +kernel
theorem dX0_guardedWithout_18 : decode cX0_guardedWithout 18 = .ok (.goto 13, 3) := by decide +kernel
theorem dX0_guardedWithout_21 : decode cX0_guardedWithout 21 = .ok (.aload_n 0, 1) := by decide +kernel
theorem dX0_guardedWithout_22 : decode cX0_guardedWithout 22 = .ok (.getfield 91, 3) := by decide +kernel
theorem dX0_guardedWithout_25 : decode cX0_guardedWithout 25 = .ok (.iconst 1, 1) := by decide +kernel
theorem dX0_guardedWithout_26 : decode cX0_guardedWithout 26 = .ok (.iload_n 1, 1) := by decide +kernel
theorem dX0_guardedWithout_27 : decode cX0_guardedWithout 27 = .ok (.ishl, 1) := by decide +kernel
theorem dX0_guardedWithout_28 : decode cX0_guardedWithout 28 = .ok (.iconst (-1), 1) := by decide +kernel
theorem dX0_guardedWithout_29 : decode cX0_guardedWithout 29 = .ok (.ixor, 1) := by decide +kernel
theorem dX0_guardedWithout_30 : decode cX0_guardedWithout 30 = .ok (.iand, 1) := by decide +kernel
theorem dX0_guardedWithout_31 : decode cX0_guardedWithout 31 = .ok (.ireturn, 1) := by decide +kernel
theorem dX0_meet_0 : decode cX0_meet 0 = .ok (.aload_n 0, 1) := by decide +kernel
theorem dX0_meet_1 : decode cX0_meet 1 = .ok (.getfield 28, 3) := by decide +kernel
theorem dX0_meet_4 : decode cX0_meet 4 = .ok (.iconst 2, 1) := by decide +kernel
theorem dX0_meet_5 : decode cX0_meet 5 = .ok (.if_icmp .ne 16, 3) := by decide +kernel
theorem dX0_meet_8 : decode cX0_meet 8 = .ok (.aload_n 0, 1) := by decide +kernel
theorem dX0_meet_9 : decode cX0_meet 9 = .ok (.getfield 24, 3) := by decide +kernel
theorem dX0_meet_12 : decode cX0_meet 12 = .ok (.iload_n 2, 1) := by decide +kernel
theorem dX0_meet_13 : decode cX0_meet 13 = .ok (.iload_n 3, 1) := by decide +kernel
theorem dX0_meet_14 : decode cX0_meet 14 = .ok (.invokevirtual 125, 3) := by decide +kernel
theorem dX0_meet_17 : decode cX0_meet 17 = .ok (.ifCond .ne 4, 3) := by decide +kernel
theorem dX0_meet_20 : decode cX0_meet 20 = .ok (.return_, 1) := by decide +kernel
theorem dX0_meet_21 : decode cX0_meet 21 = .ok (.aload_n 0, 1) := by decide +kernel
theorem dX0_meet_22 : decode cX0_meet 22 = .ok (.getfield 28, 3) := by decide +kernel
theorem dX0_meet_25 : decode cX0_meet 25 = .ok (.iconst 1, 1) := by decide +kernel
theorem dX0_meet_26 : decode cX0_meet 26 = .ok (.if_icmp .ne 20, 3) := by decide +kernel
theorem dX0_meet_29 : decode cX0_meet 29 = .ok (.aload_n 0, 1) := by decide +kernel
theorem dX0_meet_30 : decode cX0_meet 30 = .ok (.getfield 50, 3) := by decide +kernel
theorem dX0_meet_33 : decode cX0_meet 33 = .ok (.ifCond .ne 9, 3) := by decide +kernel
theorem dX0_meet_36 : decode cX0_meet 36 = .ok (.iload 4, 2) := by decide +kernel
theorem dX0_meet_38 : decode cX0_meet 38 = .ok (.iconst 2, 1) := by decide +kernel
theorem dX0_meet_39 : decode cX0_meet 39 = .ok (.if_icmp .ne 7, 3) := by decide +kernel
theorem dX0_meet_42 : decode cX0_meet 42 = .ok (.iconst 1, 1) := by decide +kernel
theorem dX0_meet_43 : decode cX0_meet 43 = .ok (.goto 4, 3) := by decide +kernel
theorem dX0_meet_46 : decode cX0_meet 46 = .ok (.iconst 0, 1) := by decide +kernel
theorem dX0_meet_47 : decode cX0_meet 47 = .ok (.istore 7, 2) := by decide +kernel
theorem dX0_meet_49 : decode cX0_meet 49 = .ok (.iload_n 1, 1) := by decide +kernel
theorem dX0_meet_50 : decode cX0_meet 50 = .ok (.iload_n 2, 1) := by decide +kernel
theorem dX0_meet_51 : decode cX0_meet 51 = .ok (.bipush 12, 2) := by decide +kernel
theorem dX0_meet_53 : decode cX0_meet 53 = .ok (.ishl, 1) := by decide +kernel
theorem dX0_meet_54 : decode cX0_meet 54 = .ok (.ior, 1) := by decide +kernel
theorem dX0_meet_55 : decode cX0_meet 55 = .ok (.iload 7, 2) := by decide +kernel
theorem dX0_meet_57 : decode cX0_meet 57 = .ok (.ifCond .eq 8, 3) := by decide +kernel
theorem dX0_meet_60 : decode cX0_meet 60 = .ok (.ldc 129, 2) := by decide +kernel
theorem dX0_meet_62 : decode cX0_meet 62 = .ok (.goto 4, 3) := by decide +kernel
theorem dX0_meet_65 : decode cX0_meet 65 = .ok (.iconst 0, 1) := by decide +kernel
theorem dX0_meet_66 : decode cX0_meet 66 = .ok (.ior, 1) := by decide +kernel
theorem dX0_meet_67 : decode cX0_meet 67 = .ok (.istore 8, 2) := by decide +kernel
theorem dX0_meet_69 : decode cX0_meet 69 = .ok (.aload_n 0, 1) := by decide +kernel
theorem dX0_meet_70 : decode cX0_meet 70 = .ok (.iload 8, 2) := by decide +kernel
theorem dX0_meet_72 : decode cX0_meet 72 = .ok (.invokevirtual 130, 3) := by decide +kernel
theorem dX0_meet_75 : decode cX0_meet 75 = .ok (.istore 9, 2) := by decide +kernel
theorem dX0_meet_77 : decode cX0_meet 77 = .ok (.iload 9, 2) := by decide +kernel
theorem dX0_meet_79 : decode cX0_meet 79 = .ok (.iconst (-1), 1) := by decide +kernel
theorem dX0_meet_80 : decode cX0_meet 80 = .ok (.if_icmp .eq 23, 3) := by decide +kernel
theorem dX0_meet_83 : decode cX0_meet 83 = .ok (.aload_n 0, 1) := by decide +kernel
theorem dX0_meet_84 : decode cX0_meet 84 = .ok (.getfield 11, 3) := by decide +kernel
theorem dX0_meet_87 : decode cX0_meet 87 = .ok (.iload 9, 2) := by decide +kernel
theorem dX0_meet_89 : decode cX0_meet 89 = .ok (.iaload, 1) := by decide +kernel
theorem dX0_meet_90 : decode cX0_meet 90 = .ok (.ifCond .ne 13, 3) := by decide +kernel
theorem dX0_meet_93 : decode cX0_meet 93 = .ok (.aload_n 0, 1) := by decide +kernel
theorem dX0_meet_94 : decode cX0_meet 94 = .ok (.getfield 35, 3) := by decide +kernel
theorem dX0_meet_97 : decode cX0_meet 97 = .ok (.sipush 1604, 3) := by decide +kernel
theorem dX0_meet_100 : decode cX0_meet 100 = .ok (.if_icmp .lt 4, 3) := by decide +kernel
theorem dX0_meet_103 : decode cX0_meet 103 = .ok (.return_, 1) := by decide +kernel
theorem dX0_meet_104 : decode cX0_meet 104 = .ok (.aload_n 0, 1) := by decide +kernel
theorem dX0_meet_105 : decode cX0_meet 105 = .ok (.getfield 15, 3) := by decide +kernel
theorem dX0_meet_108 : decode cX0_meet 108 = .ok (.aload_n 0, 1) := by decide +kernel
theorem dX0_meet_109 : decode cX0_meet 109 = .ok (.getfield 35, 3) := by decide +kernel
theorem dX0_meet_112 : decode cX0_meet 112 = .ok (.iload 8, 2) := by decide +kernel
theorem dX0_meet_114 : decode cX0_meet 114 = .ok (.iastore, 1) := by decide +kernel
theorem dX0_meet_115 : decode cX0_meet 115 = .ok (.aload_n 0, 1) := by decide +kernel
theorem dX0_meet_116 : decode cX0_meet 116 = .ok (.getfield 18, 3) := by decide +kernel
theorem dX0_meet_119 : decode cX0_meet 119 = .ok (.aload_n 0, 1) := by decide +kernel
theorem dX0_meet_120 : decode cX0_meet 120 = .ok (.getfield 35, 3) := by decide +kernel
theorem dX0_meet_123 : decode cX0_meet 123 = .ok (.aload_n 0, 1) := by decide +kernel
theorem dX0_meet_124 : decode cX0_meet 124 = .ok (.getfield 47, 3) := by decide +kernel
theorem dX0_meet_127 : decode cX0_meet 127 = .ok (.iastore, 1) := by decide +kernel
theorem dX0_meet_128 : decode cX0_meet 128 = .ok (.aload_n 0, 1) := by decide +kernel
theorem dX0_meet_129 : decode cX0_meet 129 = .ok (.getfield 21, 3) := by decide +kernel
theorem dX0_meet_132 : decode cX0_meet 132 = .ok (.aload_n 0, 1) := by decide +kernel
theorem dX0_meet_133 : decode cX0_meet 133 = .ok (.getfield 35, 3) := by decide +kernel
theorem dX0_meet_136 : decode cX0_meet 136 = .ok (.iload 4, 2) := by decide +kernel
theorem dX0_meet_138 : decode cX0_meet 138 = .ok (.iload 5, 2) := by decide +kernel
theorem dX0_meet_140 : decode cX0_meet 140 = .ok (.iload 6, 2) := by decide +kernel
theorem dX0_meet_142 : decode cX0_meet 142 = .ok (.invokestatic 133, 3) := by decide +kernel
theorem dX0_meet_145 : decode cX0_meet 145 = .ok (.iastore, 1) := by decide +kernel
theorem dX0_meet_146 : decode cX0_meet 146 = .ok (.iload_n 2, 1) := by decide +kernel
theorem dX0_meet_147 : decode cX0_meet 147 = .ok (.ifCond .ne 19, 3) := by decide +kernel
theorem dX0_meet_150 : decode cX0_meet 150 = .ok (.aload_n 0, 1) := by decide +kernel
theorem dX0_meet_151 : decode cX0_meet 151 = .ok (.getfield 38, 3) := by decide +kernel
theorem dX0_meet_154 : decode cX0_meet 154 = .ok (.iconst (-1), 1) := by decide +kernel
theorem dX0_meet_155 : decode cX0_meet 155 = .ok (.if_icmp .ne 11, 3) := by decide +kernel
theorem dX0_meet_158 : decode cX0_meet 158 = .ok (.aload_n 0, 1) := by decide +kernel
theorem dX0_meet_159 : decode cX0_meet 159 = .ok (.aload_n 0, 1) := by decide +kernel
theorem dX0_meet_160 : decode cX0_meet 160 = .ok (.getfield 35, 3) := by decide +kernel
theorem dX0_meet_163 : decode cX0_meet 163 = .ok (.putfield 38, 3) := by decide +kernel
theorem dX0_meet_166 : decode cX0_meet 166 = .ok (.aload_n 0, 1) := by decide +kernel
theorem dX0_meet_167 : decode cX0_meet 167 = .ok (.dup, 1) := by decide +kernel
theorem dX0_meet_168 : decode cX0_meet 168 = .ok (.getfield 35, 3) := by decide +kernel
theorem dX0_meet_171 : decode cX0_meet 171 = .ok (.iconst 1, 1) := by decide +kernel
theorem dX0_meet_172 : decode cX0_meet 172 = .ok (.iadd, 1) := by decide +kernel
theorem dX0_meet_173 : decode cX0_meet 173 = .ok (.putfield 35, 3) := by decide +kernel
theorem dX0_meet_176 : decode cX0_meet 176 = .ok (.aload_n 0, 1) := by decide +kernel
theorem dX0_meet_177 : decode cX0_meet 177 = .ok (.getfield 11, 3) := by decide +kernel
theorem dX0_meet_180 : decode cX0_meet 180 = .ok (.iload 9, 2) := by decide +kernel
theorem dX0_meet_182 : decode cX0_meet 182 = .ok (.aload_n 0, 1) := by decide +kernel
theorem dX0_meet_183 : decode cX0_meet 183 = .ok (.getfield 35, 3) := by decide +kernel
theorem dX0_meet_186 : decode cX0_meet 186 = .ok (.iastore, 1) := by decide +kernel
theorem dX0_meet_187 : decode cX0_meet 187 = .ok (.return_, 1) := by decide +kernel
theorem dX0_slotOf_0 : decode cX0_slotOf 0 = .ok (.iload_n 1, 1) := by decide +kernel
theorem dX0_slotOf_1 : decode cX0_slotOf 1 = .ok (.ldc 137, 2) := by decide +kernel
theorem dX0_slotOf_3 : decode cX0_slotOf 3 = .ok (.imul, 1) := by decide +kernel
theorem dX0_slotOf_4 : decode cX0_slotOf 4 = .ok (.bipush 21, 2) := by decide +kernel
theorem dX0_slotOf_6 : decode cX0_slotOf 6 = .ok (.iushr, 1) := by decide +kernel
theorem dX0_slotOf_7 : decode cX0_slotOf 7 = .ok (.istore_n 2, 1) := by decide +kernel
theorem dX0_slotOf_8 : decode cX0_slotOf 8 = .ok (.iconst 0, 1) := by decide +kernel
theorem dX0_slotOf_9 : decode cX0_slotOf 9 = .ok (.istore_n 3, 1) := by decide +kernel
theorem dX0_slotOf_10 : decode cX0_slotOf 10 = .ok (.iload_n 3, 1) := by decide +kernel
theorem dX0_slotOf_11 : decode cX0_slotOf 11 = .ok (.sipush 2048, 3) := by decide +kernel
theorem dX0_slotOf_14 : decode cX0_slotOf 14 = .ok (.if_icmp .ge 53, 3) := by decide +kernel
theorem dX0_slotOf_17 : decode cX0_slotOf 17 = .ok (.aload_n 0, 1) := by decide +kernel
theorem dX0_slotOf_18 : decode cX0_slotOf 18 = .ok (.getfield 11, 3) := by decide +kernel
theorem dX0_slotOf_21 : decode cX0_slotOf 21 = .ok (.iload_n 2, 1) := by decide +kernel
theorem dX0_slotOf_22 : decode cX0_slotOf 22 = .ok (.iaload, 1) := by decide +kernel
theorem dX0_slotOf_23 : decode cX0_slotOf 23 = .ok (.istore 4, 2) := by decide +kernel
theorem dX0_slotOf_25 : decode cX0_slotOf 25 = .ok (.iload 4, 2) := by decide +kernel
theorem dX0_slotOf_27 : decode cX0_slotOf 27 = .ok (.ifCond .le 24, 3) := by decide +kernel
theorem dX0_slotOf_30 : decode cX0_slotOf 30 = .ok (.iload 4, 2) := by decide +kernel
theorem dX0_slotOf_32 : decode cX0_slotOf 32 = .ok (.sipush 1604, 3) := by decide +kernel
theorem dX0_slotOf_35 : decode cX0_slotOf 35 = .ok (.if_icmp .gt 16, 3) := by decide +kernel
theorem dX0_slotOf_38 : decode cX0_slotOf 38 = .ok (.aload_n 0, 1) := by decide +kernel
theorem dX0_slotOf_39 : decode cX0_slotOf 39 = .ok (.getfield 15, 3) := by decide +kernel
theorem dX0_slotOf_42 : decode cX0_slotOf 42 = .ok (.iload 4, 2) := by decide +kernel
theorem dX0_slotOf_44 : decode cX0_slotOf 44 = .ok (.iconst 1, 1) := by decide +kernel
theorem dX0_slotOf_45 : decode cX0_slotOf 45 = .ok (.isub, 1) := by decide +kernel
theorem dX0_slotOf_46 : decode cX0_slotOf 46 = .ok (.iaload, 1) := by decide +kernel
theorem dX0_slotOf_47 : decode cX0_slotOf 47 = .ok (.iload_n 1, 1) := by decide +kernel
theorem dX0_slotOf_48 : decode cX0_slotOf 48 = .ok (.if_icmp .ne 5, 3) := by decide +kernel
theorem dX0_slotOf_51 : decode cX0_slotOf 51 = .ok (.iload_n 2, 1) := by decide +kernel
theorem dX0_slotOf_52 : decode cX0_slotOf 52 = .ok (.ireturn, 1) := by decide +kernel
theorem dX0_slotOf_53 : decode cX0_slotOf 53 = .ok (.iload_n 2, 1) := by decide +kernel
theorem dX0_slotOf_54 : decode cX0_slotOf 54 = .ok (.iconst 1, 1) := by decide +kernel
theorem dX0_slotOf_55 : decode cX0_slotOf 55 = .ok (.iadd, 1) := by decide +kernel
theorem dX0_slotOf_56 : decode cX0_slotOf 56 = .ok (.sipush 2047, 3) := by decide +kernel
theorem dX0_slotOf_59 : decode cX0_slotOf 59 = .ok (.iand, 1) := by decide +kernel
theorem dX0_slotOf_60 : decode cX0_slotOf 60 = .ok (.istore_n 2, 1) := by decide +kernel
theorem dX0_slotOf_61 : decode cX0_slotOf 61 = .ok (.iinc 3 1, 3) := by decide +kernel
theorem dX0_slotOf_64 : decode cX0_slotOf 64 = .ok (.goto (-54), 3) := by decide +kernel
theorem dX0_slotOf_67 : decode cX0_slotOf 67 = .ok (.iconst (-1), 1) := by decide +kernel
theorem dX0_slotOf_68 : decode cX0_slotOf 68 = .ok (.ireturn, 1) := by decide +kernel
theorem dX1_init_0 : decode cX1_init 0 = .ok (.aload_n 0, 1) := by decide +kernel
theorem dX1_init_1 : decode cX1_init 1 = .ok (.invokespecial 3, 3) := by decide +kernel
theorem dX1_init_4 : decode cX1_init 4 = .ok (.aload_n 0, 1) := by decide +kernel
theorem dX1_init_5 : decode cX1_init 5 = .ok (.bipush 18, 2) := by decide +kernel
theorem dX1_init_7 : decode cX1_init 7 = .ok (.newarray .int, 2) := by decide +kernel
theorem dX1_init_9 : decode cX1_init 9 = .ok (.putfield 9, 3) := by decide +kernel
theorem dX1_init_12 : decode cX1_init 12 = .ok (.aload_n 0, 1) := by decide +kernel
theorem dX1_init_13 : decode cX1_init 13 = .ok (.bipush 18, 2) := by decide +kernel
theorem dX1_init_15 : decode cX1_init 15 = .ok (.newarray .int, 2) := by decide +kernel
theorem dX1_init_17 : decode cX1_init 17 = .ok (.putfield 15, 3) := by decide +kernel
theorem dX1_init_20 : decode cX1_init 20 = .ok (.aload_n 0, 1) := by decide +kernel
theorem dX1_init_21 : decode cX1_init 21 = .ok (.bipush 12, 2) := by decide +kernel
theorem dX1_init_23 : decode cX1_init 23 = .ok (.newarray .int, 2) := by decide +kernel
theorem dX1_init_25 : decode cX1_init 25 = .ok (.putfield 18, 3) := by decide +kernel
theorem dX1_init_28 : decode cX1_init 28 = .ok (.aload_n 0, 1) := by decide +kernel
theorem dX1_init_29 : decode cX1_init 29 = .ok (.bipush 12, 2) := by decide +kernel
theorem dX1_init_31 : decode cX1_init 31 = .ok (.newarray .int, 2) := by decide +kernel
theorem dX1_init_33 : decode cX1_init 33 = .ok (.putfield 21, 3) := by decide +kernel
theorem dX1_init_36 : decode cX1_init 36 = .ok (.return_, 1) := by decide +kernel
theorem dX1_clear_0 : decode cX1_clear 0 = .ok (.aload_n 0, 1) := by decide +kernel
theorem dX1_clear_1 : decode cX1_clear 1 = .ok (.iload_n 1, 1) := by decide +kernel
theorem dX1_clear_2 : decode cX1_clear 2 = .ok (.putfield 24, 3) := by decide +kernel
theorem dX1_clear_5 : decode cX1_clear 5 = .ok (.aload_n 0, 1) := by decide +kernel
theorem dX1_clear_6 : decode cX1_clear 6 = .ok (.iconst 0, 1) := by decide +kernel
theorem dX1_clear_7 : decode cX1_clear 7 = .ok (.putfield 28, 3) := by decide +kernel
theorem dX1_clear_10 : decode cX1_clear 10 = .ok (.aload_n 0, 1) := by decide +kernel
theorem dX1_clear_11 : decode cX1_clear 11 = .ok (.iconst 0, 1) := by decide +kernel
theorem dX1_clear_12 : decode cX1_clear 12 = .ok (.putfield 31, 3) := by decide +kernel
theorem dX1_clear_15 : decode cX1_clear 15 = .ok (.aload_n 0, 1) := by decide +kernel
theorem dX1_clear_16 : decode cX1_clear 16 = .ok (.invokevirtual 34, 3) := by decide +kernel
theorem dX1_clear_19 : decode cX1_clear 19 = .ok (.return_, 1) := by decide +kernel
theorem dX1_hasCave_0 : decode cX1_hasCave 0 = .ok (.iload_n 1, 1) := by decide +kernel
theorem dX1_hasCave_1 : decode cX1_hasCave 1 = .ok (.ifCond .lt 15, 3) := by decide +kernel
theorem dX1_hasCave_4 : decode cX1_hasCave 4 = .ok (.iload_n 1, 1) := by decide +kernel
theorem dX1_hasCave_5 : decode cX1_hasCave 5 = .ok (.aload_n 0, 1) := by decide +kernel
theorem dX1_hasCave_6 : decode cX1_hasCave 6 = .ok (.getfield 24, 3) := by decide +kernel
theorem dX1_hasCave_9 : decode cX1_hasCave 9 = .ok (.if_icmp .ge 7, 3) := by decide +kernel
theorem dX1_hasCave_12 : decode cX1_hasCave 12 = .ok (.iconst 1, 1) := by decide +kernel
theorem dX1_hasCave_13 : decode cX1_hasCave 13 = .ok (.goto 4, 3) := by decide +kernel
theorem dX1_hasCave_16 : decode cX1_hasCave 16 = .ok (.iconst 0, 1) := by decide +kernel
theorem dX1_hasCave_17 : decode cX1_hasCave 17 = .ok (.ireturn, 1) := by decide +kernel
theorem dX1_hasPassage_0 : decode cX1_hasPassage 0 = .ok (.iload_n 1, 1) := by decide +kernel
theorem dX1_hasPassage_1 : decode cX1_hasPassage 1 = .ok (.ifCond .lt 24, 3) := by decide +kernel
theorem dX1_hasPassage_4 : decode cX1_hasPassage 4 = .ok (.iload_n 1, 1) := by decide +kernel
theorem dX1_hasPassage_5 : decode cX1_hasPassage 5 = .ok (.bipush 18, 2) := by decide +kernel
theorem dX1_hasPassage_7 : decode cX1_hasPassage 7 = .ok (.if_icmp .ge 18, 3) := by decide +kernel
theorem dX1_hasPassage_10 : decode cX1_hasPassage 10 = .ok (.aload_n 0, 1) := by decide +kernel
theorem dX1_hasPassage_11 : decode cX1_hasPassage 11 = .ok (.getfield 28, 3) := by decide +kernel
theorem dX1_hasPassage_14 : decode cX1_hasPassage 14 = .ok (.iload_n 1, 1) := by decide +kernel
theorem dX1_hasPassage_15 : decode cX1_hasPassage 15 = .ok (.ishr, 1) := by decide +kernel
theorem dX1_hasPassage_16 : decode cX1_hasPassage 16 = .ok (.iconst 1, 1) := by decide +kernel
theorem dX1_hasPassage_17 : decode cX1_hasPassage 17 = .ok (.iand, 1) := by decide +kernel
theorem dX1_hasPassage_18 : decode cX1_hasPassage 18 = .ok (.ifCond .eq 7, 3) := by decide +kernel
theorem dX1_hasPassage_21 : decode cX1_hasPassage 21 = .ok (.iconst 1, 1) := by decide +kernel
theorem dX1_hasPassage_22 : decode cX1_hasPassage 22 = .ok (.goto 4, 3) := by decide +kernel
theorem dX1_hasPassage_25 : decode cX1_hasPassage 25 = .ok (.iconst 0, 1) := by decide +kernel
theorem dX1_hasPassage_26 : decode cX1_hasPassage 26 = .ok (.ireturn, 1) := by decide +kernel
theorem dX1_leadsFrom_0 : decode cX1_leadsFrom 0 = .ok (.aload_n 0, 1) := by decide +kernel
theorem dX1_leadsFrom_1 : decode cX1_leadsFrom 1 = .ok (.iload_n 1, 1) := by decide +kernel
theorem dX1_leadsFrom_2 : decode cX1_leadsFrom 2 = .ok (.invokevirtual 37, 3) := by decide +kernel
theorem dX1_leadsFrom_5 : decode cX1_leadsFrom 5 = .ok (.ifCond .eq 27, 3) := by decide +kernel
theorem dX1_leadsFrom_8 : decode cX1_leadsFrom 8 = .ok (.aload_n 0, 1) := by decide +kernel
theorem dX1_leadsFrom_9 : decode cX1_leadsFrom 9 = .ok (.getfield 9, 3) := by decide +kernel
theorem dX1_leadsFrom_12 : decode cX1_leadsFrom 12 = .ok (.iload_n 1, 1) := by decide +kernel
theorem dX1_leadsFrom_13 : decode cX1_leadsFrom 13 = .ok (.iaload, 1) := by decide +kernel
theorem dX1_leadsFrom_14 : decode cX1_leadsFrom 14 = .ok (.iload_n 2, 1) := by decide +kernel
theorem dX1_leadsFrom_15 : decode cX1_leadsFrom 15 = .ok (.if_icmp .eq 13, 3) := by decide +kernel
theorem dX1_leadsFrom_18 : decode cX1_leadsFrom 18 = .ok (.aload_n 0, 1) := by decide +kernel
theorem dX1_leadsFrom_19 : decode cX1_leadsFrom 19 = .ok (.getfield 15, 3) := by decide +kernel
theorem dX1_leadsFrom_22 : decode cX1_leadsFrom 22 = .ok (.iload_n 1, 1) := by decide +kernel
theorem dX1_leadsFrom_23 : decode cX1_leadsFrom 23 = .ok (.iaload, 1) := by decide +kernel
theorem dX1_leadsFrom_24 : decode cX1_leadsFrom 24 = .ok (.iload_n 2, 1) := by decide +kernel
theorem dX1_leadsFrom_25 : decode cX1_leadsFrom 25 = .ok (.if_icmp .ne 7, 3) := by decide +kernel
theorem dX1_leadsFrom_28 : decode cX1_leadsFrom 28 = .ok (.iconst 1, 1) := by decide +kernel
theorem dX1_leadsFrom_29 : decode cX1_leadsFrom 29 = .ok (.goto 4, 3) := by decide +kernel
theorem dX1_leadsFrom_32 : decode cX1_leadsFrom 32 = .ok (.iconst 0, 1) := by decide +kernel
theorem dX1_leadsFrom_33 : decode cX1_leadsFrom 33 = .ok (.ireturn, 1) := by decide +kernel
theorem dX1_lowestFree_0 : decode cX1_lowestFree 0 = .ok (.iconst 0, 1) := by decide +kernel
theorem dX1_lowestFree_1 : decode cX1_lowestFree 1 = .ok (.istore_n 1, 1) := by decide +kernel
theorem dX1_lowestFree_2 : decode cX1_lowestFree 2 = .ok (.iload_n 1, 1) := by decide +kernel
theorem dX1_lowestFree_3 : decode cX1_lowestFree 3 = .ok (.bipush 18, 2) := by decide +kernel
theorem dX1_lowestFree_5 : decode cX1_lowestFree 5 = .ok (.if_icmp .ge 22, 3) := by decide +kernel
theorem dX1_lowestFree_8 : decode cX1_lowestFree 8 = .ok (.aload_n 0, 1) := by decide +kernel
theorem dX1_lowestFree_9 : decode cX1_lowestFree 9 = .ok (.getfield 28, 3) := by decide +kernel
theorem dX1_lowestFree_12 : decode cX1_lowestFree 12 = .ok (.iload_n 1, 1) := by decide +kernel
theorem dX1_lowestFree_13 : decode cX1_lowestFree 13 = .ok (.ishr, 1) := by decide +kernel
theorem dX1_lowestFree_14 : decode cX1_lowestFree 14 = .ok (.iconst 1, 1) := by decide +kernel
theorem dX1_lowestFree_15 : decode cX1_lowestFree 15 = .ok (.iand, 1) := by decide +kernel
theorem dX1_lowestFree_16 : decode cX1_lowestFree 16 = .ok (.ifCond .ne 5, 3) := by decide +kernel
theorem dX1_lowestFree_19 : decode cX1_lowestFree 19 = .ok (.iload_n 1, 1) := by decide +kernel
theorem dX1_lowestFree_20 : decode cX1_lowestFree 20 = .ok (.ireturn, 1) := by decide +kernel
theorem dX1_lowestFree_21 : decode cX1_lowestFree 21 = .ok (.iinc 1 1, 3) := by decide +kernel
theorem dX1_lowestFree_24 : decode cX1_lowestFree 24 = .ok (.goto (-22), 3) := by decide +kernel
theorem dX1_lowestFree_27 : decode cX1_lowestFree 27 = .ok (.iconst (-1), 1) := by decide +kernel
theorem dX1_lowestFree_28 : decode cX1_lowestFree 28 = .ok (.ireturn, 1) := by decide +kernel
theorem dX1_dig_0 : decode cX1_dig 0 = .ok (.aload_n 0, 1) := by decide +kernel
theorem dX1_dig_1 : decode cX1_dig 1 = .ok (.getfield 9, 3) := by decide +kernel
theorem dX1_dig_4 : decode cX1_dig 4 = .ok (.iload_n 1, 1) := by decide +kernel
theorem dX1_dig_5 : decode cX1_dig 5 = .ok (.iload_n 2, 1) := by decide +kernel
theorem dX1_dig_6 : decode cX1_dig 6 = .ok (.iload_n 3, 1) := by decide +kernel
theorem dX1_dig_7 : decode cX1_dig 7 = .ok (.invokestatic 41, 3) := by decide +kernel
theorem dX1_dig_10 : decode cX1_dig 10 = .ok (.iastore, 1) := by decide +kernel
theorem dX1_dig_11 : decode cX1_dig 11 = .ok (.aload_n 0, 1) := by decide +kernel
theorem dX1_dig_12 : decode cX1_dig 12 = .ok (.getfield 15, 3) := by decide +kernel
theorem dX1_dig_15 : decode cX1_dig 15 = .ok (.iload_n 1, 1) := by decide +kernel
theorem dX1_dig_16 : decode cX1_dig 16 = .ok (.iload_n 2, 1) := by decide +kernel
theorem dX1_dig_17 : decode cX1_dig 17 = .ok (.iload_n 3, 1) := by decide +kernel
theorem dX1_dig_18 : decode cX1_dig 18 = .ok (.invokestatic 47, 3) := by decide +kernel
theorem dX1_dig_21 : decode cX1_dig 21 = .ok (.iastore, 1) := by decide +kernel
theorem dX1_dig_22 : decode cX1_dig 22 = .ok (.aload_n 0, 1) := by decide +kernel
theorem dX1_dig_23 : decode cX1_dig 23 = .ok (.dup, 1) := by decide +kernel
theorem dX1_dig_24 : decode cX1_dig 24 = .ok (.getfield 28, 3) := by decide +kernel
theorem dX1_dig_27 : decode cX1_dig 27 = .ok (.iconst 1, 1) := by decide +kernel
theorem dX1_dig_28 : decode cX1_dig 28 = .ok (.iload_n 1, 1) := by decide +kernel
theorem dX1_dig_29 : decode cX1_dig 29 = .ok (.ishl, 1) := by decide +kernel
theorem dX1_dig_30 : decode cX1_dig 30 = .ok (.ior, 1) := by decide +kernel
theorem dX1_dig_31 : decode cX1_dig 31 = .ok (.putfield 28, 3) := by decide +kernel
theorem dX1_dig_34 : decode cX1_dig 34 = .ok (.aload_n 0, 1) := by decide +kernel
theorem dX1_dig_35 : decode cX1_dig 35 = .ok (.invokevirtual 34, 3) := by decide +kernel
theorem dX1_dig_38 : decode cX1_dig 38 = .ok (.return_, 1) := by decide +kernel
theorem dX1_fillUp_0 : decode cX1_fillUp 0 = .ok (.aload_n 0, 1) := by decide +kernel
theorem dX1_fillUp_1 : decode cX1_fillUp 1 = .ok (.dup, 1) := by decide +kernel
theorem dX1_fillUp_2 : decode cX1_fillUp 2 = .ok (.getfield 28, 3) := by decide +kernel
theorem dX1_fillUp_5 : decode cX1_fillUp 5 = .ok (.iconst 1, 1) := by decide +kernel
theorem dX1_fillUp_6 : decode cX1_fillUp 6 = .ok (.iload_n 1, 1) := by decide +kernel
theorem dX1_fillUp_7 : decode cX1_fillUp 7 = .ok (.ishl, 1) := by decide +kernel
theorem dX1_fillUp_8 : decode cX1_fillUp 8 = .ok (.iconst (-1), 1) := by decide +kernel
theorem dX1_fillUp_9 : decode cX1_fillUp 9 = .ok (.ixor, 1) := by decide +kernel
theorem dX1_fillUp_10 : decode cX1_fillUp 10 = .ok (.iand, 1) := by decide +kernel
theorem dX1_fillUp_11 : decode cX1_fillUp 11 = .ok (.putfield 28, 3) := by decide +kernel
theorem dX1_fillUp_14 : decode cX1_fillUp 14 = .ok (.aload_n 0, 1) := by decide +kernel
theorem dX1_fillUp_15 : decode cX1_fillUp 15 = .ok (.invokevirtual 34, 3) := by decide +kernel
theorem dX1_fillUp_18 : decode cX1_fillUp 18 = .ok (.return_, 1) := by decide +kernel
theorem dX1_linkCaves_0 : decode cX1_linkCaves 0 = .ok (.aload_n 0, 1) := by decide +kernel
theorem dX1_linkCaves_1 : decode cX1_linkCaves 1 = .ok (.getfield 18, 3) := by decide +kernel
theorem dX1_linkCaves_4 : decode cX1_linkCaves 4 = .ok (.iconst 0, 1) := by decide +kernel
theorem dX1_linkCaves_5 : decode cX1_linkCaves 5 = .ok (.invokestatic 50, 3) := by decide +kernel
theorem dX1_linkCaves_8 : decode cX1_linkCaves 8 = .ok (.aload_n 0, 1) := by decide +kernel
theorem dX1_linkCaves_9 : decode cX1_linkCaves 9 = .ok (.getfield 21, 3) := by decide +kernel
theorem dX1_linkCaves_12 : decode cX1_linkCaves 12 = .ok (.iconst 0, 1) := by decide +kernel
theorem dX1_linkCaves_13 : decode cX1_linkCaves 13 = .ok (.invokestatic 50, 3) := by decide +kernel
theorem dX1_linkCaves_16 : decode cX1_linkCaves 16 = .ok (.iconst 0, 1) := by decide +kernel
theorem dX1_linkCaves_17 : decode cX1_linkCaves 17 = .ok (.istore_n 1, 1) := by decide +kernel
theorem dX1_linkCaves_18 : decode cX1_linkCaves 18 = .ok (.iload_n 1, 1) := by decide +kernel
theorem dX1_linkCaves_19 : decode cX1_linkCaves 19 = .ok (.bipush 18, 2) := by decide +kernel
theorem dX1_linkCaves_21 : decode cX1_linkCaves 21 = .ok (.if_icmp .ge 79, 3) := by decide +kernel
theorem dX1_linkCaves_24 : decode cX1_linkCaves 24 = .ok (.aload_n 0, 1) := by decide +kernel
theorem dX1_linkCaves_25 : decode cX1_linkCaves 25 = .ok (.iload_n 1, 1) := by decide +kernel
theorem dX1_linkCaves_26 : decode cX1_linkCaves 26 = .ok (.invokevirtual 37, 3) := by decide +kernel
theorem dX1_linkCaves_29 : decode cX1_linkCaves 29 = .ok (.ifCond .eq 65, 3) := by decide +kernel
theorem dX1_linkCaves_32 : decode cX1_linkCaves 32 = .ok (.aload_n 0, 1) := by decide +kernel
theorem dX1_linkCaves_33 : decode cX1_linkCaves 33 = .ok (.getfield 9, 3) := by decide +kernel
theorem dX1_linkCaves_36 : decode cX1_linkCaves 36 = .ok (.iload_n 1, 1) := by decide +kernel
theorem dX1_linkCaves_37 : decode cX1_linkCaves 37 = .ok (.iaload, 1) := by decide +kernel
theorem dX1_linkCaves_38 : decode cX1_linkCaves 38 = .ok (.istore_n 2, 1) := by decide +kernel
theorem dX1_linkCaves_39 : decode cX1_linkCaves 39 = .ok (.aload_n 0, 1) := by decide +kernel
theorem dX1_linkCaves_40 : decode cX1_linkCaves 40 = .ok (.getfield 15, 3) := by decide +kernel
theorem dX1_linkCaves_43 : decode cX1_linkCaves 43 = .ok (.iload_n 1, 1) := by decide +kernel
theorem dX1_linkCaves_44 : decode cX1_linkCaves 44 = .ok (.iaload, 1) := by decide +kernel
theorem dX1_linkCaves_45 : decode cX1_linkCaves 45 = .ok (.istore_n 3, 1) := by decide +kernel
theorem dX1_linkCaves_46 : decode cX1_linkCaves 46 = .ok (.aload_n 0, 1) := by decide +kernel
theorem dX1_linkCaves_47 : decode cX1_linkCaves 47 = .ok (.getfield 18, 3) := by decide +kernel
theorem dX1_linkCaves_50 : decode cX1_linkCaves 50 = .ok (.iload_n 2, 1) := by decide +kernel
theorem dX1_linkCaves_51 : decode cX1_linkCaves 51 = .ok (.dup2, 1) := by decide +kernel
theorem dX1_linkCaves_52 : decode cX1_linkCaves 52 = .ok (.iaload, 1) := by decide +kernel
theorem dX1_linkCaves_53 : decode cX1_linkCaves 53 = .ok (.iconst 1, 1) := by decide +kernel
theorem dX1_linkCaves_54 : decode cX1_linkCaves 54 = .ok (.iload_n 1, 1) := by decide +kernel
theorem dX1_linkCaves_55 : decode cX1_linkCaves 55 = .ok (.ishl, 1) := by decide +kernel
theorem dX1_linkCaves_56 : decode cX1_linkCaves 56 = .ok (.ior, 1) := by decide +kernel
theorem dX1_linkCaves_57 : decode cX1_linkCaves 57 = .ok (.iastore, 1) := by decide +kernel
theorem dX1_linkCaves_58 : decode cX1_linkCaves 58 = .ok (.aload_n 0, 1) := by decide +kernel
theorem dX1_linkCaves_59 : decode cX1_linkCaves 59 = .ok (.getfield 18, 3) := by decide +kernel
theorem dX1_linkCaves_62 : decode cX1_linkCaves 62 = .ok (.iload_n 3, 1) := by decide +kernel
theorem dX1_linkCaves_63 : decode cX1_linkCaves 63 = .ok (.dup2, 1) := by decide +kernel
theorem dX1_linkCaves_64 : decode cX1_linkCaves 64 = .ok (.iaload, 1) := by decide +kernel
theorem dX1_linkCaves_65 : decode cX1_linkCaves 65 = .ok (.iconst 1, 1) := by decide +kernel
theorem dX1_linkCaves_66 : decode cX1_linkCaves 66 = .ok (.iload_n 1, 1) := by decide +kernel
theorem dX1_linkCaves_67 : decode cX1_linkCaves 67 = .ok (.ishl, 1) := by decide +kernel
theorem dX1_linkCaves_68 : decode cX1_linkCaves 68 = .ok (.ior, 1) := by decide +kernel
theorem dX1_linkCaves_69 : decode cX1_linkCaves 69 = .ok (.iastore, 1) := by decide +kernel
theorem dX1_linkCaves_70 : decode cX1_linkCaves 70 = .ok (.aload_n 0, 1) := by decide +kernel
theorem dX1_linkCaves_71 : decode cX1_linkCaves 71 = .ok (.getfield 21, 3) := by decide +kernel
theorem dX1_linkCaves_74 : decode cX1_linkCaves 74 = .ok (.iload_n 2, 1) := by decide +kernel
theorem dX1_linkCaves_75 : decode cX1_linkCaves 75 = .ok (.dup2, 1) := by decide +kernel
theorem dX1_linkCaves_76 : decode cX1_linkCaves 76 = .ok (.iaload, 1) := by decide +kernel
theorem dX1_linkCaves_77 : decode cX1_linkCaves 77 = .ok (.iconst 1, 1) := by decide +kernel
theorem dX1_linkCaves_78 : decode cX1_linkCaves 78 = .ok (.iload_n 3, 1) := by decide +kernel
theorem dX1_linkCaves_79 : decode cX1_linkCaves 79 = .ok (.ishl, 1) := by decide +kernel
theorem dX1_linkCaves_80 : decode cX1_linkCaves 80 = .ok (.ior, 1) := by decide +kernel
theorem dX1_linkCaves_81 : decode cX1_linkCaves 81 = .ok (.iastore, 1) := by decide +kernel
theorem dX1_linkCaves_82 : decode cX1_linkCaves 82 = .ok (.aload_n 0, 1) := by decide +kernel
theorem dX1_linkCaves_83 : decode cX1_linkCaves 83 = .ok (.getfield 21, 3) := by decide +kernel
theorem dX1_linkCaves_86 : decode cX1_linkCaves 86 = .ok (.iload_n 3, 1) := by decide +kernel
theorem dX1_linkCaves_87 : decode cX1_linkCaves 87 = .ok (.dup2, 1) := by decide +kernel
theorem dX1_linkCaves_88 : decode cX1_linkCaves 88 = .ok (.iaload, 1) := by decide +kernel
theorem dX1_linkCaves_89 : decode cX1_linkCaves 89 = .ok (.iconst 1, 1) := by decide +kernel
theorem dX1_linkCaves_90 : decode cX1_linkCaves 90 = .ok (.iload_n 2, 1) := by decide +kernel
theorem dX1_linkCaves_91 : decode cX1_linkCaves 91 = .ok (.ishl, 1) := by decide +kernel
theorem dX1_linkCaves_92 : decode cX1_linkCaves 92 = .ok (.ior, 1) := by decide +kernel
theorem dX1_linkCaves_93 : decode cX1_linkCaves 93 = .ok (.iastore, 1) := by decide +kernel
theorem dX1_linkCaves_94 : decode cX1_linkCaves 94 = .ok (.iinc 1 1, 3) := by decide +kernel
theorem dX1_linkCaves_97 : decode cX1_linkCaves 97 = .ok (.goto (-79), 3) := by decide +kernel
theorem dX1_linkCaves_100 : decode cX1_linkCaves 100 = .ok (.return_, 1) := by decide +kernel
theorem dX1_allCaves_0 : decode cX1_allCaves 0 = .ok (.iconst 1, 1) := by decide +kernel
theorem dX1_allCaves_1 : decode cX1_allCaves 1 = .ok (.aload_n 0, 1) := by decide +kernel
theorem dX1_allCaves_2 : decode cX1_allCaves 2 = .ok (.getfield 24, 3) := by decide +kernel
theorem dX1_allCaves_5 : decode cX1_allCaves 5 = .ok (.ishl, 1) := by decide +kernel
theorem dX1_allCaves_6 : decode cX1_allCaves 6 = .ok (.iconst 1, 1) := by decide +kernel
theorem dX1_allCaves_7 : decode cX1_allCaves 7 = .ok (.isub, 1) := by decide +kernel
theorem dX1_allCaves_8 : decode cX1_allCaves 8 = .ok (.ireturn, 1) := by decide +kernel
theorem dX1_otherEnd_0 : decode cX1_otherEnd 0 = .ok (.aload_n 0, 1) := by decide +kernel
theorem dX1_otherEnd_1 : decode cX1_otherEnd 1 = .ok (.getfield 9, 3) := by decide +kernel
theorem dX1_otherEnd_4 : decode cX1_otherEnd 4 = .ok (.iload_n 1, 1) := by decide +kernel
theorem dX1_otherEnd_5 : decode cX1_otherEnd 5 = .ok (.iaload, 1) := by decide +kernel
theorem dX1_otherEnd_6 : decode cX1_otherEnd 6 = .ok (.iload_n 2, 1) := by decide +kernel
theorem dX1_otherEnd_7 : decode cX1_otherEnd 7 = .ok (.if_icmp .ne 12, 3) := by decide +kernel
theorem dX1_otherEnd_10 : decode cX1_otherEnd 10 = .ok (.aload_n 0, 1) := by decide +kernel
theorem dX1_otherEnd_11 : decode cX1_otherEnd 11 = .ok (.getfield 15, 3) := by decide +kernel
theorem dX1_otherEnd_14 : decode cX1_otherEnd 14 = .ok (.iload_n 1, 1) := by decide +kernel
theorem dX1_otherEnd_15 : decode cX1_otherEnd 15 = .ok (.iaload, 1) := by decide +kernel
theorem dX1_otherEnd_16 : decode cX1_otherEnd 16 = .ok (.goto 9, 3) := by decide +kernel
theorem dX1_otherEnd_19 : decode cX1_otherEnd 19 = .ok (.aload_n 0, 1) := by decide +kernel
theorem dX1_otherEnd_20 : decode cX1_otherEnd 20 = .ok (.getfield 9, 3) := by decide +kernel
theorem dX1_otherEnd_23 : decode cX1_otherEnd 23 = .ok (.iload_n 1, 1) := by decide +kernel
theorem dX1_otherEnd_24 : decode cX1_otherEnd 24 = .ok (.iaload, 1) := by decide +kernel
theorem dX1_otherEnd_25 : decode cX1_otherEnd 25 = .ok (.ireturn, 1) := by decide +kernel
theorem dX1_passagesAt_0 : decode cX1_passagesAt 0 = .ok (.iconst 0, 1) := by decide +kernel
theorem dX1_passagesAt_1 : decode cX1_passagesAt 1 = .ok (.istore_n 2, 1) := by decide +kernel
theorem dX1_passagesAt_2 : decode cX1_passagesAt 2 = .ok (.iconst 0, 1) := by decide +kernel
theorem dX1_passagesAt_3 : decode cX1_passagesAt 3 = .ok (.istore_n 3, 1) := by decide +kernel
theorem dX1_passagesAt_4 : decode cX1_passagesAt 4 = .ok (.iload_n 3, 1) := by decide +kernel
theorem dX1_passagesAt_5 : decode cX1_passagesAt 5 = .ok (.aload_n 0, 1) := by decide +kernel
theorem dX1_passagesAt_6 : decode cX1_passagesAt 6 = .ok (.getfield 24, 3) := by decide +kernel
theorem dX1_passagesAt_9 : decode cX1_passagesAt 9 = .ok (.if_icmp .ge 26, 3) := by decide +kernel
theorem dX1_passagesAt_12 : decode cX1_passagesAt 12 = .ok (.iload_n 1, 1) := by decide +kernel
theorem dX1_passagesAt_13 : decode cX1_passagesAt 13 = .ok (.iload_n 3, 1) := by decide +kernel
theorem dX1_passagesAt_14 : decode cX1_passagesAt 14 = .ok (.ishr, 1) := by decide +kernel
theorem dX1_passagesAt_15 : decode cX1_passagesAt 15 = .ok (.iconst 1, 1) := by decide +kernel
theorem dX1_passagesAt_16 : decode cX1_passagesAt 16 = .ok (.iand, 1) := by decide +kernel
theorem dX1_passagesAt_17 : decode cX1_passagesAt 17 = .ok (.ifCond .eq 12, 3) := by decide +kernel
theorem dX1_passagesAt_20 : decode cX1_passagesAt 20 = .ok (.iload_n 2, 1) := by decide +kernel
theorem dX1_passagesAt_21 : decode cX1_passagesAt 21 = .ok (.aload_n 0, 1) := by decide +kernel
theorem dX1_passagesAt_22 : decode cX1_passagesAt 22 = .ok (.getfield 18, 3) := by decide +kernel
theorem dX1_passagesAt_25 : decode cX1_passagesAt 25 = .ok (.iload_n 3, 1) := by decide +kernel
theorem dX1_passagesAt_26 : decode cX1_passagesAt 26 = .ok (.iaload, 1) := by decide +kernel
theorem dX1_passagesAt_27 : decode cX1_passagesAt 27 = .ok (.ior, 1) := by decide +kernel
theorem dX1_passagesAt_28 : decode cX1_passagesAt 28 = .ok (.istore_n 2, 1) := by decide +kernel
theorem dX1_passagesAt_29 : decode cX1_passagesAt 29 = .ok (.iinc 3 1, 3) := by decide +kernel
theorem dX1_passagesAt_32 : decode cX1_passagesAt 32 = .ok (.goto (-28), 3) := by decide +kernel
theorem dX1_passagesAt_35 : decode cX1_passagesAt 35 = .ok (.iload_n 2, 1) := by decide +kernel
theorem dX1_passagesAt_36 : decode cX1_passagesAt 36 = .ok (.ireturn, 1) := by decide +kernel
theorem dX1_spread_0 : decode cX1_spread 0 = .ok (.iload_n 1, 1) := by decide +kernel
theorem dX1_spread_1 : decode cX1_spread 1 = .ok (.istore_n 3, 1) := by decide +kernel
theorem dX1_spread_2 : decode cX1_spread 2 = .ok (.iload_n 1, 1) := by decide +kernel
theorem dX1_spread_3 : decode cX1_spread 3 = .ok (.istore 4, 2) := by decide +kernel
theorem dX1_spread_5 : decode cX1_spread 5 = .ok (.iconst 0, 1) := by decide +kernel
theorem dX1_spread_6 : decode cX1_spread 6 = .ok (.istore 5, 2) := by decide +kernel
theorem dX1_spread_8 : decode cX1_spread 8 = .ok (.iload 5, 2) := by decide +kernel
theorem dX1_spread_10 : decode cX1_spread 10 = .ok (.aload_n 0, 1) := by decide +kernel
theorem dX1_spread_11 : decode cX1_spread 11 = .ok (.getfield 24, 3) := by decide +kernel
theorem dX1_spread_14 : decode cX1_spread 14 = .ok (.if_icmp .ge 74, 3) := by decide +kernel
theorem dX1_spread_17 : decode cX1_spread 17 = .ok (.iload 4, 2) := by decide +kernel
theorem dX1_spread_19 : decode cX1_spread 19 = .ok (.ifCond .eq 69, 3) := by decide +kernel
theorem dX1_spread_22 : decode cX1_spread 22 = .ok (.iconst 0, 1) := by decide +kernel
theorem dX1_spread_23 : decode cX1_spread 23 = .ok (.istore 6, 2) := by decide +kernel
theorem dX1_spread_25 : decode cX1_spread 25 = .ok (.iconst 0, 1) := by decide +kernel
theorem dX1_spread_26 : decode cX1_spread 26 = .ok (.istore 7, 2) := by decide +kernel
theorem dX1_spread_28 : decode cX1_spread 28 = .ok (.iload 7, 2) := by decide +kernel
theorem dX1_spread_30 : decode cX1_spread 30 = .ok (.aload_n 0, 1) := by decide +kernel
theorem dX1_spread_31 : decode cX1_spread 31 = .ok (.getfield 24, 3) := by decide +kernel
theorem dX1_spread_34 : decode cX1_spread 34 = .ok (.if_icmp .ge 31, 3) := by decide +kernel
theorem dX1_spread_37 : decode cX1_spread 37 = .ok (.iload 4, 2) := by decide +kernel
theorem dX1_spread_39 : decode cX1_spread 39 = .ok (.iload 7, 2) := by decide +kernel
theorem dX1_spread_41 : decode cX1_spread 41 = .ok (.ishr, 1) := by decide +kernel
theorem dX1_spread_42 : decode cX1_spread 42 = .ok (.iconst 1, 1) := by decide +kernel
theorem dX1_spread_43 : decode cX1_spread 43 = .ok (.iand, 1) := by decide +kernel
theorem dX1_spread_44 : decode cX1_spread 44 = .ok (.ifCond .eq 15, 3) := by decide +kernel
theorem dX1_spread_47 : decode cX1_spread 47 = .ok (.iload 6, 2) := by decide +kernel
theorem dX1_spread_49 : decode cX1_spread 49 = .ok (.aload_n 0, 1) := by decide +kernel
theorem dX1_spread_50 : decode cX1_spread 50 = .ok (.getfield 21, 3) := by decide +kernel
theorem dX1_spread_53 : decode cX1_spread 53 = .ok (.iload 7, 2) := by decide +kernel
theorem dX1_spread_55 : decode cX1_spread 55 = .ok (.iaload, 1) := by decide +kernel
theorem dX1_spread_56 : decode cX1_spread 56 = .ok (.ior, 1) := by decide +kernel
theorem dX1_spread_57 : decode cX1_spread 57 = .ok (.istore 6, 2) := by decide +kernel
theorem dX1_spread_59 : decode cX1_spread 59 = .ok (.iinc 7 1, 3) := by decide +kernel
theorem dX1_spread_62 : decode cX1_spread 62 = .ok (.goto (-34), 3) := by decide +kernel
theorem dX1_spread_65 : decode cX1_spread 65 = .ok (.iload 6, 2) := by decide +kernel
theorem dX1_spread_67 : decode cX1_spread 67 = .ok (.iload_n 2, 1) := by decide +kernel
theorem dX1_spread_68 : decode cX1_spread 68 = .ok (.iconst (-1), 1) := by decide +kernel
theorem dX1_spread_69 : decode cX1_spread 69 = .ok (.ixor, 1) := by decide +kernel
theorem dX1_spread_70 : decode cX1_spread 70 = .ok (.iand, 1) := by decide +kernel
theorem dX1_spread_71 : decode cX1_spread 71 = .ok (.iload_n 3, 1) := by decide +kernel
