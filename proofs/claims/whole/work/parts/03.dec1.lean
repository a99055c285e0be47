theorem dX0_init_0 : decode cX0_init 0 = .ok (.aload_n 0, 1) := by decide +kernel
theorem dX0_init_1 : decode cX0_init 1 = .ok (.invokespecial 3, 3) := by decide +kernel
theorem dX0_init_4 : decode cX0_init 4 = .ok (.aload_n 0, 1) := by decide +kernel
theorem dX0_init_5 : decode cX0_init 5 = .ok (.sipush 1024, 3) := by decide +kernel
theorem dX0_init_8 : decode cX0_init 8 = .ok (.newarray .long, 2) := by decide +kernel
theorem dX0_init_10 : decode cX0_init 10 = .ok (.putfield 11, 3) := by decide +kernel
theorem dX0_init_13 : decode cX0_init 13 = .ok (.aload_n 0, 1) := by decide +kernel
theorem dX0_init_14 : decode cX0_init 14 = .ok (.sipush 840, 3) := by decide +kernel
theorem dX0_init_17 : decode cX0_init 17 = .ok (.newarray .int, 2) := by decide +kernel
theorem dX0_init_19 : decode cX0_init 19 = .ok (.putfield 15, 3) := by decide +kernel
theorem dX0_init_22 : decode cX0_init 22 = .ok (.aload_n 0, 1) := by decide +kernel
theorem dX0_init_23 : decode cX0_init 23 = .ok (.sipush 1024, 3) := by decide +kernel
theorem dX0_init_26 : decode cX0_init 26 = .ok (.newarray .int, 2) := by decide +kernel
theorem dX0_init_28 : decode cX0_init 28 = .ok (.putfield 19, 3) := by decide +kernel
theorem dX0_init_31 : decode cX0_init 31 = .ok (.aload_n 0, 1) := by decide +kernel
theorem dX0_init_32 : decode cX0_init 32 = .ok (.aload_n 1, 1) := by decide +kernel
theorem dX0_init_33 : decode cX0_init 33 = .ok (.putfield 22, 3) := by decide +kernel
theorem dX0_init_36 : decode cX0_init 36 = .ok (.aload_n 0, 1) := by decide +kernel
theorem dX0_init_37 : decode cX0_init 37 = .ok (.aload_n 2, 1) := by decide +kernel
theorem dX0_init_38 : decode cX0_init 38 = .ok (.putfield 26, 3) := by decide +kernel
theorem dX0_init_41 : decode cX0_init 41 = .ok (.return_, 1) := by decide +kernel
theorem dX0_fewest_0 : decode cX0_fewest 0 = .ok (.aload_n 0, 1) := by decide +kernel
theorem dX0_fewest_1 : decode cX0_fewest 1 = .ok (.getfield 11, 3) := by decide +kernel
theorem dX0_fewest_4 : decode cX0_fewest 4 = .ok (.iload_n 2, 1) := by decide +kernel
theorem dX0_fewest_5 : decode cX0_fewest 5 = .ok (.laload, 1) := by decide +kernel
theorem dX0_fewest_6 : decode cX0_fewest 6 = .ok (.iconst 4, 1) := by decide +kernel
theorem dX0_fewest_7 : decode cX0_fewest 7 = .ok (.iload_n 1, 1) := by decide +kernel
theorem dX0_fewest_8 : decode cX0_fewest 8 = .ok (.imul, 1) := by decide +kernel
theorem dX0_fewest_9 : decode cX0_fewest 9 = .ok (.lshr, 1) := by decide +kernel
theorem dX0_fewest_10 : decode cX0_fewest 10 = .ok (.l2i, 1) := by decide +kernel
theorem dX0_fewest_11 : decode cX0_fewest 11 = .ok (.bipush 15, 2) := by decide +kernel
theorem dX0_fewest_13 : decode cX0_fewest 13 = .ok (.iand, 1) := by decide +kernel
theorem dX0_fewest_14 : decode cX0_fewest 14 = .ok (.ireturn, 1) := by decide +kernel
theorem dX0_isFound_0 : decode cX0_isFound 0 = .ok (.aload_n 0, 1) := by decide +kernel
theorem dX0_isFound_1 : decode cX0_isFound 1 = .ok (.iconst 0, 1) := by decide +kernel
theorem dX0_isFound_2 : decode cX0_isFound 2 = .ok (.aload_n 0, 1) := by decide +kernel
theorem dX0_isFound_3 : decode cX0_isFound 3 = .ok (.getfield 30, 3) := by decide +kernel
theorem dX0_isFound_6 : decode cX0_isFound 6 = .ok (.invokevirtual 34, 3) := by decide +kernel
theorem dX0_isFound_9 : decode cX0_isFound 9 = .ok (.bipush 15, 2) := by decide +kernel
theorem dX0_isFound_11 : decode cX0_isFound 11 = .ok (.if_icmp .eq 7, 3) := by decide +kernel
theorem dX0_isFound_14 : decode cX0_isFound 14 = .ok (.iconst 1, 1) := by decide +kernel
theorem dX0_isFound_15 : decode cX0_isFound 15 = .ok (.goto 4, 3) := by decide +kernel
theorem dX0_isFound_18 : decode cX0_isFound 18 = .ok (.iconst 0, 1) := by decide +kernel
theorem dX0_isFound_19 : decode cX0_isFound 19 = .ok (.ireturn, 1) := by decide +kernel
theorem dX0_fill_0 : decode cX0_fill 0 = .ok (.aload_n 0, 1) := by decide +kernel
theorem dX0_fill_1 : decode cX0_fill 1 = .ok (.iload_n 1, 1) := by decide +kernel
theorem dX0_fill_2 : decode cX0_fill 2 = .ok (.sipush 1023, 3) := by decide +kernel
theorem dX0_fill_5 : decode cX0_fill 5 = .ok (.iand, 1) := by decide +kernel
theorem dX0_fill_6 : decode cX0_fill 6 = .ok (.putfield 30, 3) := by decide +kernel
theorem dX0_fill_9 : decode cX0_fill 9 = .ok (.iconst 0, 1) := by decide +kernel
theorem dX0_fill_10 : decode cX0_fill 10 = .ok (.istore_n 2, 1) := by decide +kernel
theorem dX0_fill_11 : decode cX0_fill 11 = .ok (.iload_n 2, 1) := by decide +kernel
theorem dX0_fill_12 : decode cX0_fill 12 = .ok (.sipush 1024, 3) := by decide +kernel
theorem dX0_fill_15 : decode cX0_fill 15 = .ok (.if_icmp .ge 29, 3) := by decide +kernel
theorem dX0_fill_18 : decode cX0_fill 18 = .ok (.aload_n 0, 1) := by decide +kernel
theorem dX0_fill_19 : decode cX0_fill 19 = .ok (.getfield 11, 3) := by decide +kernel
theorem dX0_fill_22 : decode cX0_fill 22 = .ok (.iload_n 2, 1) := by decide +kernel
theorem dX0_fill_23 : decode cX0_fill 23 = .ok (.iload_n 2, 1) := by decide +kernel
theorem dX0_fill_24 : decode cX0_fill 24 = .ok (.ifCond .ne 7, 3) := by decide +kernel
theorem dX0_fill_27 : decode cX0_fill 27 = .ok (.iconst 0, 1) := by decide +kernel
theorem dX0_fill_28 : decode cX0_fill 28 = .ok (.goto 5, 3) := by decide +kernel
theorem dX0_fill_31 : decode cX0_fill 31 = .ok (.bipush 15, 2) := by decide +kernel
theorem dX0_fill_33 : decode cX0_fill 33 = .ok (.i2l, 1) := by decide +kernel
theorem dX0_fill_34 : decode cX0_fill 34 = .ok (.bipush 40, 2) := by decide +kernel
theorem dX0_fill_36 : decode cX0_fill 36 = .ok (.lshl, 1) := by decide +kernel
theorem dX0_fill_37 : decode cX0_fill 37 = .ok (.lastore, 1) := by decide +kernel
theorem dX0_fill_38 : decode cX0_fill 38 = .ok (.iinc 2 1, 3) := by decide +kernel
theorem dX0_fill_41 : decode cX0_fill 41 = .ok (.goto (-30), 3) := by decide +kernel
theorem dX0_fill_44 : decode cX0_fill 44 = .ok (.bipush 9, 2) := by decide +kernel
theorem dX0_fill_46 : decode cX0_fill 46 = .ok (.istore_n 2, 1) := by decide +kernel
theorem dX0_fill_47 : decode cX0_fill 47 = .ok (.iload_n 2, 1) := by decide +kernel
theorem dX0_fill_48 : decode cX0_fill 48 = .ok (.ifCond .lt 72, 3) := by decide +kernel
theorem dX0_fill_51 : decode cX0_fill 51 = .ok (.iconst 0, 1) := by decide +kernel
theorem dX0_fill_52 : decode cX0_fill 52 = .ok (.istore_n 3, 1) := by decide +kernel
theorem dX0_fill_53 : decode cX0_fill 53 = .ok (.iload_n 3, 1) := by decide +kernel
theorem dX0_fill_54 : decode cX0_fill 54 = .ok (.sipush 1024, 3) := by decide +kernel
theorem dX0_fill_57 : decode cX0_fill 57 = .ok (.if_icmp .ge 31, 3) := by decide +kernel
theorem dX0_fill_60 : decode cX0_fill 60 = .ok (.aload_n 0, 1) := by decide +kernel
theorem dX0_fill_61 : decode cX0_fill 61 = .ok (.getfield 11, 3) := by decide +kernel
theorem dX0_fill_64 : decode cX0_fill 64 = .ok (.iload_n 3, 1) := by decide +kernel
theorem dX0_fill_65 : decode cX0_fill 65 = .ok (.dup2, 1) := by decide +kernel
theorem dX0_fill_66 : decode cX0_fill 66 = .ok (.laload, 1) := by decide +kernel
theorem dX0_fill_67 : decode cX0_fill 67 = .ok (.aload_n 0, 1) := by decide +kernel
theorem dX0_fill_68 : decode cX0_fill 68 = .ok (.iload_n 2, 1) := by decide +kernel
theorem dX0_fill_69 : decode cX0_fill 69 = .ok (.iconst 1, 1) := by decide +kernel
theorem dX0_fill_70 : decode cX0_fill 70 = .ok (.iadd, 1) := by decide +kernel
theorem dX0_fill_71 : decode cX0_fill 71 = .ok (.iload_n 3, 1) := by decide +kernel
theorem dX0_fill_72 : decode cX0_fill 72 = .ok (.invokevirtual 34, 3) := by decide +kernel
theorem dX0_fill_75 : decode cX0_fill 75 = .ok (.i2l, 1) := by decide +kernel
theorem dX0_fill_76 : decode cX0_fill 76 = .ok (.iconst 4, 1) := by decide +kernel
theorem dX0_fill_77 : decode cX0_fill 77 = .ok (.iload_n 2, 1) := by decide +kernel
theorem dX0_fill_78 : decode cX0_fill 78 = .ok (.imul, 1) := by decide +kernel
theorem dX0_fill_79 : decode cX0_fill 79 = .ok (.lshl, 1) := by decide +kernel
theorem dX0_fill_80 : decode cX0_fill 80 = .ok (.lor, 1) := by decide +kernel
theorem dX0_fill_81 : decode cX0_fill 81 = .ok (.lastore, 1) := by decide +kernel
theorem dX0_fill_82 : decode cX0_fill 82 = .ok (.iinc 3 1, 3) := by decide +kernel
theorem dX0_fill_85 : decode cX0_fill 85 = .ok (.goto (-32), 3) := by decide +kernel
theorem dX0_fill_88 : decode cX0_fill 88 = .ok (.aload_n 0, 1) := by decide +kernel
theorem dX0_fill_89 : decode cX0_fill 89 = .ok (.getfield 22, 3) := by decide +kernel
theorem dX0_fill_92 : decode cX0_fill 92 = .ok (.iload_n 2, 1) := by decide +kernel
theorem dX0_fill_93 : decode cX0_fill 93 = .ok (.invokevirtual 38, 3) := by decide +kernel
theorem dX0_fill_96 : decode cX0_fill 96 = .ok (.ifCond .eq 18, 3) := by decide +kernel
theorem dX0_fill_99 : decode cX0_fill 99 = .ok (.aload_n 0, 1) := by decide +kernel
theorem dX0_fill_100 : decode cX0_fill 100 = .ok (.dup, 1) := by decide +kernel
theorem dX0_fill_101 : decode cX0_fill 101 = .ok (.getfield 44, 3) := by decide +kernel
theorem dX0_fill_104 : decode cX0_fill 104 = .ok (.iconst 1, 1) := by decide +kernel
theorem dX0_fill_105 : decode cX0_fill 105 = .ok (.iadd, 1) := by decide +kernel
theorem dX0_fill_106 : decode cX0_fill 106 = .ok (.putfield 44, 3) := by decide +kernel
theorem dX0_fill_109 : decode cX0_fill 109 = .ok (.aload_n 0, 1) := by decide +kernel
theorem dX0_fill_110 : decode cX0_fill 110 = .ok (.iload_n 2, 1) := by decide +kernel
theorem dX0_fill_111 : decode cX0_fill 111 = .ok (.invokevirtual 47, 3) := by decide +kernel
theorem dX0_fill_114 : decode cX0_fill 114 = .ok (.iinc 2 (-1), 3) := by decide +kernel
theorem dX0_fill_117 : decode cX0_fill 117 = .ok (.goto (-70), 3) := by decide +kernel
theorem dX0_fill_120 : decode cX0_fill 120 = .ok (.return_, 1) := by decide +kernel
theorem dX0_useGhost_0 : decode cX0_useGhost 0 = .ok (.iconst 0, 1) := by decide +kernel
theorem dX0_useGhost_1 : decode cX0_useGhost 1 = .ok (.istore_n 2, 1) := by decide +kernel
theorem dX0_useGhost_2 : decode cX0_useGhost 2 = .ok (.iload_n 2, 1) := by decide +kernel
theorem dX0_useGhost_3 : decode cX0_useGhost 3 = .ok (.bipush 7, 2) := by decide +kernel
theorem dX0_useGhost_5 : decode cX0_useGhost 5 = .ok (.if_icmp .ge 109, 3) := by decide +kernel
theorem dX0_useGhost_8 : decode cX0_useGhost 8 = .ok (.aload_n 0, 1) := by decide +kernel
theorem dX0_useGhost_9 : decode cX0_useGhost 9 = .ok (.getfield 26, 3) := by decide +kernel
theorem dX0_useGhost_12 : decode cX0_useGhost 12 = .ok (.iload_n 1, 1) := by decide +kernel
theorem dX0_useGhost_13 : decode cX0_useGhost 13 = .ok (.iload_n 2, 1) := by decide +kernel
theorem dX0_useGhost_14 : decode cX0_useGhost 14 = .ok (.aload_n 0, 1) := by decide +kernel
theorem dX0_useGhost_15 : decode cX0_useGhost 15 = .ok (.getfield 30, 3) := by decide +kernel
theorem dX0_useGhost_18 : decode cX0_useGhost 18 = .ok (.invokevirtual 51, 3) := by decide +kernel
theorem dX0_useGhost_21 : decode cX0_useGhost 21 = .ok (.istore_n 3, 1) := by decide +kernel
theorem dX0_useGhost_22 : decode cX0_useGhost 22 = .ok (.iconst 0, 1) := by decide +kernel
theorem dX0_useGhost_23 : decode cX0_useGhost 23 = .ok (.istore 4, 2) := by decide +kernel
theorem dX0_useGhost_25 : decode cX0_useGhost 25 = .ok (.iload 4, 2) := by decide +kernel
theorem dX0_useGhost_27 : decode cX0_useGhost 27 = .ok (.bipush 12, 2) := by decide +kernel
theorem dX0_useGhost_29 : decode cX0_useGhost 29 = .ok (.if_icmp .ge 79, 3) := by decide +kernel
theorem dX0_useGhost_32 : decode cX0_useGhost 32 = .ok (.aload_n 0, 1) := by decide +kernel
theorem dX0_useGhost_33 : decode cX0_useGhost 33 = .ok (.getfield 26, 3) := by decide +kernel
theorem dX0_useGhost_36 : decode cX0_useGhost 36 = .ok (.iload_n 1, 1) := by decide +kernel
theorem dX0_useGhost_37 : decode cX0_useGhost 37 = .ok (.iload_n 2, 1) := by decide +kernel
theorem dX0_useGhost_38 : decode cX0_useGhost 38 = .ok (.iload 4, 2) := by decide +kernel
theorem dX0_useGhost_40 : decode cX0_useGhost 40 = .ok (.iload_n 3, 1) := by decide +kernel
theorem dX0_useGhost_41 : decode cX0_useGhost 41 = .ok (.invokevirtual 57, 3) := by decide +kernel
theorem dX0_useGhost_44 : decode cX0_useGhost 44 = .ok (.istore 5, 2) := by decide +kernel
theorem dX0_useGhost_46 : decode cX0_useGhost 46 = .ok (.aload_n 0, 1) := by decide +kernel
theorem dX0_useGhost_47 : decode cX0_useGhost 47 = .ok (.getfield 15, 3) := by decide +kernel
theorem dX0_useGhost_50 : decode cX0_useGhost 50 = .ok (.iload_n 1, 1) := by decide +kernel
theorem dX0_useGhost_51 : decode cX0_useGhost 51 = .ok (.bipush 7, 2) := by decide +kernel
theorem dX0_useGhost_53 : decode cX0_useGhost 53 = .ok (.imul, 1) := by decide +kernel
theorem dX0_useGhost_54 : decode cX0_useGhost 54 = .ok (.iload_n 2, 1) := by decide +kernel
theorem dX0_useGhost_55 : decode cX0_useGhost 55 = .ok (.iadd, 1) := by decide +kernel
theorem dX0_useGhost_56 : decode cX0_useGhost 56 = .ok (.bipush 12, 2) := by decide +kernel
theorem dX0_useGhost_58 : decode cX0_useGhost 58 = .ok (.imul, 1) := by decide +kernel
theorem dX0_useGhost_59 : decode cX0_useGhost 59 = .ok (.iload 4, 2) := by decide +kernel
theorem dX0_useGhost_61 : decode cX0_useGhost 61 = .ok (.iadd, 1) := by decide +kernel
theorem dX0_useGhost_62 : decode cX0_useGhost 62 = .ok (.iload 5, 2) := by decide +kernel
theorem dX0_useGhost_64 : decode cX0_useGhost 64 = .ok (.iastore, 1) := by decide +kernel
theorem dX0_useGhost_65 : decode cX0_useGhost 65 = .ok (.iload 5, 2) := by decide +kernel
theorem dX0_useGhost_67 : decode cX0_useGhost 67 = .ok (.ifCond .eq 35, 3) := by decide +kernel
theorem dX0_useGhost_70 : decode cX0_useGhost 70 = .ok (.aload_n 0, 1) := by decide +kernel
theorem dX0_useGhost_71 : decode cX0_useGhost 71 = .ok (.getfield 19, 3) := by decide +kernel
theorem dX0_useGhost_74 : decode cX0_useGhost 74 = .ok (.iload 5, 2) := by decide +kernel
theorem dX0_useGhost_76 : decode cX0_useGhost 76 = .ok (.iaload, 1) := by decide +kernel
theorem dX0_useGhost_77 : decode cX0_useGhost 77 = .ok (.aload_n 0, 1) := by decide +kernel
theorem dX0_useGhost_78 : decode cX0_useGhost 78 = .ok (.getfield 44, 3) := by decide +kernel
theorem dX0_useGhost_81 : decode cX0_useGhost 81 = .ok (.if_icmp .eq 21, 3) := by decide +kernel
theorem dX0_useGhost_84 : decode cX0_useGhost 84 = .ok (.aload_n 0, 1) := by decide +kernel
theorem dX0_useGhost_85 : decode cX0_useGhost 85 = .ok (.getfield 19, 3) := by decide +kernel
theorem dX0_useGhost_88 : decode cX0_useGhost 88 = .ok (.iload 5, 2) := by decide +kernel
theorem dX0_useGhost_90 : decode cX0_useGhost 90 = .ok (.aload_n 0, 1) := by decide +kernel
theorem dX0_useGhost_91 : decode cX0_useGhost 91 = .ok (.getfield 44, 3) := by decide +kernel
theorem dX0_useGhost_94 : decode cX0_useGhost 94 = .ok (.iastore, 1) := by decide +kernel
theorem dX0_useGhost_95 : decode cX0_useGhost 95 = .ok (.aload_n 0, 1) := by decide +kernel
theorem dX0_useGhost_96 : decode cX0_useGhost 96 = .ok (.iload_n 1, 1) := by decide +kernel
theorem dX0_useGhost_97 : decode cX0_useGhost 97 = .ok (.iload 5, 2) := by decide +kernel
theorem dX0_useGhost_99 : decode cX0_useGhost 99 = .ok (.invokevirtual 61, 3) := by decide +kernel
theorem dX0_useGhost_102 : decode cX0_useGhost 102 = .ok (.iinc 4 1, 3) := by decide +kernel
theorem dX0_useGhost_105 : decode cX0_useGhost 105 = .ok (.goto (-80), 3) := by decide +kernel
theorem dX0_useGhost_108 : decode cX0_useGhost 108 = .ok (.iinc 2 1, 3) := by decide +kernel
theorem dX0_useGhost_111 : decode cX0_useGhost 111 = .ok (.goto (-109), 3) := by decide +kernel
theorem dX0_useGhost_114 : decode cX0_useGhost 114 = .ok (.return_, 1) := by decide +kernel
theorem dX0_useWalk_0 : decode cX0_useWalk 0 = .ok (.aload_n 0, 1) := by decide +kernel
theorem dX0_useWalk_1 : decode cX0_useWalk 1 = .ok (.getfield 30, 3) := by decide +kernel
theorem dX0_useWalk_4 : decode cX0_useWalk 4 = .ok (.iload_n 2, 1) := by decide +kernel
theorem dX0_useWalk_5 : decode cX0_useWalk 5 = .ok (.iconst (-1), 1) := by decide +kernel
theorem dX0_useWalk_6 : decode cX0_useWalk 6 = .ok (.ixor, 1) := by decide +kernel
theorem dX0_useWalk_7 : decode cX0_useWalk 7 = .ok (.iand, 1) := by decide +kernel
theorem dX0_useWalk_8 : decode cX0_useWalk 8 = .ok (.istore_n 3, 1) := by decide +kernel
theorem dX0_useWalk_9 : decode cX0_useWalk 9 = .ok (.iload_n 3, 1) := by decide +kernel
theorem dX0_useWalk_10 : decode cX0_useWalk 10 = .ok (.istore 4, 2) := by decide +kernel
theorem dX0_useWalk_12 : decode cX0_useWalk 12 = .ok (.iconst 0, 1) := by decide +kernel
theorem dX0_useWalk_13 : decode cX0_useWalk 13 = .ok (.istore 5, 2) := by decide +kernel
theorem dX0_useWalk_15 : decode cX0_useWalk 15 = .ok (.iload 5, 2) := by decide +kernel
theorem dX0_useWalk_17 : decode cX0_useWalk 17 = .ok (.sipush 1024, 3) := by decide +kernel
theorem dX0_useWalk_20 : decode cX0_useWalk 20 = .ok (.if_icmp .ge 78, 3) := by decide +kernel
theorem dX0_useWalk_23 : decode cX0_useWalk 23 = .ok (.aload_n 0, 1) := by decide +kernel
theorem dX0_useWalk_24 : decode cX0_useWalk 24 = .ok (.iload_n 1, 1) := by decide +kernel
theorem dX0_useWalk_25 : decode cX0_useWalk 25 = .ok (.iconst 1, 1) := by decide +kernel
theorem dX0_useWalk_26 : decode cX0_useWalk 26 = .ok (.iadd, 1) := by decide +kernel
theorem dX0_useWalk_27 : decode cX0_useWalk 27 = .ok (.iload 4, 2) := by decide +kernel
theorem dX0_useWalk_29 : decode cX0_useWalk 29 = .ok (.invokevirtual 34, 3) := by decide +kernel
theorem dX0_useWalk_32 : decode cX0_useWalk 32 = .ok (.iconst 1, 1) := by decide +kernel
theorem dX0_useWalk_33 : decode cX0_useWalk 33 = .ok (.iadd, 1) := by decide +kernel
theorem dX0_useWalk_34 : decode cX0_useWalk 34 = .ok (.istore 6, 2) := by decide +kernel
theorem dX0_useWalk_36 : decode cX0_useWalk 36 = .ok (.aload_n 0, 1) := by decide +kernel
theorem dX0_useWalk_37 : decode cX0_useWalk 37 = .ok (.iload_n 1, 1) := by decide +kernel
theorem dX0_useWalk_38 : decode cX0_useWalk 38 = .ok (.iload 4, 2) := by decide +kernel
theorem dX0_useWalk_40 : decode cX0_useWalk 40 = .ok (.iload_n 2, 1) := by decide +kernel
theorem dX0_useWalk_41 : decode cX0_useWalk 41 = .ok (.ior, 1) := by decide +kernel
theorem dX0_useWalk_42 : decode cX0_useWalk 42 = .ok (.invokevirtual 34, 3) := by decide +kernel
theorem dX0_useWalk_45 : decode cX0_useWalk 45 = .ok (.istore 7, 2) := by decide +kernel
theorem dX0_useWalk_47 : decode cX0_useWalk 47 = .ok (.iload 6, 2) := by decide +kernel
theorem dX0_useWalk_49 : decode cX0_useWalk 49 = .ok (.iload 7, 2) := by decide +kernel
theorem dX0_useWalk_51 : decode cX0_useWalk 51 = .ok (.if_icmp .ge 25, 3) := by decide +kernel
theorem dX0_useWalk_54 : decode cX0_useWalk 54 = .ok (.aload_n 0, 1) := by decide +kernel
theorem dX0_useWalk_55 : decode cX0_useWalk 55 = .ok (.getfield 11, 3) := by decide +kernel
theorem dX0_useWalk_58 : decode cX0_useWalk 58 = .ok (.iload 4, 2) := by decide +kernel
theorem dX0_useWalk_60 : decode cX0_useWalk 60 = .ok (.iload_n 2, 1) := by decide +kernel
theorem dX0_useWalk_61 : decode cX0_useWalk 61 = .ok (.ior, 1) := by decide +kernel
theorem dX0_useWalk_62 : decode cX0_useWalk 62 = .ok (.dup2, 1) := by decide +kernel
theorem dX0_useWalk_63 : decode cX0_useWalk 63 = .ok (.laload, 1) := by decide +kernel
theorem dX0_useWalk_64 : decode cX0_useWalk 64 = .ok (.iload 7, 2) := by decide +kernel
theorem dX0_useWalk_66 : decode cX0_useWalk 66 = .ok (.iload 6, 2) := by decide +kernel
theorem dX0_useWalk_68 : decode cX0_useWalk 68 = .ok (.ixor, 1) := by decide +kernel
theorem dX0_useWalk_69 : decode cX0_useWalk 69 = .ok (.i2l, 1) := by decide +kernel
theorem dX0_useWalk_70 : decode cX0_useWalk 70 = .ok (.iconst 4, 1) := by decide +kernel
theorem dX0_useWalk_71 : decode cX0_useWalk 71 = .ok (.iload_n 1, 1) := by decide +kernel
theorem dX0_useWalk_72 : decode cX0_useWalk 72 = .ok (.imul, 1) := by decide +kernel
theorem dX0_useWalk_73 : decode cX0_useWalk 73 = .ok (.lshl, 1) := by decide +kernel
theorem dX0_useWalk_74 : decode cX0_useWalk 74 = .ok (.lxor, 1) := by decide +kernel
theorem dX0_useWalk_75 : decode cX0_useWalk 75 = .ok (.lastore, 1) := by decide +kernel
theorem dX0_useWalk_76 : decode cX0_useWalk 76 = .ok (.iload 4, 2) := by decide +kernel
theorem dX0_useWalk_78 : decode cX0_useWalk 78 = .ok (.ifCond .ne 6, 3) := by decide +kernel
theorem dX0_useWalk_81 : decode cX0_useWalk 81 = .ok (.goto 17, 3) := by decide +kernel
theorem dX0_useWalk_84 : decode cX0_useWalk 84 = .ok (.iload 4, 2) := by decide +kernel
theorem dX0_useWalk_86 : decode cX0_useWalk 86 = .ok (.iconst 1, 1) := by decide +kernel
theorem dX0_useWalk_87 : decode cX0_useWalk 87 = .ok (.isub, 1) := by decide +kernel
theorem dX0_useWalk_88 : decode cX0_useWalk 88 = .ok (.iload_n 3, 1) := by decide +kernel
theorem dX0_useWalk_89 : decode cX0_useWalk 89 = .ok (.iand, 1) := by decide +kernel
theorem dX0_useWalk_90 : decode cX0_useWalk 90 = .ok (.istore 4, 2) := by decide +kernel
theorem dX0_useWalk_92 : decode cX0_useWalk 92 = .ok (.iinc 5 1, 3) := by decide +kernel
theorem dX0_useWalk_95 : decode cX0_useWalk 95 = .ok (.goto (-80), 3) := by decide +kernel
theorem dX0_useWalk_98 : decode cX0_useWalk 98 = .ok (.return_, 1) := by decide +kernel
theorem dX0_walkOf_0 : decode cX0_walkOf 0 = .ok (.aload_n 0, 1) := by decide +kernel
theorem dX0_walkOf_1 : decode cX0_walkOf 1 = .ok (.getfield 30, 3) := by decide +kernel
theorem dX0_walkOf_4 : decode cX0_walkOf 4 = .ok (.istore_n 2, 1) := by decide +kernel
theorem dX0_walkOf_5 : decode cX0_walkOf 5 = .ok (.bipush 84, 2) := by decide +kernel
theorem dX0_walkOf_7 : decode cX0_walkOf 7 = .ok (.istore_n 3, 1) := by decide +kernel
theorem dX0_walkOf_8 : decode cX0_walkOf 8 = .ok (.iconst 0, 1) := by decide +kernel
theorem dX0_walkOf_9 : decode cX0_walkOf 9 = .ok (.istore 4, 2) := by decide +kernel
theorem dX0_walkOf_11 : decode cX0_walkOf 11 = .ok (.iload 4, 2) := by decide +kernel
theorem dX0_walkOf_13 : decode cX0_walkOf 13 = .ok (.iload_n 1, 1) := by decide +kernel
theorem dX0_walkOf_14 : decode cX0_walkOf 14 = .ok (.if_icmp .gt 62, 3) := by decide +kernel
theorem dX0_walkOf_17 : decode cX0_walkOf 17 = .ok (.iload 4, 2) := by decide +kernel
theorem dX0_walkOf_19 : decode cX0_walkOf 19 = .ok (.bipush 10, 2) := by decide +kernel
theorem dX0_walkOf_21 : decode cX0_walkOf 21 = .ok (.if_icmp .ge 55, 3) := by decide +kernel
theorem dX0_walkOf_24 : decode cX0_walkOf 24 = .ok (.aload_n 0, 1) := by decide +kernel
theorem dX0_walkOf_25 : decode cX0_walkOf 25 = .ok (.getfield 22, 3) := by decide +kernel
theorem dX0_walkOf_28 : decode cX0_walkOf 28 = .ok (.iload 4, 2) := by decide +kernel
theorem dX0_walkOf_30 : decode cX0_walkOf 30 = .ok (.invokevirtual 38, 3) := by decide +kernel
theorem dX0_walkOf_33 : decode cX0_walkOf 33 = .ok (.ifCond .eq 13, 3) := by decide +kernel
theorem dX0_walkOf_36 : decode cX0_walkOf 36 = .ok (.aload_n 0, 1) := by decide +kernel
theorem dX0_walkOf_37 : decode cX0_walkOf 37 = .ok (.iload 4, 2) := by decide +kernel
theorem dX0_walkOf_39 : decode cX0_walkOf 39 = .ok (.iload_n 2, 1) := by decide +kernel
theorem dX0_walkOf_40 : decode cX0_walkOf 40 = .ok (.invokevirtual 65, 3) := by decide +kernel
theorem dX0_walkOf_43 : decode cX0_walkOf 43 = .ok (.goto 5, 3) := by decide +kernel
theorem dX0_walkOf_46 : decode cX0_walkOf 46 = .ok (.bipush 84, 2) := by decide +kernel
theorem dX0_walkOf_48 : decode cX0_walkOf 48 = .ok (.istore_n 3, 1) := by decide +kernel
theorem dX0_walkOf_49 : decode cX0_walkOf 49 = .ok (.iload_n 3, 1) := by decide +kernel
theorem dX0_walkOf_50 : decode cX0_walkOf 50 = .ok (.bipush 84, 2) := by decide +kernel
theorem dX0_walkOf_52 : decode cX0_walkOf 52 = .ok (.if_icmp .ge 18, 3) := by decide +kernel
theorem dX0_walkOf_55 : decode cX0_walkOf 55 = .ok (.iload_n 2, 1) := by decide +kernel
theorem dX0_walkOf_56 : decode cX0_walkOf 56 = .ok (.aload_n 0, 1) := by decide +kernel
theorem dX0_walkOf_57 : decode cX0_walkOf 57 = .ok (.getfield 15, 3) := by decide +kernel
theorem dX0_walkOf_60 : decode cX0_walkOf 60 = .ok (.iload 4, 2) := by decide +kernel
theorem dX0_walkOf_62 : decode cX0_walkOf 62 = .ok (.bipush 84, 2) := by decide +kernel
theorem dX0_walkOf_64 : decode cX0_walkOf 64 = .ok (.imul, 1) := by decide +kernel
theorem dX0_walkOf_65 : decode cX0_walkOf 65 = .ok (.iload_n 3, 1) := by decide +kernel
theorem dX0_walkOf_66 : decode cX0_walkOf 66 = .ok (.iadd, 1) := by decide +kernel
theorem dX0_walkOf_67 : decode cX0_walkOf 67 = .ok (.iaload, 1) := by decide +kernel
theorem dX0_walkOf_68 : decode cX0_walkOf 68 = .ok (.ixor, 1) := by decide +kernel
theorem dX0_walkOf_69 : decode cX0_walkOf 69 = .ok (.istore_n 2, 1) := by decide +kernel
theorem dX0_walkOf_70 : decode cX0_walkOf 70 = .ok (.iinc 4 1, 3) := by decide +kernel
theorem dX0_walkOf_73 : decode cX0_walkOf 73 = .ok (.goto (-62), 3) := by decide +kernel
theorem dX0_walkOf_76 : decode cX0_walkOf 76 = .ok (.iload_n 3, 1) := by decide +kernel
theorem dX0_walkOf_77 : decode cX0_walkOf 77 = .ok (.ireturn, 1) := by decide +kernel
theorem dX0_leastWalk_0 : decode cX0_leastWalk 0 = .ok (.iconst 0, 1) := by decide +kernel
theorem dX0_leastWalk_1 : decode cX0_leastWalk 1 = .ok (.istore_n 3, 1) := by decide +kernel
theorem dX0_leastWalk_2 : decode cX0_leastWalk 2 = .ok (.iload_n 3, 1) := by decide +kernel
theorem dX0_leastWalk_3 : decode cX0_leastWalk 3 = .ok (.bipush 84, 2) := by decide +kernel
theorem dX0_leastWalk_5 : decode cX0_leastWalk 5 = .ok (.if_icmp .ge 60, 3) := by decide +kernel
theorem dX0_leastWalk_8 : decode cX0_leastWalk 8 = .ok (.aload_n 0, 1) := by decide +kernel
theorem dX0_leastWalk_9 : decode cX0_leastWalk 9 = .ok (.getfield 15, 3) := by decide +kernel
theorem dX0_leastWalk_12 : decode cX0_leastWalk 12 = .ok (.iload_n 1, 1) := by decide +kernel
theorem dX0_leastWalk_13 : decode cX0_leastWalk 13 = .ok (.bipush 84, 2) := by decide +kernel
theorem dX0_leastWalk_15 : decode cX0_leastWalk 15 = .ok (.imul, 1) := by decide +kernel
theorem dX0_leastWalk_16 : decode cX0_leastWalk 16 = .ok (.iload_n 3, 1) := by decide +kernel
theorem dX0_leastWalk_17 : decode cX0_leastWalk 17 = .ok (.iadd, 1) := by decide +kernel
theorem dX0_leastWalk_18 : decode cX0_leastWalk 18 = .ok (.iaload, 1) := by decide +kernel
theorem dX0_leastWalk_19 : decode cX0_leastWalk 19 = .ok (.istore 4, 2) := by decide +kernel
theorem dX0_leastWalk_21 : decode cX0_leastWalk 21 = .ok (.iload 4, 2) := by decide +kernel
theorem dX0_leastWalk_23 : decode cX0_leastWalk 23 = .ok (.ifCond .eq 36, 3) := by decide +kernel
theorem dX0_leastWalk_26 : decode cX0_leastWalk 26 = .ok (.iload 4, 2) := by decide +kernel
theorem dX0_leastWalk_28 : decode cX0_leastWalk 28 = .ok (.iload_n 2, 1) := by decide +kernel
theorem dX0_leastWalk_29 : decode cX0_leastWalk 29 = .ok (.iconst (-1), 1) := by decide +kernel
theorem dX0_leastWalk_30 : decode cX0_leastWalk 30 = .ok (.ixor, 1) := by decide +kernel
theorem dX0_leastWalk_31 : decode cX0_leastWalk 31 = .ok (.iand, 1) := by decide +kernel
theorem dX0_leastWalk_32 : decode cX0_leastWalk 32 = .ok (.ifCond .ne 27, 3) := by decide +kernel
theorem dX0_leastWalk_35 : decode cX0_leastWalk 35 = .ok (.aload_n 0, 1) := by decide +kernel
theorem dX0_leastWalk_36 : decode cX0_leastWalk 36 = .ok (.iload_n 1, 1) := by decide +kernel
theorem dX0_leastWalk_37 : decode cX0_leastWalk 37 = .ok (.iconst 1, 1) := by decide +kernel
theorem dX0_leastWalk_38 : decode cX0_leastWalk 38 = .ok (.iadd, 1) := by decide +kernel
theorem dX0_leastWalk_39 : decode cX0_leastWalk 39 = .ok (.iload_n 2, 1) := by decide +kernel
theorem dX0_leastWalk_40 : decode cX0_leastWalk 40 = .ok (.iload 4, 2) := by decide +kernel
theorem dX0_leastWalk_42 : decode cX0_leastWalk 42 = .ok (.ixor, 1) := by decide +kernel
theorem dX0_leastWalk_43 : decode cX0_leastWalk 43 = .ok (.invokevirtual 34, 3) := by decide +kernel
theorem dX0_leastWalk_46 : decode cX0_leastWalk 46 = .ok (.iconst 1, 1) := by decide +kernel
theorem dX0_leastWalk_47 : decode cX0_leastWalk 47 = .ok (.iadd, 1) := by decide +kernel
theorem dX0_leastWalk_48 : decode cX0_leastWalk 48 = .ok (.aload_n 0, 1) := by decide +kernel
theorem dX0_leastWalk_49 : decode cX0_leastWalk 49 = .ok (.iload_n 1, 1) := by decide +kernel
theorem dX0_leastWalk_50 : decode cX0_leastWalk 50 = .ok (.iload_n 2, 1) := by decide +kernel
theorem dX0_leastWalk_51 : decode cX0_leastWalk 51 = .ok (.invokevirtual 34, 3) := by decide +kernel
theorem dX0_leastWalk_54 : decode cX0_leastWalk 54 = .ok (.if_icmp .ne 5, 3) := by decide +kernel
theorem dX0_leastWalk_57 : decode cX0_leastWalk 57 = .ok (.iload_n 3, 1) := by decide +kernel
theorem dX0_leastWalk_58 : decode cX0_leastWalk 58 = .ok (.ireturn, 1) := by decide +kernel
theorem dX0_leastWalk_59 : decode cX0_leastWalk 59 = .ok (.iinc 3 1, 3) := by decide +kernel
theorem dX0_leastWalk_62 : decode cX0_leastWalk 62 = .ok (.goto (-60), 3) := by decide +kernel
theorem dX0_leastWalk_65 : decode cX0_leastWalk 65 = .ok (.bipush 84, 2) := by decide +kernel
theorem dX0_leastWalk_67 : decode cX0_leastWalk 67 = .ok (.ireturn, 1) := by decide +kernel
theorem dX1_init_0 : decode cX1_init 0 = .ok (.aload_n 0, 1) := by decide +kernel
theorem dX1_init_1 : decode cX1_init 1 = .ok (.invokespecial 3, 3) := by decide +kernel
theorem dX1_init_4 : decode cX1_init 4 = .ok (.aload_n 0, 1) := by decide +kernel
theorem dX1_init_5 : decode cX1_init 5 = .ok (.bipush 26, 2) := by decide +kernel
theorem dX1_init_7 : decode cX1_init 7 = .ok (.newarray .int, 2) := by decide +kernel
theorem dX1_init_9 : decode cX1_init 9 = .ok (.putfield 11, 3) := by decide +kernel
theorem dX1_init_12 : decode cX1_init 12 = .ok (.aload_n 0, 1) := by decide +kernel
theorem dX1_init_13 : decode cX1_init 13 = .ok (.aload_n 1, 1) := by decide +kernel
theorem dX1_init_14 : decode cX1_init 14 = .ok (.putfield 17, 3) := by decide +kernel
theorem dX1_init_17 : decode cX1_init 17 = .ok (.aload_n 0, 1) := by decide +kernel
theorem dX1_init_18 : decode cX1_init 18 = .ok (.aload_n 2, 1) := by decide +kernel
theorem dX1_init_19 : decode cX1_init 19 = .ok (.putfield 21, 3) := by decide +kernel
theorem dX1_init_22 : decode cX1_init 22 = .ok (.return_, 1) := by decide +kernel
theorem dX1_frightOf_0 : decode cX1_frightOf 0 = .ok (.aload_n 0, 1) := by decide +kernel
theorem dX1_frightOf_1 : decode cX1_frightOf 1 = .ok (.iload_n 1, 1) := by decide +kernel
theorem dX1_frightOf_2 : decode cX1_frightOf 2 = .ok (.iload_n 2, 1) := by decide +kernel
theorem dX1_frightOf_3 : decode cX1_frightOf 3 = .ok (.iload_n 3, 1) := by decide +kernel
theorem dX1_frightOf_4 : decode cX1_frightOf 4 = .ok (.iload 4, 2) := by decide +kernel
theorem dX1_frightOf_6 : decode cX1_frightOf 6 = .ok (.invokevirtual 25, 3) := by decide +kernel
theorem dX1_frightOf_9 : decode cX1_frightOf 9 = .ok (.ifCond .ne 6, 3) := by decide +kernel
theorem dX1_frightOf_12 : decode cX1_frightOf 12 = .ok (.bipush (-2), 2) := by decide +kernel
theorem dX1_frightOf_14 : decode cX1_frightOf 14 = .ok (.ireturn, 1) := by decide +kernel
theorem dX1_frightOf_15 : decode cX1_frightOf 15 = .ok (.aload_n 0, 1) := by decide +kernel
theorem dX1_frightOf_16 : decode cX1_frightOf 16 = .ok (.getfield 17, 3) := by decide +kernel
theorem dX1_frightOf_19 : decode cX1_frightOf 19 = .ok (.iload_n 2, 1) := by decide +kernel
theorem dX1_frightOf_20 : decode cX1_frightOf 20 = .ok (.iload_n 3, 1) := by decide +kernel
theorem dX1_frightOf_21 : decode cX1_frightOf 21 = .ok (.invokevirtual 29, 3) := by decide +kernel
theorem dX1_frightOf_24 : decode cX1_frightOf 24 = .ok (.istore 6, 2) := by decide +kernel
theorem dX1_frightOf_26 : decode cX1_frightOf 26 = .ok (.aload_n 0, 1) := by decide +kernel
theorem dX1_frightOf_27 : decode cX1_frightOf 27 = .ok (.getfield 17, 3) := by decide +kernel
theorem dX1_frightOf_30 : decode cX1_frightOf 30 = .ok (.getfield 35, 3) := by decide +kernel
theorem dX1_frightOf_33 : decode cX1_frightOf 33 = .ok (.iload_n 1, 1) := by decide +kernel
theorem dX1_frightOf_34 : decode cX1_frightOf 34 = .ok (.iaload, 1) := by decide +kernel
theorem dX1_frightOf_35 : decode cX1_frightOf 35 = .ok (.iload 6, 2) := by decide +kernel
theorem dX1_frightOf_37 : decode cX1_frightOf 37 = .ok (.iload 5, 2) := by decide +kernel
theorem dX1_frightOf_39 : decode cX1_frightOf 39 = .ok (.invokestatic 38, 3) := by decide +kernel
theorem dX1_frightOf_42 : decode cX1_frightOf 42 = .ok (.ifCond .ne 6, 3) := by decide +kernel
theorem dX1_frightOf_45 : decode cX1_frightOf 45 = .ok (.bipush (-2), 2) := by decide +kernel
theorem dX1_frightOf_47 : decode cX1_frightOf 47 = .ok (.ireturn, 1) := by decide +kernel
theorem dX1_frightOf_48 : decode cX1_frightOf 48 = .ok (.aload_n 0, 1) := by decide +kernel
theorem dX1_frightOf_49 : decode cX1_frightOf 49 = .ok (.iload_n 1, 1) := by decide +kernel
theorem dX1_frightOf_50 : decode cX1_frightOf 50 = .ok (.iload_n 3, 1) := by decide +kernel
theorem dX1_frightOf_51 : decode cX1_frightOf 51 = .ok (.aload_n 0, 1) := by decide +kernel
theorem dX1_frightOf_52 : decode cX1_frightOf 52 = .ok (.getfield 17, 3) := by decide +kernel
theorem dX1_frightOf_55 : decode cX1_frightOf 55 = .ok (.getfield 42, 3) := by decide +kernel
theorem dX1_frightOf_58 : decode cX1_frightOf 58 = .ok (.iload_n 3, 1) := by decide +kernel
theorem dX1_frightOf_59 : decode cX1_frightOf 59 = .ok (.bipush 10, 2) := by decide +kernel
theorem dX1_frightOf_61 : decode cX1_frightOf 61 = .ok (.imul, 1) := by decide +kernel
theorem dX1_frightOf_62 : decode cX1_frightOf 62 = .ok (.iload_n 2, 1) := by decide +kernel
theorem dX1_frightOf_63 : decode cX1_frightOf 63 = .ok (.iadd, 1) := by decide +kernel
theorem dX1_frightOf_64 : decode cX1_frightOf 64 = .ok (.iaload, 1) := by decide +kernel
theorem dX1_frightOf_65 : decode cX1_frightOf 65 = .ok (.iload 5, 2) := by decide +kernel
theorem dX1_frightOf_67 : decode cX1_frightOf 67 = .ok (.invokevirtual 45, 3) := by decide +kernel
theorem dX1_frightOf_70 : decode cX1_frightOf 70 = .ok (.aload_n 0, 1) := by decide +kernel
theorem dX1_frightOf_71 : decode cX1_frightOf 71 = .ok (.bipush 112, 2) := by decide +kernel
theorem dX1_frightOf_73 : decode cX1_frightOf 73 = .ok (.iload_n 2, 1) := by decide +kernel
theorem dX1_frightOf_74 : decode cX1_frightOf 74 = .ok (.invokevirtual 49, 3) := by decide +kernel
theorem dX1_frightOf_77 : decode cX1_frightOf 77 = .ok (.aload_n 0, 1) := by decide +kernel
theorem dX1_frightOf_78 : decode cX1_frightOf 78 = .ok (.bipush 118, 2) := by decide +kernel
theorem dX1_frightOf_80 : decode cX1_frightOf 80 = .ok (.aload_n 0, 1) := by decide +kernel
theorem dX1_frightOf_81 : decode cX1_frightOf 81 = .ok (.getfield 17, 3) := by decide +kernel
theorem dX1_frightOf_84 : decode cX1_frightOf 84 = .ok (.getfield 53, 3) := by decide +kernel
theorem dX1_frightOf_87 : decode cX1_frightOf 87 = .ok (.iload_n 2, 1) := by decide +kernel
theorem dX1_frightOf_88 : decode cX1_frightOf 88 = .ok (.iaload, 1) := by decide +kernel
theorem dX1_frightOf_89 : decode cX1_frightOf 89 = .ok (.invokevirtual 49, 3) := by decide +kernel
theorem dX1_frightOf_92 : decode cX1_frightOf 92 = .ok (.aload_n 0, 1) := by decide +kernel
theorem dX1_frightOf_93 : decode cX1_frightOf 93 = .ok (.bipush 111, 2) := by decide +kernel
theorem dX1_frightOf_95 : decode cX1_frightOf 95 = .ok (.iload 6, 2) := by decide +kernel
theorem dX1_frightOf_97 : decode cX1_frightOf 97 = .ok (.invokevirtual 49, 3) := by decide +kernel
theorem dX1_frightOf_100 : decode cX1_frightOf 100 = .ok (.aload_n 0, 1) := by decide +kernel
theorem dX1_frightOf_101 : decode cX1_frightOf 101 = .ok (.getfield 21, 3) := by decide +kernel
theorem dX1_frightOf_104 : decode cX1_frightOf 104 = .ok (.bipush 107, 2) := by decide +kernel
theorem dX1_frightOf_106 : decode cX1_frightOf 106 = .ok (.aload_n 0, 1) := by decide +kernel
theorem dX1_frightOf_107 : decode cX1_frightOf 107 = .ok (.getfield 11, 3) := by decide +kernel
theorem dX1_frightOf_110 : decode cX1_frightOf 110 = .ok (.invokevirtual 56, 3) := by decide +kernel
theorem dX1_frightOf_113 : decode cX1_frightOf 113 = .ok (.ifCond .eq 21, 3) := by decide +kernel
theorem dX1_frightOf_116 : decode cX1_frightOf 116 = .ok (.aload_n 0, 1) := by decide +kernel
theorem dX1_frightOf_117 : decode cX1_frightOf 117 = .ok (.getfield 21, 3) := by decide +kernel
theorem dX1_frightOf_120 : decode cX1_frightOf 120 = .ok (.bipush 102, 2) := by decide +kernel
theorem dX1_frightOf_122 : decode cX1_frightOf 122 = .ok (.bipush 99, 2) := by decide +kernel
theorem dX1_frightOf_124 : decode cX1_frightOf 124 = .ok (.aload_n 0, 1) := by decide +kernel
theorem dX1_frightOf_125 : decode cX1_frightOf 125 = .ok (.getfield 11, 3) := by decide +kernel
theorem dX1_frightOf_128 : decode cX1_frightOf 128 = .ok (.invokevirtual 60, 3) := by decide +kernel
theorem dX1_frightOf_131 : decode cX1_frightOf 131 = .ok (.goto 5, 3) := by decide +kernel
theorem dX1_frightOf_134 : decode cX1_frightOf 134 = .ok (.bipush (-2), 2) := by decide +kernel
theorem dX1_frightOf_136 : decode cX1_frightOf 136 = .ok (.ireturn, 1) := by decide +kernel
theorem dX1_frightOfAll_0 : decode cX1_frightOfAll 0 = .ok (.iconst 0, 1) := by decide +kernel
theorem dX1_frightOfAll_1 : decode cX1_frightOfAll 1 = .ok (.istore 5, 2) := by decide +kernel
theorem dX1_frightOfAll_3 : decode cX1_frightOfAll 3 = .ok (.iconst 0, 1) := by decide +kernel
theorem dX1_frightOfAll_4 : decode cX1_frightOfAll 4 = .ok (.istore 6, 2) := by decide +kernel
theorem dX1_frightOfAll_6 : decode cX1_frightOfAll 6 = .ok (.iload 6, 2) := by decide +kernel
theorem dX1_frightOfAll_8 : decode cX1_frightOfAll 8 = .ok (.bipush 10, 2) := by decide +kernel
theorem dX1_frightOfAll_10 : decode cX1_frightOfAll 10 = .ok (.if_icmp .ge 41, 3) := by decide +kernel
theorem dX1_frightOfAll_13 : decode cX1_frightOfAll 13 = .ok (.aload_n 0, 1) := by decide +kernel
theorem dX1_frightOfAll_14 : decode cX1_frightOfAll 14 = .ok (.getfield 17, 3) := by decide +kernel
theorem dX1_frightOfAll_17 : decode cX1_frightOfAll 17 = .ok (.iload 6, 2) := by decide +kernel
theorem dX1_frightOfAll_19 : decode cX1_frightOfAll 19 = .ok (.invokevirtual 64, 3) := by decide +kernel
theorem dX1_frightOfAll_22 : decode cX1_frightOfAll 22 = .ok (.ifCond .eq 23, 3) := by decide +kernel
theorem dX1_frightOfAll_25 : decode cX1_frightOfAll 25 = .ok (.iload 5, 2) := by decide +kernel
theorem dX1_frightOfAll_27 : decode cX1_frightOfAll 27 = .ok (.iconst 0, 1) := by decide +kernel
theorem dX1_frightOfAll_28 : decode cX1_frightOfAll 28 = .ok (.aload_n 0, 1) := by decide +kernel
theorem dX1_frightOfAll_29 : decode cX1_frightOfAll 29 = .ok (.iload_n 1, 1) := by decide +kernel
theorem dX1_frightOfAll_30 : decode cX1_frightOfAll 30 = .ok (.iload 6, 2) := by decide +kernel
theorem dX1_frightOfAll_32 : decode cX1_frightOfAll 32 = .ok (.iload_n 2, 1) := by decide +kernel
theorem dX1_frightOfAll_33 : decode cX1_frightOfAll 33 = .ok (.iload_n 3, 1) := by decide +kernel
theorem dX1_frightOfAll_34 : decode cX1_frightOfAll 34 = .ok (.iload 4, 2) := by decide +kernel
theorem dX1_frightOfAll_36 : decode cX1_frightOfAll 36 = .ok (.invokevirtual 68, 3) := by decide +kernel
theorem dX1_frightOfAll_39 : decode cX1_frightOfAll 39 = .ok (.invokestatic 72, 3) := by decide +kernel
theorem dX1_frightOfAll_42 : decode cX1_frightOfAll 42 = .ok (.iadd, 1) := by decide +kernel
theorem dX1_frightOfAll_43 : decode cX1_frightOfAll 43 = .ok (.istore 5, 2) := by decide +kernel
theorem dX1_frightOfAll_45 : decode cX1_frightOfAll 45 = .ok (.iinc 6 1, 3) := by decide +kernel
theorem dX1_frightOfAll_48 : decode cX1_frightOfAll 48 = .ok (.goto (-42), 3) := by decide +kernel
theorem dX1_frightOfAll_51 : decode cX1_frightOfAll 51 = .ok (.iload 5, 2) := by decide +kernel
theorem dX1_frightOfAll_53 : decode cX1_frightOfAll 53 = .ok (.ireturn, 1) := by decide +kernel
theorem dX1_frightenedBy_0 : decode cX1_frightenedBy 0 = .ok (.iconst 0, 1) := by decide +kernel
theorem dX1_frightenedBy_1 : decode cX1_frightenedBy 1 = .ok (.istore 4, 2) := by decide +kernel
theorem dX1_frightenedBy_3 : decode cX1_frightenedBy 3 = .ok (.iconst 0, 1) := by decide +kernel
theorem dX1_frightenedBy_4 : decode cX1_frightenedBy 4 = .ok (.istore 5, 2) := by decide +kernel
theorem dX1_frightenedBy_6 : decode cX1_frightenedBy 6 = .ok (.iload 5, 2) := by decide +kernel
theorem dX1_frightenedBy_8 : decode cX1_frightenedBy 8 = .ok (.bipush 10, 2) := by decide +kernel
theorem dX1_frightenedBy_10 : decode cX1_frightenedBy 10 = .ok (.if_icmp .ge 81, 3) := by decide +kernel
theorem dX1_frightenedBy_13 : decode cX1_frightenedBy 13 = .ok (.aload_n 0, 1) := by decide +kernel
theorem dX1_frightenedBy_14 : decode cX1_frightenedBy 14 = .ok (.getfield 17, 3) := by decide +kernel
theorem dX1_frightenedBy_17 : decode cX1_frightenedBy 17 = .ok (.getfield 42, 3) := by decide +kernel
theorem dX1_frightenedBy_20 : decode cX1_frightenedBy 20 = .ok (.iload_n 2, 1) := by decide +kernel
theorem dX1_frightenedBy_21 : decode cX1_frightenedBy 21 = .ok (.bipush 10, 2) := by decide +kernel
theorem dX1_frightenedBy_23 : decode cX1_frightenedBy 23 = .ok (.imul, 1) := by decide +kernel
theorem dX1_frightenedBy_24 : decode cX1_frightenedBy 24 = .ok (.iload 5, 2) := by decide +kernel
theorem dX1_frightenedBy_26 : decode cX1_frightenedBy 26 = .ok (.iadd, 1) := by decide +kernel
theorem dX1_frightenedBy_27 : decode cX1_frightenedBy 27 = .ok (.iaload, 1) := by decide +kernel
theorem dX1_frightenedBy_28 : decode cX1_frightenedBy 28 = .ok (.istore 6, 2) := by decide +kernel
theorem dX1_frightenedBy_30 : decode cX1_frightenedBy 30 = .ok (.iload_n 3, 1) := by decide +kernel
theorem dX1_frightenedBy_31 : decode cX1_frightenedBy 31 = .ok (.iload 5, 2) := by decide +kernel
theorem dX1_frightenedBy_33 : decode cX1_frightenedBy 33 = .ok (.ishr, 1) := by decide +kernel
theorem dX1_frightenedBy_34 : decode cX1_frightenedBy 34 = .ok (.iconst 1, 1) := by decide +kernel
theorem dX1_frightenedBy_35 : decode cX1_frightenedBy 35 = .ok (.iand, 1) := by decide +kernel
theorem dX1_frightenedBy_36 : decode cX1_frightenedBy 36 = .ok (.iconst 1, 1) := by decide +kernel
theorem dX1_frightenedBy_37 : decode cX1_frightenedBy 37 = .ok (.if_icmp .ne 15, 3) := by decide +kernel
theorem dX1_frightenedBy_40 : decode cX1_frightenedBy 40 = .ok (.iload 6, 2) := by decide +kernel
theorem dX1_frightenedBy_42 : decode cX1_frightenedBy 42 = .ok (.sipush 255, 3) := by decide +kernel
theorem dX1_frightenedBy_45 : decode cX1_frightenedBy 45 = .ok (.if_icmp .eq 7, 3) := by decide +kernel
theorem dX1_frightenedBy_48 : decode cX1_frightenedBy 48 = .ok (.iconst 1, 1) := by decide +kernel
theorem dX1_frightenedBy_49 : decode cX1_frightenedBy 49 = .ok (.goto 4, 3) := by decide +kernel
theorem dX1_frightenedBy_52 : decode cX1_frightenedBy 52 = .ok (.iconst 0, 1) := by decide +kernel
theorem dX1_frightenedBy_53 : decode cX1_frightenedBy 53 = .ok (.istore 7, 2) := by decide +kernel
theorem dX1_frightenedBy_55 : decode cX1_frightenedBy 55 = .ok (.iload 7, 2) := by decide +kernel
theorem dX1_frightenedBy_57 : decode cX1_frightenedBy 57 = .ok (.ifCond .eq 28, 3) := by decide +kernel
theorem dX1_frightenedBy_60 : decode cX1_frightenedBy 60 = .ok (.aload_n 0, 1) := by decide +kernel
theorem dX1_frightenedBy_61 : decode cX1_frightenedBy 61 = .ok (.iload_n 1, 1) := by decide +kernel
theorem dX1_frightenedBy_62 : decode cX1_frightenedBy 62 = .ok (.iload 5, 2) := by decide +kernel
theorem dX1_frightenedBy_64 : decode cX1_frightenedBy 64 = .ok (.iload_n 2, 1) := by decide +kernel
theorem dX1_frightenedBy_65 : decode cX1_frightenedBy 65 = .ok (.iload 6, 2) := by decide +kernel
theorem dX1_frightenedBy_67 : decode cX1_frightenedBy 67 = .ok (.iconst 0, 1) := by decide +kernel
theorem dX1_frightenedBy_68 : decode cX1_frightenedBy 68 = .ok (.invokevirtual 68, 3) := by decide +kernel
theorem dX1_frightenedBy_71 : decode cX1_frightenedBy 71 = .ok (.bipush (-2), 2) := by decide +kernel
theorem dX1_frightenedBy_73 : decode cX1_frightenedBy 73 = .ok (.if_icmp .eq 12, 3) := by decide +kernel
theorem dX1_frightenedBy_76 : decode cX1_frightenedBy 76 = .ok (.iload 4, 2) := by decide +kernel
theorem dX1_frightenedBy_78 : decode cX1_frightenedBy 78 = .ok (.iconst 1, 1) := by decide +kernel
theorem dX1_frightenedBy_79 : decode cX1_frightenedBy 79 = .ok (.iload 5, 2) := by decide +kernel
theorem dX1_frightenedBy_81 : decode cX1_frightenedBy 81 = .ok (.ishl, 1) := by decide +kernel
theorem dX1_frightenedBy_82 : decode cX1_frightenedBy 82 = .ok (.ior, 1) := by decide +kernel
theorem dX1_frightenedBy_83 : decode cX1_frightenedBy 83 = .ok (.istore 4, 2) := by decide +kernel
theorem dX1_frightenedBy_85 : decode cX1_frightenedBy 85 = .ok (.iinc 5 1, 3) := by decide +kernel
theorem dX1_frightenedBy_88 : decode cX1_frightenedBy 88 = .ok (.goto (-82), 3) := by decide +kernel
theorem dX1_frightenedBy_91 : decode cX1_frightenedBy 91 = .ok (.iload 4, 2) := by decide +kernel
theorem dX1_frightenedBy_93 : decode cX1_frightenedBy 93 = .ok (.ireturn, 1) := by decide +kernel
theorem dX1_within_0 : decode cX1_within 0 = .ok (.iconst 0, 1) := by decide +kernel
theorem dX1_within_1 : decode cX1_within 1 = .ok (.istore 5, 2) := by decide +kernel
theorem dX1_within_3 : decode cX1_within 3 = .ok (.iconst 0, 1) := by decide +kernel
theorem dX1_within_4 : decode cX1_within 4 = .ok (.istore 6, 2) := by decide +kernel
theorem dX1_within_6 : decode cX1_within 6 = .ok (.iload 6, 2) := by decide +kernel
theorem dX1_within_8 : decode cX1_within 8 = .ok (.bipush 10, 2) := by decide +kernel
theorem dX1_within_10 : decode cX1_within 10 = .ok (.if_icmp .ge 49, 3) := by decide +kernel
theorem dX1_within_13 : decode cX1_within 13 = .ok (.iload 4, 2) := by decide +kernel
theorem dX1_within_15 : decode cX1_within 15 = .ok (.iload 6, 2) := by decide +kernel
theorem dX1_within_17 : decode cX1_within 17 = .ok (.ishr, 1) := by decide +kernel
theorem dX1_within_18 : decode cX1_within 18 = .ok (.ifCond .eq 41, 3) := by decide +kernel
theorem dX1_within_21 : decode cX1_within 21 = .ok (.iload 4, 2) := by decide +kernel
theorem dX1_within_23 : decode cX1_within 23 = .ok (.iload 6, 2) := by decide +kernel
theorem dX1_within_25 : decode cX1_within 25 = .ok (.ishr, 1) := by decide +kernel
theorem dX1_within_26 : decode cX1_within 26 = .ok (.iconst 1, 1) := by decide +kernel
theorem dX1_within_27 : decode cX1_within 27 = .ok (.iand, 1) := by decide +kernel
theorem dX1_within_28 : decode cX1_within 28 = .ok (.iconst 1, 1) := by decide +kernel
theorem dX1_within_29 : decode cX1_within 29 = .ok (.if_icmp .ne 24, 3) := by decide +kernel
theorem dX1_within_32 : decode cX1_within 32 = .ok (.aload_n 0, 1) := by decide +kernel
theorem dX1_within_33 : decode cX1_within 33 = .ok (.iload_n 1, 1) := by decide +kernel
theorem dX1_within_34 : decode cX1_within 34 = .ok (.iload 6, 2) := by decide +kernel
theorem dX1_within_36 : decode cX1_within 36 = .ok (.iload_n 2, 1) := by decide +kernel
theorem dX1_within_37 : decode cX1_within 37 = .ok (.iload_n 3, 1) := by decide +kernel
theorem dX1_within_38 : decode cX1_within 38 = .ok (.invokevirtual 25, 3) := by decide +kernel
theorem dX1_within_41 : decode cX1_within 41 = .ok (.ifCond .eq 12, 3) := by decide +kernel
theorem dX1_within_44 : decode cX1_within 44 = .ok (.iload 5, 2) := by decide +kernel
theorem dX1_within_46 : decode cX1_within 46 = .ok (.iconst 1, 1) := by decide +kernel
theorem dX1_within_47 : decode cX1_within 47 = .ok (.iload 6, 2) := by decide +kernel
theorem dX1_within_49 : decode cX1_within 49 = .ok (.ishl, 1) := by decide +kernel
theorem dX1_within_50 : decode cX1_within 50 = .ok (.ior, 1) := by decide +kernel
theorem dX1_within_51 : decode cX1_within 51 = .ok (.istore 5, 2) := by decide +kernel
theorem dX1_within_53 : decode cX1_within 53 = .ok (.iinc 6 1, 3) := by decide +kernel
theorem dX1_within_56 : decode cX1_within 56 = .ok (.goto (-50), 3) := by decide +kernel
theorem dX1_within_59 : decode cX1_within 59 = .ok (.iload 5, 2) := by decide +kernel
theorem dX1_within_61 : decode cX1_within 61 = .ok (.ireturn, 1) := by decide +kernel
theorem dX1_wageOf_0 : decode cX1_wageOf 0 = .ok (.aload_n 0, 1) := by decide +kernel
theorem dX1_wageOf_1 : decode cX1_wageOf 1 = .ok (.iload_n 1, 1) := by decide +kernel
theorem dX1_wageOf_2 : decode cX1_wageOf 2 = .ok (.iload_n 2, 1) := by decide +kernel
theorem dX1_wageOf_3 : decode cX1_wageOf 3 = .ok (.iload_n 3, 1) := by decide +kernel
theorem dX1_wageOf_4 : decode cX1_wageOf 4 = .ok (.iload 4, 2) := by decide +kernel
theorem dX1_wageOf_6 : decode cX1_wageOf 6 = .ok (.invokevirtual 45, 3) := by decide +kernel
theorem dX1_wageOf_9 : decode cX1_wageOf 9 = .ok (.aload_n 0, 1) := by decide +kernel
theorem dX1_wageOf_10 : decode cX1_wageOf 10 = .ok (.getfield 21, 3) := by decide +kernel
theorem dX1_wageOf_13 : decode cX1_wageOf 13 = .ok (.bipush 119, 2) := by decide +kernel
theorem dX1_wageOf_15 : decode cX1_wageOf 15 = .ok (.sipush 999, 3) := by decide +kernel
theorem dX1_wageOf_18 : decode cX1_wageOf 18 = .ok (.aload_n 0, 1) := by decide +kernel
theorem dX1_wageOf_19 : decode cX1_wageOf 19 = .ok (.getfield 11, 3) := by decide +kernel
theorem dX1_wageOf_22 : decode cX1_wageOf 22 = .ok (.invokevirtual 60, 3) := by decide +kernel
theorem dX1_wageOf_25 : decode cX1_wageOf 25 = .ok (.ireturn, 1) := by decide +kernel
theorem dX1_tenthsOf_0 : decode cX1_tenthsOf 0 = .ok (.aload_n 0, 1) := by decide +kernel
theorem dX1_tenthsOf_1 : decode cX1_tenthsOf 1 = .ok (.iload_n 1, 1) := by decide +kernel
theorem dX1_tenthsOf_2 : decode cX1_tenthsOf 2 = .ok (.iload_n 2, 1) := by decide +kernel
theorem dX1_tenthsOf_3 : decode cX1_tenthsOf 3 = .ok (.iload_n 3, 1) := by decide +kernel
theorem dX1_tenthsOf_4 : decode cX1_tenthsOf 4 = .ok (.iload 4, 2) := by decide +kernel
theorem dX1_tenthsOf_6 : decode cX1_tenthsOf 6 = .ok (.invokevirtual 45, 3) := by decide +kernel
theorem dX1_tenthsOf_9 : decode cX1_tenthsOf 9 = .ok (.aload_n 0, 1) := by decide +kernel
theorem dX1_tenthsOf_10 : decode cX1_tenthsOf 10 = .ok (.getfield 21, 3) := by decide +kernel
theorem dX1_tenthsOf_13 : decode cX1_tenthsOf 13 = .ok (.bipush 122, 2) := by decide +kernel
theorem dX1_tenthsOf_15 : decode cX1_tenthsOf 15 = .ok (.bipush 10, 2) := by decide +kernel
theorem dX1_tenthsOf_17 : decode cX1_tenthsOf 17 = .ok (.aload_n 0, 1) := by decide +kernel
theorem dX1_tenthsOf_18 : decode cX1_tenthsOf 18 = .ok (.getfield 11, 3) := by decide +kernel
theorem dX1_tenthsOf_21 : decode cX1_tenthsOf 21 = .ok (.invokevirtual 60, 3) := by decide +kernel
theorem dX1_tenthsOf_24 : decode cX1_tenthsOf 24 = .ok (.ireturn, 1) := by decide +kernel
theorem dX1_worthOf_0 : decode cX1_worthOf 0 = .ok (.aload_n 0, 1) := by decide +kernel
theorem dX1_worthOf_1 : decode cX1_worthOf 1 = .ok (.getfield 11, 3) := by decide +kernel
theorem dX1_worthOf_4 : decode cX1_worthOf 4 = .ok (.iconst 0, 1) := by decide +kernel
theorem dX1_worthOf_5 : decode cX1_worthOf 5 = .ok (.invokestatic 77, 3) := by decide +kernel
theorem dX1_worthOf_8 : decode cX1_worthOf 8 = .ok (.aload_n 0, 1) := by decide +kernel
theorem dX1_worthOf_9 : decode cX1_worthOf 9 = .ok (.bipush 108, 2) := by decide +kernel
theorem dX1_worthOf_11 : decode cX1_worthOf 11 = .ok (.iload_n 1, 1) := by decide +kernel
theorem dX1_worthOf_12 : decode cX1_worthOf 12 = .ok (.invokevirtual 49, 3) := by decide +kernel
theorem dX1_worthOf_15 : decode cX1_worthOf 15 = .ok (.aload_n 0, 1) := by decide +kernel
theorem dX1_worthOf_16 : decode cX1_worthOf 16 = .ok (.bipush 114, 2) := by decide +kernel
theorem dX1_worthOf_18 : decode cX1_worthOf 18 = .ok (.iload_n 2, 1) := by decide +kernel
theorem dX1_worthOf_19 : decode cX1_worthOf 19 = .ok (.invokevirtual 49, 3) := by decide +kernel
theorem dX1_worthOf_22 : decode cX1_worthOf 22 = .ok (.aload_n 0, 1) := by decide +kernel
theorem dX1_worthOf_23 : decode cX1_worthOf 23 = .ok (.bipush 116, 2) := by decide +kernel
theorem dX1_worthOf_25 : decode cX1_worthOf 25 = .ok (.aload_n 0, 1) := by decide +kernel
theorem dX1_worthOf_26 : decode cX1_worthOf 26 = .ok (.getfield 17, 3) := by decide +kernel
theorem dX1_worthOf_29 : decode cX1_worthOf 29 = .ok (.getfield 83, 3) := by decide +kernel
theorem dX1_worthOf_32 : decode cX1_worthOf 32 = .ok (.iload_n 2, 1) := by decide +kernel
theorem dX1_worthOf_33 : decode cX1_worthOf 33 = .ok (.iaload, 1) := by decide +kernel
theorem dX1_worthOf_34 : decode cX1_worthOf 34 = .ok (.invokevirtual 49, 3) := by decide +kernel
theorem dX1_worthOf_37 : decode cX1_worthOf 37 = .ok (.aload_n 0, 1) := by decide +kernel
theorem dX1_worthOf_38 : decode cX1_worthOf 38 = .ok (.bipush 99, 2) := by decide +kernel
theorem dX1_worthOf_40 : decode cX1_worthOf 40 = .ok (.iload_n 3, 1) := by decide +kernel
theorem dX1_worthOf_41 : decode cX1_worthOf 41 = .ok (.invokevirtual 49, 3) := by decide +kernel
theorem dX1_worthOf_44 : decode cX1_worthOf 44 = .ok (.aload_n 0, 1) := by decide +kernel
theorem dX1_worthOf_45 : decode cX1_worthOf 45 = .ok (.getfield 21, 3) := by decide +kernel
theorem dX1_worthOf_48 : decode cX1_worthOf 48 = .ok (.bipush 113, 2) := by decide +kernel
theorem dX1_worthOf_50 : decode cX1_worthOf 50 = .ok (.sipush 999, 3) := by decide +kernel
theorem dX1_worthOf_53 : decode cX1_worthOf 53 = .ok (.aload_n 0, 1) := by decide +kernel
theorem dX1_worthOf_54 : decode cX1_worthOf 54 = .ok (.getfield 11, 3) := by decide +kernel
theorem dX1_worthOf_57 : decode cX1_worthOf 57 = .ok (.invokevirtual 60, 3) := by decide +kernel
theorem dX1_worthOf_60 : decode cX1_worthOf 60 = .ok (.ireturn, 1) := by decide +kernel
theorem dX1_isNear_0 : decode cX1_isNear 0 = .ok (.aload_n 0, 1) := by decide +kernel
theorem dX1_isNear_1 : decode cX1_isNear 1 = .ok (.getfield 17, 3) := by decide +kernel
theorem dX1_isNear_4 : decode cX1_isNear 4 = .ok (.getfield 42, 3) := by decide +kernel
theorem dX1_isNear_7 : decode cX1_isNear 7 = .ok (.iload_n 3, 1) := by decide +kernel
theorem dX1_isNear_8 : decode cX1_isNear 8 = .ok (.bipush 10, 2) := by decide +kernel
theorem dX1_isNear_10 : decode cX1_isNear 10 = .ok (.imul, 1) := by decide +kernel
theorem dX1_isNear_11 : decode cX1_isNear 11 = .ok (.iload_n 2, 1) := by decide +kernel
theorem dX1_isNear_12 : decode cX1_isNear 12 = .ok (.iadd, 1) := by decide +kernel
theorem dX1_isNear_13 : decode cX1_isNear 13 = .ok (.iaload, 1) := by decide +kernel
theorem dX1_isNear_14 : decode cX1_isNear 14 = .ok (.istore 5, 2) := by decide +kernel
theorem dX1_isNear_16 : decode cX1_isNear 16 = .ok (.iload 4, 2) := by decide +kernel
theorem dX1_isNear_18 : decode cX1_isNear 18 = .ok (.iload 5, 2) := by decide +kernel
theorem dX1_isNear_20 : decode cX1_isNear 20 = .ok (.if_icmp .eq 34, 3) := by decide +kernel
theorem dX1_isNear_23 : decode cX1_isNear 23 = .ok (.aload_n 0, 1) := by decide +kernel
theorem dX1_isNear_24 : decode cX1_isNear 24 = .ok (.getfield 17, 3) := by decide +kernel
theorem dX1_isNear_27 : decode cX1_isNear 27 = .ok (.getfield 35, 3) := by decide +kernel
theorem dX1_isNear_30 : decode cX1_isNear 30 = .ok (.iload_n 1, 1) := by decide +kernel
theorem dX1_isNear_31 : decode cX1_isNear 31 = .ok (.iaload, 1) := by decide +kernel
theorem dX1_isNear_32 : decode cX1_isNear 32 = .ok (.iconst 2, 1) := by decide +kernel
theorem dX1_isNear_33 : decode cX1_isNear 33 = .ok (.if_icmp .ne 25, 3) := by decide +kernel
theorem dX1_isNear_36 : decode cX1_isNear 36 = .ok (.iload 4, 2) := by decide +kernel
theorem dX1_isNear_38 : decode cX1_isNear 38 = .ok (.iload 5, 2) := by decide +kernel
theorem dX1_isNear_40 : decode cX1_isNear 40 = .ok (.iconst 1, 1) := by decide +kernel
theorem dX1_isNear_41 : decode cX1_isNear 41 = .ok (.isub, 1) := by decide +kernel
theorem dX1_isNear_42 : decode cX1_isNear 42 = .ok (.if_icmp .eq 12, 3) := by decide +kernel
theorem dX1_isNear_45 : decode cX1_isNear 45 = .ok (.iload 4, 2) := by decide +kernel
theorem dX1_isNear_47 : decode cX1_isNear 47 = .ok (.iload 5, 2) := by decide +kernel
theorem dX1_isNear_49 : decode cX1_isNear 49 = .ok (.iconst 1, 1) := by decide +kernel
theorem dX1_isNear_50 : decode cX1_isNear 50 = .ok (.iadd, 1) := by decide +kernel
theorem dX1_isNear_51 : decode cX1_isNear 51 = .ok (.if_icmp .ne 7, 3) := by decide +kernel
theorem dX1_isNear_54 : decode cX1_isNear 54 = .ok (.iconst 1, 1) := by decide +kernel
theorem dX1_isNear_55 : decode cX1_isNear 55 = .ok (.goto 4, 3) := by decide +kernel
theorem dX1_isNear_58 : decode cX1_isNear 58 = .ok (.iconst 0, 1) := by decide +kernel
theorem dX1_isNear_59 : decode cX1_isNear 59 = .ok (.ireturn, 1) := by decide +kernel
theorem dX1_isLet_0 : decode cX1_isLet 0 = .ok (.iload_n 0, 1) := by decide +kernel
theorem dX1_isLet_1 : decode cX1_isLet 1 = .ok (.iconst 3, 1) := by decide +kernel
theorem dX1_isLet_2 : decode cX1_isLet 2 = .ok (.if_icmp .ne 5, 3) := by decide +kernel
theorem dX1_isLet_5 : decode cX1_isLet 5 = .ok (.iconst 0, 1) := by decide +kernel
theorem dX1_isLet_6 : decode cX1_isLet 6 = .ok (.ireturn, 1) := by decide +kernel
theorem dX1_isLet_7 : decode cX1_isLet 7 = .ok (.iload_n 0, 1) := by decide +kernel
theorem dX1_isLet_8 : decode cX1_isLet 8 = .ok (.iconst 1, 1) := by decide +kernel
theorem dX1_isLet_9 : decode cX1_isLet 9 = .ok (.if_icmp .ne 8, 3) := by decide +kernel
theorem dX1_isLet_12 : decode cX1_isLet 12 = .ok (.iload_n 1, 1) := by decide +kernel
theorem dX1_isLet_13 : decode cX1_isLet 13 = .ok (.iconst 1, 1) := by decide +kernel
theorem dX1_isLet_14 : decode cX1_isLet 14 = .ok (.if_icmp .ne 17, 3) := by decide +kernel
theorem dX1_isLet_17 : decode cX1_isLet 17 = .ok (.iload_n 0, 1) := by decide +kernel
theorem dX1_isLet_18 : decode cX1_isLet 18 = .ok (.iconst 4, 1) := by decide +kernel
theorem dX1_isLet_19 : decode cX1_isLet 19 = .ok (.if_icmp .ne 8, 3) := by decide +kernel
theorem dX1_isLet_22 : decode cX1_isLet 22 = .ok (.iload_n 2, 1) := by decide +kernel
theorem dX1_isLet_23 : decode cX1_isLet 23 = .ok (.iconst 1, 1) := by decide +kernel
theorem dX1_isLet_24 : decode cX1_isLet 24 = .ok (.if_icmp .ne 7, 3) := by decide +kernel
theorem dX1_isLet_27 : decode cX1_isLet 27 = .ok (.iconst 1, 1) := by decide +kernel
theorem dX1_isLet_28 : decode cX1_isLet 28 = .ok (.goto 4, 3) := by decide +kernel
theorem dX1_isLet_31 : decode cX1_isLet 31 = .ok (.iconst 0, 1) := by decide +kernel
theorem dX1_isLet_32 : decode cX1_isLet 32 = .ok (.ireturn, 1) := by decide +kernel
theorem dX1_tellWalk_0 : decode cX1_tellWalk 0 = .ok (.aload_n 0, 1) := by decide +kernel
theorem dX1_tellWalk_1 : decode cX1_tellWalk 1 = .ok (.getfield 11, 3) := by decide +kernel
theorem dX1_tellWalk_4 : decode cX1_tellWalk 4 = .ok (.iconst 0, 1) := by decide +kernel
theorem dX1_tellWalk_5 : decode cX1_tellWalk 5 = .ok (.invokestatic 77, 3) := by decide +kernel
theorem dX1_tellWalk_8 : decode cX1_tellWalk 8 = .ok (.aload_n 0, 1) := by decide +kernel
theorem dX1_tellWalk_9 : decode cX1_tellWalk 9 = .ok (.bipush 114, 2) := by decide +kernel
theorem dX1_tellWalk_11 : decode cX1_tellWalk 11 = .ok (.iload_n 3, 1) := by decide +kernel
theorem dX1_tellWalk_12 : decode cX1_tellWalk 12 = .ok (.invokevirtual 49, 3) := by decide +kernel
theorem dX1_tellWalk_15 : decode cX1_tellWalk 15 = .ok (.aload_n 0, 1) := by decide +kernel
theorem dX1_tellWalk_16 : decode cX1_tellWalk 16 = .ok (.bipush 110, 2) := by decide +kernel
theorem dX1_tellWalk_18 : decode cX1_tellWalk 18 = .ok (.iload_n 2, 1) := by decide +kernel
theorem dX1_tellWalk_19 : decode cX1_tellWalk 19 = .ok (.invokevirtual 49, 3) := by decide +kernel
theorem dX1_tellWalk_22 : decode cX1_tellWalk 22 = .ok (.aload_n 0, 1) := by decide +kernel
theorem dX1_tellWalk_23 : decode cX1_tellWalk 23 = .ok (.bipush 116, 2) := by decide +kernel
theorem dX1_tellWalk_25 : decode cX1_tellWalk 25 = .ok (.aload_n 0, 1) := by decide +kernel
theorem dX1_tellWalk_26 : decode cX1_tellWalk 26 = .ok (.getfield 17, 3) := by decide +kernel
theorem dX1_tellWalk_29 : decode cX1_tellWalk 29 = .ok (.getfield 83, 3) := by decide +kernel
theorem dX1_tellWalk_32 : decode cX1_tellWalk 32 = .ok (.iload_n 3, 1) := by decide +kernel
theorem dX1_tellWalk_33 : decode cX1_tellWalk 33 = .ok (.iaload, 1) := by decide +kernel
theorem dX1_tellWalk_34 : decode cX1_tellWalk 34 = .ok (.invokevirtual 49, 3) := by decide +kernel
theorem dX1_tellWalk_37 : decode cX1_tellWalk 37 = .ok (.aload_n 0, 1) := by decide +kernel
theorem dX1_tellWalk_38 : decode cX1_tellWalk 38 = .ok (.bipush 103, 2) := by decide +kernel
theorem dX1_tellWalk_40 : decode cX1_tellWalk 40 = .ok (.iload_n 1, 1) := by decide +kernel
theorem dX1_tellWalk_41 : decode cX1_tellWalk 41 = .ok (.invokevirtual 49, 3) := by decide +kernel
theorem dX1_tellWalk_44 : decode cX1_tellWalk 44 = .ok (.aload_n 0, 1) := by decide +kernel
theorem dX1_tellWalk_45 : decode cX1_tellWalk 45 = .ok (.bipush 109, 2) := by decide +kernel
theorem dX1_tellWalk_47 : decode cX1_tellWalk 47 = .ok (.aload_n 0, 1) := by decide +kernel
theorem dX1_tellWalk_48 : decode cX1_tellWalk 48 = .ok (.getfield 17, 3) := by decide +kernel
theorem dX1_tellWalk_51 : decode cX1_tellWalk 51 = .ok (.getfield 86, 3) := by decide +kernel
theorem dX1_tellWalk_54 : decode cX1_tellWalk 54 = .ok (.iload_n 1, 1) := by decide +kernel
theorem dX1_tellWalk_55 : decode cX1_tellWalk 55 = .ok (.iaload, 1) := by decide +kernel
theorem dX1_tellWalk_56 : decode cX1_tellWalk 56 = .ok (.invokevirtual 49, 3) := by decide +kernel
theorem dX1_tellWalk_59 : decode cX1_tellWalk 59 = .ok (.aload_n 0, 1) := by decide +kernel
theorem dX1_tellWalk_60 : decode cX1_tellWalk 60 = .ok (.bipush 99, 2) := by decide +kernel
theorem dX1_tellWalk_62 : decode cX1_tellWalk 62 = .ok (.aload_n 0, 1) := by decide +kernel
theorem dX1_tellWalk_63 : decode cX1_tellWalk 63 = .ok (.getfield 17, 3) := by decide +kernel
theorem dX1_tellWalk_66 : decode cX1_tellWalk 66 = .ok (.getfield 89, 3) := by decide +kernel
theorem dX1_tellWalk_69 : decode cX1_tellWalk 69 = .ok (.iload_n 1, 1) := by decide +kernel
theorem dX1_tellWalk_70 : decode cX1_tellWalk 70 = .ok (.iaload, 1) := by decide +kernel
theorem dX1_tellWalk_71 : decode cX1_tellWalk 71 = .ok (.invokevirtual 49, 3) := by decide +kernel
theorem dX1_tellWalk_74 : decode cX1_tellWalk 74 = .ok (.aload_n 0, 1) := by decide +kernel
theorem dX1_tellWalk_75 : decode cX1_tellWalk 75 = .ok (.bipush 121, 2) := by decide +kernel
theorem dX1_tellWalk_77 : decode cX1_tellWalk 77 = .ok (.aload_n 0, 1) := by decide +kernel
theorem dX1_tellWalk_78 : decode cX1_tellWalk 78 = .ok (.getfield 17, 3) := by decide +kernel
theorem dX1_tellWalk_81 : decode cX1_tellWalk 81 = .ok (.getfield 92, 3) := by decide +kernel
theorem dX1_tellWalk_84 : decode cX1_tellWalk 84 = .ok (.iload_n 1, 1) := by decide +kernel
theorem dX1_tellWalk_85 : decode cX1_tellWalk 85 = .ok (.iaload, 1) := by decide +kernel
theorem dX1_tellWalk_86 : decode cX1_tellWalk 86 = .ok (.invokevirtual 49, 3) := by decide +kernel
theorem dX1_tellWalk_89 : decode cX1_tellWalk 89 = .ok (.aload_n 0, 1) := by decide +kernel
theorem dX1_tellWalk_90 : decode cX1_tellWalk 90 = .ok (.bipush 104, 2) := by decide +kernel
theorem dX1_tellWalk_92 : decode cX1_tellWalk 92 = .ok (.iload 4, 2) := by decide +kernel
theorem dX1_tellWalk_94 : decode cX1_tellWalk 94 = .ok (.invokevirtual 49, 3) := by decide +kernel
theorem dX1_tellWalk_97 : decode cX1_tellWalk 97 = .ok (.return_, 1) := by decide +kernel
theorem dX1_tellLetter_0 : decode cX1_tellLetter 0 = .ok (.aload_n 0, 1) := by decide +kernel
theorem dX1_tellLetter_1 : decode cX1_tellLetter 1 = .ok (.getfield 11, 3) := by decide +kernel
theorem dX1_tellLetter_4 : decode cX1_tellLetter 4 = .ok (.iload_n 1, 1) := by decide +kernel
theorem dX1_tellLetter_5 : decode cX1_tellLetter 5 = .ok (.bipush 97, 2) := by decide +kernel
theorem dX1_tellLetter_7 : decode cX1_tellLetter 7 = .ok (.isub, 1) := by decide +kernel
theorem dX1_tellLetter_8 : decode cX1_tellLetter 8 = .ok (.iload_n 2, 1) := by decide +kernel
theorem dX1_tellLetter_9 : decode cX1_tellLetter 9 = .ok (.iastore, 1) := by decide +kernel
theorem dX1_tellLetter_10 : decode cX1_tellLetter 10 = .ok (.return_, 1) := by decide +kernel
theorem dX2_init_0 : decode cX2_init 0 = .ok (.aload_n 0, 1) := by decide +kernel
theorem dX2_init_1 : decode cX2_init 1 = .ok (.invokespecial 3, 3) := by decide +kernel
theorem dX2_init_4 : decode cX2_init 4 = .ok (.aload_n 0, 1) := by decide +kernel
theorem dX2_init_5 : decode cX2_init 5 = .ok (.bipush 12, 2) := by decide +kernel
theorem dX2_init_7 : decode cX2_init 7 = .ok (.newarray .int, 2) := by decide +kernel
theorem dX2_init_9 : decode cX2_init 9 = .ok (.putfield 9, 3) := by decide +kernel
theorem dX2_init_12 : decode cX2_init 12 = .ok (.aload_n 0, 1) := by decide +kernel
theorem dX2_init_13 : decode cX2_init 13 = .ok (.bipush 70, 2) := by decide +kernel
theorem dX2_init_15 : decode cX2_init 15 = .ok (.newarray .int, 2) := by decide +kernel
theorem dX2_init_17 : decode cX2_init 17 = .ok (.putfield 15, 3) := by decide +kernel
theorem dX2_init_20 : decode cX2_init 20 = .ok (.aload_n 0, 1) := by decide +kernel
theorem dX2_init_21 : decode cX2_init 21 = .ok (.bipush 10, 2) := by decide +kernel
theorem dX2_init_23 : decode cX2_init 23 = .ok (.newarray .int, 2) := by decide +kernel
theorem dX2_init_25 : decode cX2_init 25 = .ok (.putfield 18, 3) := by decide +kernel
theorem dX2_init_28 : decode cX2_init 28 = .ok (.aload_n 0, 1) := by decide +kernel
theorem dX2_init_29 : decode cX2_init 29 = .ok (.bipush 10, 2) := by decide +kernel
theorem dX2_init_31 : decode cX2_init 31 = .ok (.newarray .int, 2) := by decide +kernel
theorem dX2_init_33 : decode cX2_init 33 = .ok (.putfield 21, 3) := by decide +kernel
theorem dX2_init_36 : decode cX2_init 36 = .ok (.aload_n 0, 1) := by decide +kernel
theorem dX2_init_37 : decode cX2_init 37 = .ok (.bipush 10, 2) := by decide +kernel
theorem dX2_init_39 : decode cX2_init 39 = .ok (.newarray .int, 2) := by decide +kernel
theorem dX2_init_41 : decode cX2_init 41 = .ok (.putfield 24, 3) := by decide +kernel
theorem dX2_init_44 : decode cX2_init 44 = .ok (.aload_n 0, 1) := by decide +kernel
theorem dX2_init_45 : decode cX2_init 45 = .ok (.bipush 10, 2) := by decide +kernel
theorem dX2_init_47 : decode cX2_init 47 = .ok (.newarray .int, 2) := by decide +kernel
theorem dX2_init_49 : decode cX2_init 49 = .ok (.putfield 27, 3) := by decide +kernel
theorem dX2_init_52 : decode cX2_init 52 = .ok (.aload_n 0, 1) := by decide +kernel
theorem dX2_init_53 : decode cX2_init 53 = .ok (.bipush 10, 2) := by decide +kernel
theorem dX2_init_55 : decode cX2_init 55 = .ok (.newarray .int, 2) := by decide +kernel
theorem dX2_init_57 : decode cX2_init 57 = .ok (.putfield 30, 3) := by decide +kernel
theorem dX2_init_60 : decode cX2_init 60 = .ok (.aload_n 0, 1) := by decide +kernel
theorem dX2_init_61 : decode cX2_init 61 = .ok (.bipush 40, 2) := by decide +kernel
theorem dX2_init_63 : decode cX2_init 63 = .ok (.newarray .int, 2) := by decide +kernel
theorem dX2_init_65 : decode cX2_init 65 = .ok (.putfield 33, 3) := by decide +kernel
theorem dX2_init_68 : decode cX2_init 68 = .ok (.aload_n 0, 1) := by decide +kernel
theorem dX2_init_69 : decode cX2_init 69 = .ok (.iconst (-1), 1) := by decide +kernel
theorem dX2_init_70 : decode cX2_init 70 = .ok (.putfield 36, 3) := by decide +kernel
theorem dX2_init_73 : decode cX2_init 73 = .ok (.aload_n 0, 1) := by decide +kernel
theorem dX2_init_74 : decode cX2_init 74 = .ok (.iconst 1, 1) := by decide +kernel
theorem dX2_init_75 : decode cX2_init 75 = .ok (.putfield 40, 3) := by decide +kernel
theorem dX2_init_78 : decode cX2_init 78 = .ok (.return_, 1) := by decide +kernel
theorem dX2_hasGhost_0 : decode cX2_hasGhost 0 = .ok (.iload_n 1, 1) := by decide +kernel
theorem dX2_hasGhost_1 : decode cX2_hasGhost 1 = .ok (.ifCond .lt 25, 3) := by decide +kernel
theorem dX2_hasGhost_4 : decode cX2_hasGhost 4 = .ok (.iload_n 1, 1) := by decide +kernel
theorem dX2_hasGhost_5 : decode cX2_hasGhost 5 = .ok (.bipush 10, 2) := by decide +kernel
theorem dX2_hasGhost_7 : decode cX2_hasGhost 7 = .ok (.if_icmp .ge 19, 3) := by decide +kernel
theorem dX2_hasGhost_10 : decode cX2_hasGhost 10 = .ok (.aload_n 0, 1) := by decide +kernel
theorem dX2_hasGhost_11 : decode cX2_hasGhost 11 = .ok (.getfield 43, 3) := by decide +kernel
theorem dX2_hasGhost_14 : decode cX2_hasGhost 14 = .ok (.iload_n 1, 1) := by decide +kernel
theorem dX2_hasGhost_15 : decode cX2_hasGhost 15 = .ok (.ishr, 1) := by decide +kernel
theorem dX2_hasGhost_16 : decode cX2_hasGhost 16 = .ok (.iconst 1, 1) := by decide +kernel
theorem dX2_hasGhost_17 : decode cX2_hasGhost 17 = .ok (.iand, 1) := by decide +kernel
theorem dX2_hasGhost_18 : decode cX2_hasGhost 18 = .ok (.iconst 1, 1) := by decide +kernel
theorem dX2_hasGhost_19 : decode cX2_hasGhost 19 = .ok (.if_icmp .ne 7, 3) := by decide +kernel
theorem dX2_hasGhost_22 : decode cX2_hasGhost 22 = .ok (.iconst 1, 1) := by decide +kernel
theorem dX2_hasGhost_23 : decode cX2_hasGhost 23 = .ok (.goto 4, 3) := by decide +kernel
theorem dX2_hasGhost_26 : decode cX2_hasGhost 26 = .ok (.iconst 0, 1) := by decide +kernel
theorem dX2_hasGhost_27 : decode cX2_hasGhost 27 = .ok (.ireturn, 1) := by decide +kernel
theorem dX2_hasSleeper_0 : decode cX2_hasSleeper 0 = .ok (.iload_n 1, 1) := by decide +kernel
theorem dX2_hasSleeper_1 : decode cX2_hasSleeper 1 = .ok (.ifCond .lt 25, 3) := by decide +kernel
theorem dX2_hasSleeper_4 : decode cX2_hasSleeper 4 = .ok (.iload_n 1, 1) := by decide +kernel
theorem dX2_hasSleeper_5 : decode cX2_hasSleeper 5 = .ok (.bipush 10, 2) := by decide +kernel
theorem dX2_hasSleeper_7 : decode cX2_hasSleeper 7 = .ok (.if_icmp .ge 19, 3) := by decide +kernel
theorem dX2_hasSleeper_10 : decode cX2_hasSleeper 10 = .ok (.aload_n 0, 1) := by decide +kernel
theorem dX2_hasSleeper_11 : decode cX2_hasSleeper 11 = .ok (.getfield 46, 3) := by decide +kernel
theorem dX2_hasSleeper_14 : decode cX2_hasSleeper 14 = .ok (.iload_n 1, 1) := by decide +kernel
theorem dX2_hasSleeper_15 : decode cX2_hasSleeper 15 = .ok (.ishr, 1) := by decide +kernel
theorem dX2_hasSleeper_16 : decode cX2_hasSleeper 16 = .ok (.iconst 1, 1) := by decide +kernel
theorem dX2_hasSleeper_17 : decode cX2_hasSleeper 17 = .ok (.iand, 1) := by decide +kernel
theorem dX2_hasSleeper_18 : decode cX2_hasSleeper 18 = .ok (.iconst 1, 1) := by decide +kernel
theorem dX2_hasSleeper_19 : decode cX2_hasSleeper 19 = .ok (.if_icmp .ne 7, 3) := by decide +kernel
theorem dX2_hasSleeper_22 : decode cX2_hasSleeper 22 = .ok (.iconst 1, 1) := by decide +kernel
theorem dX2_hasSleeper_23 : decode cX2_hasSleeper 23 = .ok (.goto 4, 3) := by decide +kernel
theorem dX2_hasSleeper_26 : decode cX2_hasSleeper 26 = .ok (.iconst 0, 1) := by decide +kernel
theorem dX2_hasSleeper_27 : decode cX2_hasSleeper 27 = .ok (.ireturn, 1) := by decide +kernel
theorem dX2_tellSleeper_0 : decode cX2_tellSleeper 0 = .ok (.aload_n 0, 1) := by decide +kernel
theorem dX2_tellSleeper_1 : decode cX2_tellSleeper 1 = .ok (.dup, 1) := by decide +kernel
theorem dX2_tellSleeper_2 : decode cX2_tellSleeper 2 = .ok (.getfield 46, 3) := by decide +kernel
theorem dX2_tellSleeper_5 : decode cX2_tellSleeper 5 = .ok (.iconst 1, 1) := by decide +kernel
theorem dX2_tellSleeper_6 : decode cX2_tellSleeper 6 = .ok (.iload_n 1, 1) := by decide +kernel
theorem dX2_tellSleeper_7 : decode cX2_tellSleeper 7 = .ok (.ishl, 1) := by decide +kernel
theorem dX2_tellSleeper_8 : decode cX2_tellSleeper 8 = .ok (.ior, 1) := by decide +kernel
theorem dX2_tellSleeper_9 : decode cX2_tellSleeper 9 = .ok (.putfield 46, 3) := by decide +kernel
theorem dX2_tellSleeper_12 : decode cX2_tellSleeper 12 = .ok (.aload_n 0, 1) := by decide +kernel
theorem dX2_tellSleeper_13 : decode cX2_tellSleeper 13 = .ok (.getfield 18, 3) := by decide +kernel
theorem dX2_tellSleeper_16 : decode cX2_tellSleeper 16 = .ok (.iload_n 1, 1) := by decide +kernel
theorem dX2_tellSleeper_17 : decode cX2_tellSleeper 17 = .ok (.iload_n 2, 1) := by decide +kernel
theorem dX2_tellSleeper_18 : decode cX2_tellSleeper 18 = .ok (.iastore, 1) := by decide +kernel
theorem dX2_tellSleeper_19 : decode cX2_tellSleeper 19 = .ok (.aload_n 0, 1) := by decide +kernel
theorem dX2_tellSleeper_20 : decode cX2_tellSleeper 20 = .ok (.getfield 33, 3) := by decide +kernel
theorem dX2_tellSleeper_23 : decode cX2_tellSleeper 23 = .ok (.bipush 10, 2) := by decide +kernel
theorem dX2_tellSleeper_25 : decode cX2_tellSleeper 25 = .ok (.iload_n 1, 1) := by decide +kernel
theorem dX2_tellSleeper_26 : decode cX2_tellSleeper 26 = .ok (.iadd, 1) := by decide +kernel
theorem dX2_tellSleeper_27 : decode cX2_tellSleeper 27 = .ok (.iconst 0, 1) := by decide +kernel
theorem dX2_tellSleeper_28 : decode cX2_tellSleeper 28 = .ok (.iastore, 1) := by decide +kernel
theorem dX2_tellSleeper_29 : decode cX2_tellSleeper 29 = .ok (.iconst 0, 1) := by decide +kernel
theorem dX2_tellSleeper_30 : decode cX2_tellSleeper 30 = .ok (.istore_n 3, 1) := by decide +kernel
theorem dX2_tellSleeper_31 : decode cX2_tellSleeper 31 = .ok (.iload_n 3, 1) := by decide +kernel
theorem dX2_tellSleeper_32 : decode cX2_tellSleeper 32 = .ok (.bipush 7, 2) := by decide +kernel
theorem dX2_tellSleeper_34 : decode cX2_tellSleeper 34 = .ok (.if_icmp .ge 23, 3) := by decide +kernel
theorem dX2_tellSleeper_37 : decode cX2_tellSleeper 37 = .ok (.aload_n 0, 1) := by decide +kernel
theorem dX2_tellSleeper_38 : decode cX2_tellSleeper 38 = .ok (.getfield 15, 3) := by decide +kernel
theorem dX2_tellSleeper_41 : decode cX2_tellSleeper 41 = .ok (.iload_n 3, 1) := by decide +kernel
theorem dX2_tellSleeper_42 : decode cX2_tellSleeper 42 = .ok (.bipush 10, 2) := by decide +kernel
theorem dX2_tellSleeper_44 : decode cX2_tellSleeper 44 = .ok (.imul, 1) := by decide +kernel
theorem dX2_tellSleeper_45 : decode cX2_tellSleeper 45 = .ok (.iload_n 1, 1) := by decide +kernel
theorem dX2_tellSleeper_46 : decode cX2_tellSleeper 46 = .ok (.iadd, 1) := by decide +kernel
theorem dX2_tellSleeper_47 : decode cX2_tellSleeper 47 = .ok (.sipush 255, 3) := by decide +kernel
theorem dX2_tellSleeper_50 : decode cX2_tellSleeper 50 = .ok (.iastore, 1) := by decide +kernel
theorem dX2_tellSleeper_51 : decode cX2_tellSleeper 51 = .ok (.iinc 3 1, 3) := by decide +kernel
theorem dX2_tellSleeper_54 : decode cX2_tellSleeper 54 = .ok (.goto (-23), 3) := by decide +kernel
theorem dX2_tellSleeper_57 : decode cX2_tellSleeper 57 = .ok (.return_, 1) := by decide +kernel
theorem dX2_tellGhost_0 : decode cX2_tellGhost 0 = .ok (.aload_n 0, 1) := by decide +kernel
theorem dX2_tellGhost_1 : decode cX2_tellGhost 1 = .ok (.dup, 1) := by decide +kernel
theorem dX2_tellGhost_2 : decode cX2_tellGhost 2 = .ok (.getfield 43, 3) := by decide +kernel
theorem dX2_tellGhost_5 : decode cX2_tellGhost 5 = .ok (.iconst 1, 1) := by decide +kernel
theorem dX2_tellGhost_6 : decode cX2_tellGhost 6 = .ok (.iload_n 1, 1) := by decide +kernel
theorem dX2_tellGhost_7 : decode cX2_tellGhost 7 = .ok (.ishl, 1) := by decide +kernel
theorem dX2_tellGhost_8 : decode cX2_tellGhost 8 = .ok (.ior, 1) := by decide +kernel
theorem dX2_tellGhost_9 : decode cX2_tellGhost 9 = .ok (.putfield 43, 3) := by decide +kernel
theorem dX2_tellGhost_12 : decode cX2_tellGhost 12 = .ok (.aload_n 0, 1) := by decide +kernel
theorem dX2_tellGhost_13 : decode cX2_tellGhost 13 = .ok (.getfield 21, 3) := by decide +kernel
theorem dX2_tellGhost_16 : decode cX2_tellGhost 16 = .ok (.iload_n 1, 1) := by decide +kernel
theorem dX2_tellGhost_17 : decode cX2_tellGhost 17 = .ok (.iload_n 2, 1) := by decide +kernel
theorem dX2_tellGhost_18 : decode cX2_tellGhost 18 = .ok (.iastore, 1) := by decide +kernel
theorem dX2_tellGhost_19 : decode cX2_tellGhost 19 = .ok (.aload_n 0, 1) := by decide +kernel
theorem dX2_tellGhost_20 : decode cX2_tellGhost 20 = .ok (.getfield 24, 3) := by decide +kernel
theorem dX2_tellGhost_23 : decode cX2_tellGhost 23 = .ok (.iload_n 1, 1) := by decide +kernel
theorem dX2_tellGhost_24 : decode cX2_tellGhost 24 = .ok (.iload_n 3, 1) := by decide +kernel
theorem dX2_tellGhost_25 : decode cX2_tellGhost 25 = .ok (.iastore, 1) := by decide +kernel
theorem dX2_tellGhost_26 : decode cX2_tellGhost 26 = .ok (.aload_n 0, 1) := by decide +kernel
theorem dX2_tellGhost_27 : decode cX2_tellGhost 27 = .ok (.getfield 27, 3) := by decide +kernel
theorem dX2_tellGhost_30 : decode cX2_tellGhost 30 = .ok (.iload_n 1, 1) := by decide +kernel
theorem dX2_tellGhost_31 : decode cX2_tellGhost 31 = .ok (.iload 4, 2) := by decide +kernel
theorem dX2_tellGhost_33 : decode cX2_tellGhost 33 = .ok (.iastore, 1) := by decide +kernel
theorem dX2_tellGhost_34 : decode cX2_tellGhost 34 = .ok (.aload_n 0, 1) := by decide +kernel
theorem dX2_tellGhost_35 : decode cX2_tellGhost 35 = .ok (.getfield 30, 3) := by decide +kernel
theorem dX2_tellGhost_38 : decode cX2_tellGhost 38 = .ok (.iload_n 1, 1) := by decide +kernel
theorem dX2_tellGhost_39 : decode cX2_tellGhost 39 = .ok (.iload 5, 2) := by decide +kernel
theorem dX2_tellGhost_41 : decode cX2_tellGhost 41 = .ok (.iastore, 1) := by decide +kernel
theorem dX2_tellGhost_42 : decode cX2_tellGhost 42 = .ok (.aload_n 0, 1) := by decide +kernel
theorem dX2_tellGhost_43 : decode cX2_tellGhost 43 = .ok (.getfield 33, 3) := by decide +kernel
theorem dX2_tellGhost_46 : decode cX2_tellGhost 46 = .ok (.bipush 20, 2) := by decide +kernel
theorem dX2_tellGhost_48 : decode cX2_tellGhost 48 = .ok (.iload_n 1, 1) := by decide +kernel
theorem dX2_tellGhost_49 : decode cX2_tellGhost 49 = .ok (.iadd, 1) := by decide +kernel
theorem dX2_tellGhost_50 : decode cX2_tellGhost 50 = .ok (.iconst 0, 1) := by decide +kernel
theorem dX2_tellGhost_51 : decode cX2_tellGhost 51 = .ok (.iastore, 1) := by decide +kernel
theorem dX2_tellGhost_52 : decode cX2_tellGhost 52 = .ok (.aload_n 0, 1) := by decide +kernel
theorem dX2_tellGhost_53 : decode cX2_tellGhost 53 = .ok (.getfield 33, 3) := by decide +kernel
theorem dX2_tellGhost_56 : decode cX2_tellGhost 56 = .ok (.bipush 30, 2) := by decide +kernel
theorem dX2_tellGhost_58 : decode cX2_tellGhost 58 = .ok (.iload_n 1, 1) := by decide +kernel
theorem dX2_tellGhost_59 : decode cX2_tellGhost 59 = .ok (.iadd, 1) := by decide +kernel
theorem dX2_tellGhost_60 : decode cX2_tellGhost 60 = .ok (.iconst 0, 1) := by decide +kernel
theorem dX2_tellGhost_61 : decode cX2_tellGhost 61 = .ok (.iastore, 1) := by decide +kernel
theorem dX2_tellGhost_62 : decode cX2_tellGhost 62 = .ok (.return_, 1) := by decide +kernel
theorem dX2_rankOf_0 : decode cX2_rankOf 0 = .ok (.aload_n 0, 1) := by decide +kernel
theorem dX2_rankOf_1 : decode cX2_rankOf 1 = .ok (.getfield 43, 3) := by decide +kernel
theorem dX2_rankOf_4 : decode cX2_rankOf 4 = .ok (.iconst 1, 1) := by decide +kernel
theorem dX2_rankOf_5 : decode cX2_rankOf 5 = .ok (.iload_n 1, 1) := by decide +kernel
theorem dX2_rankOf_6 : decode cX2_rankOf 6 = .ok (.ishl, 1) := by decide +kernel
theorem dX2_rankOf_7 : decode cX2_rankOf 7 = .ok (.iconst 1, 1) := by decide +kernel
theorem dX2_rankOf_8 : decode cX2_rankOf 8 = .ok (.isub, 1) := by decide +kernel
theorem dX2_rankOf_9 : decode cX2_rankOf 9 = .ok (.iand, 1) := by decide +kernel
theorem dX2_rankOf_10 : decode cX2_rankOf 10 = .ok (.invokestatic 49, 3) := by decide +kernel
theorem dX2_rankOf_13 : decode cX2_rankOf 13 = .ok (.ireturn, 1) := by decide +kernel
theorem dX2_companyOf_0 : decode cX2_companyOf 0 = .ok (.aload_n 0, 1) := by decide +kernel
theorem dX2_companyOf_1 : decode cX2_companyOf 1 = .ok (.getfield 15, 3) := by decide +kernel
theorem dX2_companyOf_4 : decode cX2_companyOf 4 = .ok (.iload_n 2, 1) := by decide +kernel
theorem dX2_companyOf_5 : decode cX2_companyOf 5 = .ok (.bipush 10, 2) := by decide +kernel
theorem dX2_companyOf_7 : decode cX2_companyOf 7 = .ok (.imul, 1) := by decide +kernel
theorem dX2_companyOf_8 : decode cX2_companyOf 8 = .ok (.iload_n 1, 1) := by decide +kernel
theorem dX2_companyOf_9 : decode cX2_companyOf 9 = .ok (.iadd, 1) := by decide +kernel
theorem dX2_companyOf_10 : decode cX2_companyOf 10 = .ok (.iaload, 1) := by decide +kernel
theorem dX2_companyOf_11 : decode cX2_companyOf 11 = .ok (.istore_n 3, 1) := by decide +kernel
theorem dX2_companyOf_12 : decode cX2_companyOf 12 = .ok (.iconst 0, 1) := by decide +kernel
theorem dX2_companyOf_13 : decode cX2_companyOf 13 = .ok (.istore 4, 2) := by decide +kernel
theorem dX2_companyOf_15 : decode cX2_companyOf 15 = .ok (.iconst 0, 1) := by decide +kernel
theorem dX2_companyOf_16 : decode cX2_companyOf 16 = .ok (.istore 5, 2) := by decide +kernel
theorem dX2_companyOf_18 : decode cX2_companyOf 18 = .ok (.iload 5, 2) := by decide +kernel
theorem dX2_companyOf_20 : decode cX2_companyOf 20 = .ok (.bipush 10, 2) := by decide +kernel
theorem dX2_companyOf_22 : decode cX2_companyOf 22 = .ok (.if_icmp .ge 37, 3) := by decide +kernel
theorem dX2_companyOf_25 : decode cX2_companyOf 25 = .ok (.aload_n 0, 1) := by decide +kernel
theorem dX2_companyOf_26 : decode cX2_companyOf 26 = .ok (.iload 5, 2) := by decide +kernel
theorem dX2_companyOf_28 : decode cX2_companyOf 28 = .ok (.invokevirtual 55, 3) := by decide +kernel
theorem dX2_companyOf_31 : decode cX2_companyOf 31 = .ok (.ifCond .eq 22, 3) := by decide +kernel
theorem dX2_companyOf_34 : decode cX2_companyOf 34 = .ok (.aload_n 0, 1) := by decide +kernel
theorem dX2_companyOf_35 : decode cX2_companyOf 35 = .ok (.getfield 15, 3) := by decide +kernel
theorem dX2_companyOf_38 : decode cX2_companyOf 38 = .ok (.iload_n 2, 1) := by decide +kernel
theorem dX2_companyOf_39 : decode cX2_companyOf 39 = .ok (.bipush 10, 2) := by decide +kernel
theorem dX2_companyOf_41 : decode cX2_companyOf 41 = .ok (.imul, 1) := by decide +kernel
theorem dX2_companyOf_42 : decode cX2_companyOf 42 = .ok (.iload 5, 2) := by decide +kernel
theorem dX2_companyOf_44 : decode cX2_companyOf 44 = .ok (.iadd, 1) := by decide +kernel
theorem dX2_companyOf_45 : decode cX2_companyOf 45 = .ok (.iaload, 1) := by decide +kernel
theorem dX2_companyOf_46 : decode cX2_companyOf 46 = .ok (.iload_n 3, 1) := by decide +kernel
theorem dX2_companyOf_47 : decode cX2_companyOf 47 = .ok (.if_icmp .ne 6, 3) := by decide +kernel
theorem dX2_companyOf_50 : decode cX2_companyOf 50 = .ok (.iinc 4 1, 3) := by decide +kernel
theorem dX2_companyOf_53 : decode cX2_companyOf 53 = .ok (.iinc 5 1, 3) := by decide +kernel
theorem dX2_companyOf_56 : decode cX2_companyOf 56 = .ok (.goto (-38), 3) := by decide +kernel
theorem dX2_companyOf_59 : decode cX2_companyOf 59 = .ok (.iload 4, 2) := by decide +kernel
theorem dX2_companyOf_61 : decode cX2_companyOf 61 = .ok (.ireturn, 1) := by decide +kernel
theorem dX2_copy_0 : decode cX2_copy 0 = .ok (.aload_n 1, 1) := by decide +kernel
theorem dX2_copy_1 : decode cX2_copy 1 = .ok (.getfield 9, 3) := by decide +kernel
theorem dX2_copy_4 : decode cX2_copy 4 = .ok (.iconst 0, 1) := by decide +kernel
theorem dX2_copy_5 : decode cX2_copy 5 = .ok (.aload_n 0, 1) := by decide +kernel
theorem dX2_copy_6 : decode cX2_copy 6 = .ok (.getfield 9, 3) := by decide +kernel
theorem dX2_copy_9 : decode cX2_copy 9 = .ok (.iconst 0, 1) := by decide +kernel
theorem dX2_copy_10 : decode cX2_copy 10 = .ok (.bipush 12, 2) := by decide +kernel
theorem dX2_copy_12 : decode cX2_copy 12 = .ok (.invokestatic 59, 3) := by decide +kernel
theorem dX2_copy_15 : decode cX2_copy 15 = .ok (.aload_n 1, 1) := by decide +kernel
theorem dX2_copy_16 : decode cX2_copy 16 = .ok (.getfield 15, 3) := by decide +kernel
theorem dX2_copy_19 : decode cX2_copy 19 = .ok (.iconst 0, 1) := by decide +kernel
theorem dX2_copy_20 : decode cX2_copy 20 = .ok (.aload_n 0, 1) := by decide +kernel
theorem dX2_copy_21 : decode cX2_copy 21 = .ok (.getfield 15, 3) := by decide +kernel
theorem dX2_copy_24 : decode cX2_copy 24 = .ok (.iconst 0, 1) := by decide +kernel
theorem dX2_copy_25 : decode cX2_copy 25 = .ok (.bipush 70, 2) := by decide +kernel
theorem dX2_copy_27 : decode cX2_copy 27 = .ok (.invokestatic 59, 3) := by decide +kernel
theorem dX2_copy_30 : decode cX2_copy 30 = .ok (.aload_n 1, 1) := by decide +kernel
theorem dX2_copy_31 : decode cX2_copy 31 = .ok (.getfield 18, 3) := by decide +kernel
theorem dX2_copy_34 : decode cX2_copy 34 = .ok (.iconst 0, 1) := by decide +kernel
theorem dX2_copy_35 : decode cX2_copy 35 = .ok (.aload_n 0, 1) := by decide +kernel
theorem dX2_copy_36 : decode cX2_copy 36 = .ok (.getfield 18, 3) := by decide +kernel
theorem dX2_copy_39 : decode cX2_copy 39 = .ok (.iconst 0, 1) := by decide +kernel
theorem dX2_copy_40 : decode cX2_copy 40 = .ok (.bipush 10, 2) := by decide +kernel
theorem dX2_copy_42 : decode cX2_copy 42 = .ok (.invokestatic 59, 3) := by decide +kernel
theorem dX2_copy_45 : decode cX2_copy 45 = .ok (.aload_n 1, 1) := by decide +kernel
theorem dX2_copy_46 : decode cX2_copy 46 = .ok (.getfield 21, 3) := by decide +kernel
theorem dX2_copy_49 : decode cX2_copy 49 = .ok (.iconst 0, 1) := by decide +kernel
theorem dX2_copy_50 : decode cX2_copy 50 = .ok (.aload_n 0, 1) := by decide +kernel
theorem dX2_copy_51 : decode cX2_copy 51 = .ok (.getfield 21, 3) := by decide +kernel
theorem dX2_copy_54 : decode cX2_copy 54 = .ok (.iconst 0, 1) := by decide +kernel
theorem dX2_copy_55 : decode cX2_copy 55 = .ok (.bipush 10, 2) := by decide +kernel
theorem dX2_copy_57 : decode cX2_copy 57 = .ok (.invokestatic 59, 3) := by decide +kernel
theorem dX2_copy_60 : decode cX2_copy 60 = .ok (.aload_n 1, 1) := by decide +kernel
theorem dX2_copy_61 : decode cX2_copy 61 = .ok (.getfield 24, 3) := by decide +kernel
theorem dX2_copy_64 : decode cX2_copy 64 = .ok (.iconst 0, 1) := by decide +kernel
theorem dX2_copy_65 : decode cX2_copy 65 = .ok (.aload_n 0, 1) := by decide +kernel
theorem dX2_copy_66 : decode cX2_copy 66 = .ok (.getfield 24, 3) := by decide +kernel
theorem dX2_copy_69 : decode cX2_copy 69 = .ok (.iconst 0, 1) := by decide +kernel
theorem dX2_copy_70 : decode cX2_copy 70 = .ok (.bipush 10, 2) := by decide +kernel
theorem dX2_copy_72 : decode cX2_copy 72 = .ok (.invokestatic 59, 3) := by decide +kernel
theorem dX2_copy_75 : decode cX2_copy 75 = .ok (.aload_n 1, 1) := by decide +kernel
theorem dX2_copy_76 : decode cX2_copy 76 = .ok (.getfield 27, 3) := by decide +kernel
theorem dX2_copy_79 : decode cX2_copy 79 = .ok (.iconst 0, 1) := by decide +kernel
theorem dX2_copy_80 : decode cX2_copy 80 = .ok (.aload_n 0, 1) := by decide +kernel
theorem dX2_copy_81 : decode cX2_copy 81 = .ok (.getfield 27, 3) := by decide +kernel
theorem dX2_copy_84 : decode cX2_copy 84 = .ok (.iconst 0, 1) := by decide +kernel
theorem dX2_copy_85 : decode cX2_copy 85 = .ok (.bipush 10, 2) := by decide +kernel
theorem dX2_copy_87 : decode cX2_copy 87 = .ok (.invokestatic 59, 3) := by decide +kernel
theorem dX2_copy_90 : decode cX2_copy 90 = .ok (.aload_n 1, 1) := by decide +kernel
theorem dX2_copy_91 : decode cX2_copy 91 = .ok (.getfield 30, 3) := by decide +kernel
theorem dX2_copy_94 : decode cX2_copy 94 = .ok (.iconst 0, 1) := by decide +kernel
theorem dX2_copy_95 : decode cX2_copy 95 = .ok (.aload_n 0, 1) := by decide +kernel
theorem dX2_copy_96 : decode cX2_copy 96 = .ok (.getfield 30, 3) := by decide +kernel
theorem dX2_copy_99 : decode cX2_copy 99 = .ok (.iconst 0, 1) := by decide +kernel
theorem dX2_copy_100 : decode cX2_copy 100 = .ok (.bipush 10, 2) := by decide +kernel
theorem dX2_copy_102 : decode cX2_copy 102 = .ok (.invokestatic 59, 3) := by decide +kernel
theorem dX2_copy_105 : decode cX2_copy 105 = .ok (.aload_n 1, 1) := by decide +kernel
theorem dX2_copy_106 : decode cX2_copy 106 = .ok (.getfield 33, 3) := by decide +kernel
theorem dX2_copy_109 : decode cX2_copy 109 = .ok (.iconst 0, 1) := by decide +kernel
theorem dX2_copy_110 : decode cX2_copy 110 = .ok (.aload_n 0, 1) := by decide +kernel
theorem dX2_copy_111 : decode cX2_copy 111 = .ok (.getfield 33, 3) := by decide +kernel
theorem dX2_copy_114 : decode cX2_copy 114 = .ok (.iconst 0, 1) := by decide +kernel
theorem dX2_copy_115 : decode cX2_copy 115 = .ok (.bipush 40, 2) := by decide +kernel
theorem dX2_copy_117 : decode cX2_copy 117 = .ok (.invokestatic 59, 3) := by decide +kernel
theorem dX2_copy_120 : decode cX2_copy 120 = .ok (.aload_n 0, 1) := by decide +kernel
theorem dX2_copy_121 : decode cX2_copy 121 = .ok (.aload_n 1, 1) := by decide +kernel
theorem dX2_copy_122 : decode cX2_copy 122 = .ok (.getfield 43, 3) := by decide +kernel
theorem dX2_copy_125 : decode cX2_copy 125 = .ok (.putfield 43, 3) := by decide +kernel
theorem dX2_copy_128 : decode cX2_copy 128 = .ok (.aload_n 0, 1) := by decide +kernel
theorem dX2_copy_129 : decode cX2_copy 129 = .ok (.aload_n 1, 1) := by decide +kernel
theorem dX2_copy_130 : decode cX2_copy 130 = .ok (.getfield 46, 3) := by decide +kernel
theorem dX2_copy_133 : decode cX2_copy 133 = .ok (.putfield 46, 3) := by decide +kernel
theorem dX2_copy_136 : decode cX2_copy 136 = .ok (.aload_n 0, 1) := by decide +kernel
theorem dX2_copy_137 : decode cX2_copy 137 = .ok (.aload_n 1, 1) := by decide +kernel
theorem dX2_copy_138 : decode cX2_copy 138 = .ok (.getfield 65, 3) := by decide +kernel
theorem dX2_copy_141 : decode cX2_copy 141 = .ok (.putfield 65, 3) := by decide +kernel
theorem dX2_copy_144 : decode cX2_copy 144 = .ok (.aload_n 0, 1) := by decide +kernel
theorem dX2_copy_145 : decode cX2_copy 145 = .ok (.aload_n 1, 1) := by decide +kernel
theorem dX2_copy_146 : decode cX2_copy 146 = .ok (.getfield 36, 3) := by decide +kernel
theorem dX2_copy_149 : decode cX2_copy 149 = .ok (.putfield 36, 3) := by decide +kernel
theorem dX2_copy_152 : decode cX2_copy 152 = .ok (.aload_n 0, 1) := by decide +kernel
theorem dX2_copy_153 : decode cX2_copy 153 = .ok (.aload_n 1, 1) := by decide +kernel
theorem dX2_copy_154 : decode cX2_copy 154 = .ok (.getfield 68, 3) := by decide +kernel
theorem dX2_copy_157 : decode cX2_copy 157 = .ok (.putfield 68, 3) := by decide +kernel
theorem dX2_copy_160 : decode cX2_copy 160 = .ok (.aload_n 0, 1) := by decide +kernel
theorem dX2_copy_161 : decode cX2_copy 161 = .ok (.aload_n 1, 1) := by decide +kernel
theorem dX2_copy_162 : decode cX2_copy 162 = .ok (.getfield 40, 3) := by decide +kernel
theorem dX2_copy_165 : decode cX2_copy 165 = .ok (.putfield 40, 3) := by decide +kernel
theorem dX2_copy_168 : decode cX2_copy 168 = .ok (.return_, 1) := by decide +kernel
theorem dX3_init_0 : decode cX3_init 0 = .ok (.aload_n 0, 1) := by decide +kernel
theorem dX3_init_1 : decode cX3_init 1 = .ok (.invokespecial 1, 3) := by decide +kernel
theorem dX3_init_4 : decode cX3_init 4 = .ok (.aload_n 0, 1) := by decide +kernel
theorem dX3_init_5 : decode cX3_init 5 = .ok (.bipush 14, 2) := by decide +kernel
theorem dX3_init_7 : decode cX3_init 7 = .ok (.newarray .int, 2) := by decide +kernel
theorem dX3_init_9 : decode cX3_init 9 = .ok (.putfield 9, 3) := by decide +kernel
theorem dX3_init_12 : decode cX3_init 12 = .ok (.aload_n 0, 1) := by decide +kernel
theorem dX3_init_13 : decode cX3_init 13 = .ok (.bipush 14, 2) := by decide +kernel
theorem dX3_init_15 : decode cX3_init 15 = .ok (.newarray .int, 2) := by decide +kernel
theorem dX3_init_17 : decode cX3_init 17 = .ok (.putfield 13, 3) := by decide +kernel
theorem dX3_init_20 : decode cX3_init 20 = .ok (.aload_n 0, 1) := by decide +kernel
theorem dX3_init_21 : decode cX3_init 21 = .ok (.bipush 14, 2) := by decide +kernel
theorem dX3_init_23 : decode cX3_init 23 = .ok (.newarray .int, 2) := by decide +kernel
theorem dX3_init_25 : decode cX3_init 25 = .ok (.putfield 16, 3) := by decide +kernel
theorem dX3_init_28 : decode cX3_init 28 = .ok (.aload_n 0, 1) := by decide +kernel
theorem dX3_init_29 : decode cX3_init 29 = .ok (.sipush 256, 3) := by decide +kernel
theorem dX3_init_32 : decode cX3_init 32 = .ok (.newarray .int, 2) := by decide +kernel
theorem dX3_init_34 : decode cX3_init 34 = .ok (.putfield 19, 3) := by decide +kernel
theorem dX3_init_37 : decode cX3_init 37 = .ok (.aload_n 0, 1) := by decide +kernel
theorem dX3_init_38 : decode cX3_init 38 = .ok (.sipush 256, 3) := by decide +kernel
theorem dX3_init_41 : decode cX3_init 41 = .ok (.newarray .int, 2) := by decide +kernel
theorem dX3_init_43 : decode cX3_init 43 = .ok (.putfield 22, 3) := by decide +kernel
theorem dX3_init_46 : decode cX3_init 46 = .ok (.aload_n 0, 1) := by decide +kernel
theorem dX3_init_47 : decode cX3_init 47 = .ok (.bipush 32, 2) := by decide +kernel
theorem dX3_init_49 : decode cX3_init 49 = .ok (.newarray .int, 2) := by decide +kernel
theorem dX3_init_51 : decode cX3_init 51 = .ok (.putfield 25, 3) := by decide +kernel
theorem dX3_init_54 : decode cX3_init 54 = .ok (.return_, 1) := by decide +kernel
theorem dX3_clear_0 : decode cX3_clear 0 = .ok (.aload_n 0, 1) := by decide +kernel
theorem dX3_clear_1 : decode cX3_clear 1 = .ok (.iconst 0, 1) := by decide +kernel
theorem dX3_clear_2 : decode cX3_clear 2 = .ok (.putfield 28, 3) := by decide +kernel
theorem dX3_clear_5 : decode cX3_clear 5 = .ok (.aload_n 0, 1) := by decide +kernel
theorem dX3_clear_6 : decode cX3_clear 6 = .ok (.iconst 0, 1) := by decide +kernel
theorem dX3_clear_7 : decode cX3_clear 7 = .ok (.putfield 32, 3) := by decide +kernel
theorem dX3_clear_10 : decode cX3_clear 10 = .ok (.return_, 1) := by decide +kernel
theorem dX3_addClause_0 : decode cX3_addClause 0 = .ok (.aload_n 0, 1) := by decide +kernel
theorem dX3_addClause_1 : decode cX3_addClause 1 = .ok (.getfield 28, 3) := by decide +kernel
theorem dX3_addClause_4 : decode cX3_addClause 4 = .ok (.bipush 14, 2) := by decide +kernel
theorem dX3_addClause_6 : decode cX3_addClause 6 = .ok (.if_icmp .ge 43, 3) := by decide +kernel
theorem dX3_addClause_9 : decode cX3_addClause 9 = .ok (.aload_n 0, 1) := by decide +kernel
theorem dX3_addClause_10 : decode cX3_addClause 10 = .ok (.getfield 9, 3) := by decide +kernel
theorem dX3_addClause_13 : decode cX3_addClause 13 = .ok (.aload_n 0, 1) := by decide +kernel
theorem dX3_addClause_14 : decode cX3_addClause 14 = .ok (.getfield 28, 3) := by decide +kernel
theorem dX3_addClause_17 : decode cX3_addClause 17 = .ok (.iload_n 1, 1) := by decide +kernel
theorem dX3_addClause_18 : decode cX3_addClause 18 = .ok (.iastore, 1) := by decide +kernel
theorem dX3_addClause_19 : decode cX3_addClause 19 = .ok (.aload_n 0, 1) := by decide +kernel
theorem dX3_addClause_20 : decode cX3_addClause 20 = .ok (.getfield 13, 3) := by decide +kernel
theorem dX3_addClause_23 : decode cX3_addClause 23 = .ok (.aload_n 0, 1) := by decide +kernel
theorem dX3_addClause_24 : decode cX3_addClause 24 = .ok (.getfield 28, 3) := by decide +kernel
theorem dX3_addClause_27 : decode cX3_addClause 27 = .ok (.iload_n 2, 1) := by decide +kernel
theorem dX3_addClause_28 : decode cX3_addClause 28 = .ok (.iastore, 1) := by decide +kernel
theorem dX3_addClause_29 : decode cX3_addClause 29 = .ok (.aload_n 0, 1) := by decide +kernel
theorem dX3_addClause_30 : decode cX3_addClause 30 = .ok (.getfield 16, 3) := by decide +kernel
theorem dX3_addClause_33 : decode cX3_addClause 33 = .ok (.aload_n 0, 1) := by decide +kernel
theorem dX3_addClause_34 : decode cX3_addClause 34 = .ok (.getfield 28, 3) := by decide +kernel
theorem dX3_addClause_37 : decode cX3_addClause 37 = .ok (.iload_n 3, 1) := by decide +kernel
theorem dX3_addClause_38 : decode cX3_addClause 38 = .ok (.iastore, 1) := by decide +kernel
theorem dX3_addClause_39 : decode cX3_addClause 39 = .ok (.aload_n 0, 1) := by decide +kernel
theorem dX3_addClause_40 : decode cX3_addClause 40 = .ok (.dup, 1) := by decide +kernel
theorem dX3_addClause_41 : decode cX3_addClause 41 = .ok (.getfield 28, 3) := by decide +kernel
theorem dX3_addClause_44 : decode cX3_addClause 44 = .ok (.iconst 1, 1) := by decide +kernel
theorem dX3_addClause_45 : decode cX3_addClause 45 = .ok (.iadd, 1) := by decide +kernel
theorem dX3_addClause_46 : decode cX3_addClause 46 = .ok (.putfield 28, 3) := by decide +kernel
theorem dX3_addClause_49 : decode cX3_addClause 49 = .ok (.return_, 1) := by decide +kernel
theorem dX3_addStep_0 : decode cX3_addStep 0 = .ok (.aload_n 0, 1) := by decide +kernel
theorem dX3_addStep_1 : decode cX3_addStep 1 = .ok (.getfield 32, 3) := by decide +kernel
theorem dX3_addStep_4 : decode cX3_addStep 4 = .ok (.sipush 256, 3) := by decide +kernel
theorem dX3_addStep_7 : decode cX3_addStep 7 = .ok (.if_icmp .ge 33, 3) := by decide +kernel
theorem dX3_addStep_10 : decode cX3_addStep 10 = .ok (.aload_n 0, 1) := by decide +kernel
theorem dX3_addStep_11 : decode cX3_addStep 11 = .ok (.getfield 19, 3) := by decide +kernel
theorem dX3_addStep_14 : decode cX3_addStep 14 = .ok (.aload_n 0, 1) := by decide +kernel
theorem dX3_addStep_15 : decode cX3_addStep 15 = .ok (.getfield 32, 3) := by decide +kernel
theorem dX3_addStep_18 : decode cX3_addStep 18 = .ok (.iload_n 1, 1) := by decide +kernel
theorem dX3_addStep_19 : decode cX3_addStep 19 = .ok (.iastore, 1) := by decide +kernel
theorem dX3_addStep_20 : decode cX3_addStep 20 = .ok (.aload_n 0, 1) := by decide +kernel
theorem dX3_addStep_21 : decode cX3_addStep 21 = .ok (.getfield 22, 3) := by decide +kernel
theorem dX3_addStep_24 : decode cX3_addStep 24 = .ok (.aload_n 0, 1) := by decide +kernel
theorem dX3_addStep_25 : decode cX3_addStep 25 = .ok (.getfield 32, 3) := by decide +kernel
theorem dX3_addStep_28 : decode cX3_addStep 28 = .ok (.iload_n 2, 1) := by decide +kernel
theorem dX3_addStep_29 : decode cX3_addStep 29 = .ok (.iastore, 1) := by decide +kernel
theorem dX3_addStep_30 : decode cX3_addStep 30 = .ok (.aload_n 0, 1) := by decide +kernel
theorem dX3_addStep_31 : decode cX3_addStep 31 = .ok (.dup, 1) := by decide +kernel
theorem dX3_addStep_32 : decode cX3_addStep 32 = .ok (.getfield 32, 3) := by decide +kernel
theorem dX3_addStep_35 : decode cX3_addStep 35 = .ok (.iconst 1, 1) := by decide +kernel
theorem dX3_addStep_36 : decode cX3_addStep 36 = .ok (.iadd, 1) := by decide +kernel
theorem dX3_addStep_37 : decode cX3_addStep 37 = .ok (.putfield 32, 3) := by decide +kernel
theorem dX3_addStep_40 : decode cX3_addStep 40 = .ok (.return_, 1) := by decide +kernel
theorem dX3_aim_0 : decode cX3_aim 0 = .ok (.iload_n 1, 1) := by decide +kernel
theorem dX3_aim_1 : decode cX3_aim 1 = .ok (.ifCond .lt 18, 3) := by decide +kernel
theorem dX3_aim_4 : decode cX3_aim 4 = .ok (.iload_n 1, 1) := by decide +kernel
theorem dX3_aim_5 : decode cX3_aim 5 = .ok (.aload_n 0, 1) := by decide +kernel
theorem dX3_aim_6 : decode cX3_aim 6 = .ok (.getfield 32, 3) := by decide +kernel
theorem dX3_aim_9 : decode cX3_aim 9 = .ok (.if_icmp .ge 10, 3) := by decide +kernel
theorem dX3_aim_12 : decode cX3_aim 12 = .ok (.aload_n 0, 1) := by decide +kernel
theorem dX3_aim_13 : decode cX3_aim 13 = .ok (.getfield 22, 3) := by decide +kernel
theorem dX3_aim_16 : decode cX3_aim 16 = .ok (.iload_n 1, 1) := by decide +kernel
theorem dX3_aim_17 : decode cX3_aim 17 = .ok (.iload_n 2, 1) := by decide +kernel
theorem dX3_aim_18 : decode cX3_aim 18 = .ok (.iastore, 1) := by decide +kernel
theorem dX3_aim_19 : decode cX3_aim 19 = .ok (.return_, 1) := by decide +kernel
theorem dX3_holds_0 : decode cX3_holds 0 = .ok (.iconst 0, 1) := by decide +kernel
theorem dX3_holds_1 : decode cX3_holds 1 = .ok (.istore_n 3, 1) := by decide +kernel
theorem dX3_holds_2 : decode cX3_holds 2 = .ok (.iload_n 3, 1) := by decide +kernel
theorem dX3_holds_3 : decode cX3_holds 3 = .ok (.aload_n 0, 1) := by decide +kernel
theorem dX3_holds_4 : decode cX3_holds 4 = .ok (.getfield 28, 3) := by decide +kernel
theorem dX3_holds_7 : decode cX3_holds 7 = .ok (.if_icmp .ge 35, 3) := by decide +kernel
theorem dX3_holds_10 : decode cX3_holds 10 = .ok (.aload_n 0, 1) := by decide +kernel
theorem dX3_holds_11 : decode cX3_holds 11 = .ok (.getfield 9, 3) := by decide +kernel
theorem dX3_holds_14 : decode cX3_holds 14 = .ok (.iload_n 3, 1) := by decide +kernel
theorem dX3_holds_15 : decode cX3_holds 15 = .ok (.iaload, 1) := by decide +kernel
theorem dX3_holds_16 : decode cX3_holds 16 = .ok (.iload_n 1, 1) := by decide +kernel
theorem dX3_holds_17 : decode cX3_holds 17 = .ok (.if_icmp .ne 19, 3) := by decide +kernel
theorem dX3_holds_20 : decode cX3_holds 20 = .ok (.aload_n 0, 1) := by decide +kernel
theorem dX3_holds_21 : decode cX3_holds 21 = .ok (.aload_n 0, 1) := by decide +kernel
theorem dX3_holds_22 : decode cX3_holds 22 = .ok (.getfield 16, 3) := by decide +kernel
theorem dX3_holds_25 : decode cX3_holds 25 = .ok (.iload_n 3, 1) := by decide +kernel
theorem dX3_holds_26 : decode cX3_holds 26 = .ok (.iaload, 1) := by decide +kernel
theorem dX3_holds_27 : decode cX3_holds 27 = .ok (.aload_n 2, 1) := by decide +kernel
theorem dX3_holds_28 : decode cX3_holds 28 = .ok (.invokevirtual 35, 3) := by decide +kernel
theorem dX3_holds_31 : decode cX3_holds 31 = .ok (.ifCond .eq 5, 3) := by decide +kernel
theorem dX3_holds_34 : decode cX3_holds 34 = .ok (.iconst 1, 1) := by decide +kernel
theorem dX3_holds_35 : decode cX3_holds 35 = .ok (.ireturn, 1) := by decide +kernel
theorem dX3_holds_36 : decode cX3_holds 36 = .ok (.iinc 3 1, 3) := by decide +kernel
theorem dX3_holds_39 : decode cX3_holds 39 = .ok (.goto (-37), 3) := by decide +kernel
theorem dX3_holds_42 : decode cX3_holds 42 = .ok (.iconst 0, 1) := by decide +kernel
theorem dX3_holds_43 : decode cX3_holds 43 = .ok (.ireturn, 1) := by decide +kernel
theorem dX3_amountOf_0 : decode cX3_amountOf 0 = .ok (.iconst 0, 1) := by decide +kernel
theorem dX3_amountOf_1 : decode cX3_amountOf 1 = .ok (.istore 4, 2) := by decide +kernel
theorem dX3_amountOf_3 : decode cX3_amountOf 3 = .ok (.iload 4, 2) := by decide +kernel
theorem dX3_amountOf_5 : decode cX3_amountOf 5 = .ok (.aload_n 0, 1) := by decide +kernel
theorem dX3_amountOf_6 : decode cX3_amountOf 6 = .ok (.getfield 28, 3) := by decide +kernel
theorem dX3_amountOf_9 : decode cX3_amountOf 9 = .ok (.if_icmp .ge 56, 3) := by decide +kernel
theorem dX3_amountOf_12 : decode cX3_amountOf 12 = .ok (.aload_n 0, 1) := by decide +kernel
theorem dX3_amountOf_13 : decode cX3_amountOf 13 = .ok (.getfield 9, 3) := by decide +kernel
theorem dX3_amountOf_16 : decode cX3_amountOf 16 = .ok (.iload 4, 2) := by decide +kernel
theorem dX3_amountOf_18 : decode cX3_amountOf 18 = .ok (.iaload, 1) := by decide +kernel
theorem dX3_amountOf_19 : decode cX3_amountOf 19 = .ok (.iload_n 1, 1) := by decide +kernel
theorem dX3_amountOf_20 : decode cX3_amountOf 20 = .ok (.if_icmp .ne 39, 3) := by decide +kernel
theorem dX3_amountOf_23 : decode cX3_amountOf 23 = .ok (.aload_n 0, 1) := by decide +kernel
theorem dX3_amountOf_24 : decode cX3_amountOf 24 = .ok (.aload_n 0, 1) := by decide +kernel
theorem dX3_amountOf_25 : decode cX3_amountOf 25 = .ok (.getfield 16, 3) := by decide +kernel
theorem dX3_amountOf_28 : decode cX3_amountOf 28 = .ok (.iload 4, 2) := by decide +kernel
theorem dX3_amountOf_30 : decode cX3_amountOf 30 = .ok (.iaload, 1) := by decide +kernel
theorem dX3_amountOf_31 : decode cX3_amountOf 31 = .ok (.aload_n 3, 1) := by decide +kernel
theorem dX3_amountOf_32 : decode cX3_amountOf 32 = .ok (.invokevirtual 35, 3) := by decide +kernel
theorem dX3_amountOf_35 : decode cX3_amountOf 35 = .ok (.ifCond .eq 24, 3) := by decide +kernel
theorem dX3_amountOf_38 : decode cX3_amountOf 38 = .ok (.iconst 0, 1) := by decide +kernel
theorem dX3_amountOf_39 : decode cX3_amountOf 39 = .ok (.iload_n 2, 1) := by decide +kernel
theorem dX3_amountOf_40 : decode cX3_amountOf 40 = .ok (.aload_n 0, 1) := by decide +kernel
theorem dX3_amountOf_41 : decode cX3_amountOf 41 = .ok (.aload_n 0, 1) := by decide +kernel
theorem dX3_amountOf_42 : decode cX3_amountOf 42 = .ok (.getfield 13, 3) := by decide +kernel
theorem dX3_amountOf_45 : decode cX3_amountOf 45 = .ok (.iload 4, 2) := by decide +kernel
theorem dX3_amountOf_47 : decode cX3_amountOf 47 = .ok (.iaload, 1) := by decide +kernel
theorem dX3_amountOf_48 : decode cX3_amountOf 48 = .ok (.aload_n 3, 1) := by decide +kernel
theorem dX3_amountOf_49 : decode cX3_amountOf 49 = .ok (.invokevirtual 35, 3) := by decide +kernel
theorem dX3_amountOf_52 : decode cX3_amountOf 52 = .ok (.invokestatic 39, 3) := by decide +kernel
theorem dX3_amountOf_55 : decode cX3_amountOf 55 = .ok (.invokestatic 45, 3) := by decide +kernel
theorem dX3_amountOf_58 : decode cX3_amountOf 58 = .ok (.ireturn, 1) := by decide +kernel
theorem dX3_amountOf_59 : decode cX3_amountOf 59 = .ok (.iinc 4 1, 3) := by decide +kernel
theorem dX3_amountOf_62 : decode cX3_amountOf 62 = .ok (.goto (-59), 3) := by decide +kernel
theorem dX3_amountOf_65 : decode cX3_amountOf 65 = .ok (.iconst 0, 1) := by decide +kernel
theorem dX3_amountOf_66 : decode cX3_amountOf 66 = .ok (.ireturn, 1) := by decide +kernel
theorem dX3_reckon_0 : decode cX3_reckon 0 = .ok (.iconst (-1), 1) := by decide +kernel
theorem dX3_reckon_1 : decode cX3_reckon 1 = .ok (.istore_n 3, 1) := by decide +kernel
theorem dX3_reckon_2 : decode cX3_reckon 2 = .ok (.iload_n 1, 1) := by decide +kernel
theorem dX3_reckon_3 : decode cX3_reckon 3 = .ok (.istore 4, 2) := by decide +kernel
theorem dX3_reckon_5 : decode cX3_reckon 5 = .ok (.iload 4, 2) := by decide +kernel
theorem dX3_reckon_7 : decode cX3_reckon 7 = .ok (.ifCond .lt 248, 3) := by decide +kernel
theorem dX3_reckon_10 : decode cX3_reckon 10 = .ok (.iload 4, 2) := by decide +kernel
theorem dX3_reckon_12 : decode cX3_reckon 12 = .ok (.aload_n 0, 1) := by decide +kernel
theorem dX3_reckon_13 : decode cX3_reckon 13 = .ok (.getfield 32, 3) := by decide +kernel
theorem dX3_reckon_16 : decode cX3_reckon 16 = .ok (.if_icmp .ge 239, 3) := by decide +kernel
theorem dX3_reckon_19 : decode cX3_reckon 19 = .ok (.aload_n 0, 1) := by decide +kernel
theorem dX3_reckon_20 : decode cX3_reckon 20 = .ok (.getfield 19, 3) := by decide +kernel
theorem dX3_reckon_23 : decode cX3_reckon 23 = .ok (.iload 4, 2) := by decide +kernel
theorem dX3_reckon_25 : decode cX3_reckon 25 = .ok (.iaload, 1) := by decide +kernel
theorem dX3_reckon_26 : decode cX3_reckon 26 = .ok (.istore 5, 2) := by decide +kernel
theorem dX3_reckon_28 : decode cX3_reckon 28 = .ok (.iload 5, 2) := by decide +kernel
theorem dX3_reckon_30 : decode cX3_reckon 30 = .ok (.ifCond .eq 9, 3) := by decide +kernel
theorem dX3_reckon_33 : decode cX3_reckon 33 = .ok (.iload 5, 2) := by decide +kernel
theorem dX3_reckon_35 : decode cX3_reckon 35 = .ok (.iconst 1, 1) := by decide +kernel
theorem dX3_reckon_36 : decode cX3_reckon 36 = .ok (.if_icmp .ne 51, 3) := by decide +kernel
theorem dX3_reckon_39 : decode cX3_reckon 39 = .ok (.iload_n 3, 1) := by decide +kernel
theorem dX3_reckon_40 : decode cX3_reckon 40 = .ok (.iconst 1, 1) := by decide +kernel
theorem dX3_reckon_41 : decode cX3_reckon 41 = .ok (.iadd, 1) := by decide +kernel
theorem dX3_reckon_42 : decode cX3_reckon 42 = .ok (.bipush 32, 2) := by decide +kernel
theorem dX3_reckon_44 : decode cX3_reckon 44 = .ok (.if_icmp .lt 5, 3) := by decide +kernel
theorem dX3_reckon_47 : decode cX3_reckon 47 = .ok (.iconst 0, 1) := by decide +kernel
theorem dX3_reckon_48 : decode cX3_reckon 48 = .ok (.ireturn, 1) := by decide +kernel
theorem dX3_reckon_49 : decode cX3_reckon 49 = .ok (.iinc 3 1, 3) := by decide +kernel
theorem dX3_reckon_52 : decode cX3_reckon 52 = .ok (.aload_n 0, 1) := by decide +kernel
theorem dX3_reckon_53 : decode cX3_reckon 53 = .ok (.getfield 25, 3) := by decide +kernel
theorem dX3_reckon_56 : decode cX3_reckon 56 = .ok (.iload_n 3, 1) := by decide +kernel
theorem dX3_reckon_57 : decode cX3_reckon 57 = .ok (.iload 5, 2) := by decide +kernel
theorem dX3_reckon_59 : decode cX3_reckon 59 = .ok (.ifCond .ne 13, 3) := by decide +kernel
theorem dX3_reckon_62 : decode cX3_reckon 62 = .ok (.aload_n 0, 1) := by decide +kernel
theorem dX3_reckon_63 : decode cX3_reckon 63 = .ok (.getfield 22, 3) := by decide +kernel
theorem dX3_reckon_66 : decode cX3_reckon 66 = .ok (.iload 4, 2) := by decide +kernel
theorem dX3_reckon_68 : decode cX3_reckon 68 = .ok (.iaload, 1) := by decide +kernel
theorem dX3_reckon_69 : decode cX3_reckon 69 = .ok (.goto 14, 3) := by decide +kernel
theorem dX3_reckon_72 : decode cX3_reckon 72 = .ok (.aload_n 0, 1) := by decide +kernel
theorem dX3_reckon_73 : decode cX3_reckon 73 = .ok (.getfield 22, 3) := by decide +kernel
theorem dX3_reckon_76 : decode cX3_reckon 76 = .ok (.iload 4, 2) := by decide +kernel
theorem dX3_reckon_78 : decode cX3_reckon 78 = .ok (.iaload, 1) := by decide +kernel
theorem dX3_reckon_79 : decode cX3_reckon 79 = .ok (.aload_n 2, 1) := by decide +kernel
theorem dX3_reckon_80 : decode cX3_reckon 80 = .ok (.invokestatic 48, 3) := by decide +kernel
theorem dX3_reckon_83 : decode cX3_reckon 83 = .ok (.iastore, 1) := by decide +kernel
theorem dX3_reckon_84 : decode cX3_reckon 84 = .ok (.goto 165, 3) := by decide +kernel
theorem dX3_reckon_87 : decode cX3_reckon 87 = .ok (.iload_n 3, 1) := by decide +kernel
theorem dX3_reckon_88 : decode cX3_reckon 88 = .ok (.ifCond .ge 5, 3) := by decide +kernel
theorem dX3_reckon_91 : decode cX3_reckon 91 = .ok (.iconst 0, 1) := by decide +kernel
theorem dX3_reckon_92 : decode cX3_reckon 92 = .ok (.ireturn, 1) := by decide +kernel
theorem dX3_reckon_93 : decode cX3_reckon 93 = .ok (.iload 5, 2) := by decide +kernel
theorem dX3_reckon_95 : decode cX3_reckon 95 = .ok (.iconst 2, 1) := by decide +kernel
theorem dX3_reckon_96 : decode cX3_reckon 96 = .ok (.if_icmp .ne 10, 3) := by decide +kernel
theorem dX3_reckon_99 : decode cX3_reckon 99 = .ok (.aload_n 0, 1) := by decide +kernel
theorem dX3_reckon_100 : decode cX3_reckon 100 = .ok (.getfield 25, 3) := by decide +kernel
theorem dX3_reckon_103 : decode cX3_reckon 103 = .ok (.iload_n 3, 1) := by decide +kernel
theorem dX3_reckon_104 : decode cX3_reckon 104 = .ok (.iaload, 1) := by decide +kernel
theorem dX3_reckon_105 : decode cX3_reckon 105 = .ok (.ireturn, 1) := by decide +kernel
theorem dX3_reckon_106 : decode cX3_reckon 106 = .ok (.iload 5, 2) := by decide +kernel
theorem dX3_reckon_108 : decode cX3_reckon 108 = .ok (.iconst 3, 1) := by decide +kernel
theorem dX3_reckon_109 : decode cX3_reckon 109 = .ok (.if_icmp .ne 20, 3) := by decide +kernel
theorem dX3_reckon_112 : decode cX3_reckon 112 = .ok (.aload_n 0, 1) := by decide +kernel
theorem dX3_reckon_113 : decode cX3_reckon 113 = .ok (.getfield 25, 3) := by decide +kernel
theorem dX3_reckon_116 : decode cX3_reckon 116 = .ok (.iload_n 3, 1) := by decide +kernel
theorem dX3_reckon_117 : decode cX3_reckon 117 = .ok (.iconst 1, 1) := by decide +kernel
theorem dX3_reckon_118 : decode cX3_reckon 118 = .ok (.aload_n 0, 1) := by decide +kernel
theorem dX3_reckon_119 : decode cX3_reckon 119 = .ok (.getfield 25, 3) := by decide +kernel
theorem dX3_reckon_122 : decode cX3_reckon 122 = .ok (.iload_n 3, 1) := by decide +kernel
theorem dX3_reckon_123 : decode cX3_reckon 123 = .ok (.iaload, 1) := by decide +kernel
theorem dX3_reckon_124 : decode cX3_reckon 124 = .ok (.isub, 1) := by decide +kernel
theorem dX3_reckon_125 : decode cX3_reckon 125 = .ok (.iastore, 1) := by decide +kernel
theorem dX3_reckon_126 : decode cX3_reckon 126 = .ok (.goto 123, 3) := by decide +kernel
theorem dX3_reckon_129 : decode cX3_reckon 129 = .ok (.iload 5, 2) := by decide +kernel
theorem dX3_reckon_131 : decode cX3_reckon 131 = .ok (.iconst 4, 1) := by decide +kernel
theorem dX3_reckon_132 : decode cX3_reckon 132 = .ok (.if_icmp .eq 9, 3) := by decide +kernel
theorem dX3_reckon_135 : decode cX3_reckon 135 = .ok (.iload 5, 2) := by decide +kernel
theorem dX3_reckon_137 : decode cX3_reckon 137 = .ok (.iconst 5, 1) := by decide +kernel
theorem dX3_reckon_138 : decode cX3_reckon 138 = .ok (.if_icmp .ne 56, 3) := by decide +kernel
theorem dX3_reckon_141 : decode cX3_reckon 141 = .ok (.aload_n 0, 1) := by decide +kernel
theorem dX3_reckon_142 : decode cX3_reckon 142 = .ok (.getfield 25, 3) := by decide +kernel
theorem dX3_reckon_145 : decode cX3_reckon 145 = .ok (.iload_n 3, 1) := by decide +kernel
theorem dX3_reckon_146 : decode cX3_reckon 146 = .ok (.iaload, 1) := by decide +kernel
theorem dX3_reckon_147 : decode cX3_reckon 147 = .ok (.ifCond .eq 7, 3) := by decide +kernel
theorem dX3_reckon_150 : decode cX3_reckon 150 = .ok (.iconst 1, 1) := by decide +kernel
theorem dX3_reckon_151 : decode cX3_reckon 151 = .ok (.goto 4, 3) := by decide +kernel
theorem dX3_reckon_154 : decode cX3_reckon 154 = .ok (.iconst 0, 1) := by decide +kernel
theorem dX3_reckon_155 : decode cX3_reckon 155 = .ok (.iload 5, 2) := by decide +kernel
theorem dX3_reckon_157 : decode cX3_reckon 157 = .ok (.iconst 5, 1) := by decide +kernel
theorem dX3_reckon_158 : decode cX3_reckon 158 = .ok (.if_icmp .ne 7, 3) := by decide +kernel
theorem dX3_reckon_161 : decode cX3_reckon 161 = .ok (.iconst 1, 1) := by decide +kernel
theorem dX3_reckon_162 : decode cX3_reckon 162 = .ok (.goto 4, 3) := by decide +kernel
theorem dX3_reckon_165 : decode cX3_reckon 165 = .ok (.iconst 0, 1) := by decide +kernel
theorem dX3_reckon_166 : decode cX3_reckon 166 = .ok (.if_icmp .ne 22, 3) := by decide +kernel
theorem dX3_reckon_169 : decode cX3_reckon 169 = .ok (.iload 4, 2) := by decide +kernel
theorem dX3_reckon_171 : decode cX3_reckon 171 = .ok (.aload_n 0, 1) := by decide +kernel
theorem dX3_reckon_172 : decode cX3_reckon 172 = .ok (.getfield 22, 3) := by decide +kernel
theorem dX3_reckon_175 : decode cX3_reckon 175 = .ok (.iload 4, 2) := by decide +kernel
theorem dX3_reckon_177 : decode cX3_reckon 177 = .ok (.iaload, 1) := by decide +kernel
theorem dX3_reckon_178 : decode cX3_reckon 178 = .ok (.iconst 1, 1) := by decide +kernel
theorem dX3_reckon_179 : decode cX3_reckon 179 = .ok (.isub, 1) := by decide +kernel
theorem dX3_reckon_180 : decode cX3_reckon 180 = .ok (.invokestatic 45, 3) := by decide +kernel
theorem dX3_reckon_183 : decode cX3_reckon 183 = .ok (.istore 4, 2) := by decide +kernel
theorem dX3_reckon_185 : decode cX3_reckon 185 = .ok (.goto 64, 3) := by decide +kernel
theorem dX3_reckon_188 : decode cX3_reckon 188 = .ok (.iinc 3 (-1), 3) := by decide +kernel
theorem dX3_reckon_191 : decode cX3_reckon 191 = .ok (.goto 58, 3) := by decide +kernel
theorem dX3_reckon_194 : decode cX3_reckon 194 = .ok (.aload_n 0, 1) := by decide +kernel
theorem dX3_reckon_195 : decode cX3_reckon 195 = .ok (.getfield 25, 3) := by decide +kernel
theorem dX3_reckon_198 : decode cX3_reckon 198 = .ok (.iload_n 3, 1) := by decide +kernel
theorem dX3_reckon_199 : decode cX3_reckon 199 = .ok (.iaload, 1) := by decide +kernel
theorem dX3_reckon_200 : decode cX3_reckon 200 = .ok (.istore 6, 2) := by decide +kernel
theorem dX3_reckon_202 : decode cX3_reckon 202 = .ok (.iinc 3 (-1), 3) := by decide +kernel
theorem dX3_reckon_205 : decode cX3_reckon 205 = .ok (.iload_n 3, 1) := by decide +kernel
theorem dX3_reckon_206 : decode cX3_reckon 206 = .ok (.ifCond .lt 22, 3) := by decide +kernel
theorem dX3_reckon_209 : decode cX3_reckon 209 = .ok (.iload 6, 2) := by decide +kernel
theorem dX3_reckon_211 : decode cX3_reckon 211 = .ok (.ifCond .ne 19, 3) := by decide +kernel
theorem dX3_reckon_214 : decode cX3_reckon 214 = .ok (.iload 5, 2) := by decide +kernel
theorem dX3_reckon_216 : decode cX3_reckon 216 = .ok (.bipush 9, 2) := by decide +kernel
theorem dX3_reckon_218 : decode cX3_reckon 218 = .ok (.if_icmp .eq 10, 3) := by decide +kernel
theorem dX3_reckon_221 : decode cX3_reckon 221 = .ok (.iload 5, 2) := by decide +kernel
theorem dX3_reckon_223 : decode cX3_reckon 223 = .ok (.bipush 10, 2) := by decide +kernel
theorem dX3_reckon_225 : decode cX3_reckon 225 = .ok (.if_icmp .ne 5, 3) := by decide +kernel
theorem dX3_reckon_228 : decode cX3_reckon 228 = .ok (.iconst 0, 1) := by decide +kernel
theorem dX3_reckon_229 : decode cX3_reckon 229 = .ok (.ireturn, 1) := by decide +kernel
theorem dX3_reckon_230 : decode cX3_reckon 230 = .ok (.aload_n 0, 1) := by decide +kernel
theorem dX3_reckon_231 : decode cX3_reckon 231 = .ok (.getfield 25, 3) := by decide +kernel
theorem dX3_reckon_234 : decode cX3_reckon 234 = .ok (.iload_n 3, 1) := by decide +kernel
theorem dX3_reckon_235 : decode cX3_reckon 235 = .ok (.iload 5, 2) := by decide +kernel
theorem dX3_reckon_237 : decode cX3_reckon 237 = .ok (.aload_n 0, 1) := by decide +kernel
theorem dX3_reckon_238 : decode cX3_reckon 238 = .ok (.getfield 25, 3) := by decide +kernel
theorem dX3_reckon_241 : decode cX3_reckon 241 = .ok (.iload_n 3, 1) := by decide +kernel
theorem dX3_reckon_242 : decode cX3_reckon 242 = .ok (.iaload, 1) := by decide +kernel
theorem dX3_reckon_243 : decode cX3_reckon 243 = .ok (.iload 6, 2) := by decide +kernel
theorem dX3_reckon_245 : decode cX3_reckon 245 = .ok (.invokestatic 51, 3) := by decide +kernel
theorem dX3_reckon_248 : decode cX3_reckon 248 = .ok (.iastore, 1) := by decide +kernel
theorem dX3_reckon_249 : decode cX3_reckon 249 = .ok (.iinc 4 1, 3) := by decide +kernel
theorem dX3_reckon_252 : decode cX3_reckon 252 = .ok (.goto (-247), 3) := by decide +kernel
theorem dX3_reckon_255 : decode cX3_reckon 255 = .ok (.iconst 0, 1) := by decide +kernel
theorem dX3_reckon_256 : decode cX3_reckon 256 = .ok (.ireturn, 1) := by decide +kernel
theorem dX3_letterAt_0 : decode cX3_letterAt 0 = .ok (.iload_n 0, 1) := by decide +kernel
theorem dX3_letterAt_1 : decode cX3_letterAt 1 = .ok (.ifCond .lt 15, 3) := by decide +kernel
theorem dX3_letterAt_4 : decode cX3_letterAt 4 = .ok (.iload_n 0, 1) := by decide +kernel
theorem dX3_letterAt_5 : decode cX3_letterAt 5 = .ok (.aload_n 1, 1) := by decide +kernel
theorem dX3_letterAt_6 : decode cX3_letterAt 6 = .ok (.arraylength, 1) := by decide +kernel
theorem dX3_letterAt_7 : decode cX3_letterAt 7 = .ok (.if_icmp .ge 9, 3) := by decide +kernel
theorem dX3_letterAt_10 : decode cX3_letterAt 10 = .ok (.aload_n 1, 1) := by decide +kernel
theorem dX3_letterAt_11 : decode cX3_letterAt 11 = .ok (.iload_n 0, 1) := by decide +kernel
theorem dX3_letterAt_12 : decode cX3_letterAt 12 = .ok (.iaload, 1) := by decide +kernel
theorem dX3_letterAt_13 : decode cX3_letterAt 13 = .ok (.goto 4, 3) := by decide +kernel
theorem dX3_letterAt_16 : decode cX3_letterAt 16 = .ok (.iconst 0, 1) := by decide +kernel
theorem dX3_letterAt_17 : decode cX3_letterAt 17 = .ok (.ireturn, 1) := by decide +kernel
theorem dX3_joined_0 : decode cX3_joined 0 = .ok (.iload_n 0, 1) := by decide +kernel
theorem dX3_joined_1 : decode cX3_joined 1 = .ok (.tableswitch 101 6 12 #[43, 47, 51, 55, 67, 79, 90], 43) := by decide +kernel
theorem dX3_joined_44 : decode cX3_joined 44 = .ok (.iload_n 1, 1) := by decide +kernel
theorem dX3_joined_45 : decode cX3_joined 45 = .ok (.iload_n 2, 1) := by decide +kernel
theorem dX3_joined_46 : decode cX3_joined 46 = .ok (.iadd, 1) := by decide +kernel
theorem dX3_joined_47 : decode cX3_joined 47 = .ok (.ireturn, 1) := by decide +kernel
theorem dX3_joined_48 : decode cX3_joined 48 = .ok (.iload_n 1, 1) := by decide +kernel
theorem dX3_joined_49 : decode cX3_joined 49 = .ok (.iload_n 2, 1) := by decide +kernel
theorem dX3_joined_50 : decode cX3_joined 50 = .ok (.isub, 1) := by decide +kernel
theorem dX3_joined_51 : decode cX3_joined 51 = .ok (.ireturn, 1) := by decide +kernel
theorem dX3_joined_52 : decode cX3_joined 52 = .ok (.iload_n 1, 1) := by decide +kernel
theorem dX3_joined_53 : decode cX3_joined 53 = .ok (.iload_n 2, 1) := by decide +kernel
theorem dX3_joined_54 : decode cX3_joined 54 = .ok (.imul, 1) := by decide +kernel
theorem dX3_joined_55 : decode cX3_joined 55 = .ok (.ireturn, 1) := by decide +kernel
theorem dX3_joined_56 : decode cX3_joined 56 = .ok (.iload_n 2, 1) := by decide +kernel
theorem dX3_joined_57 : decode cX3_joined 57 = .ok (.ifCond .ne 7, 3) := by decide +kernel
theorem dX3_joined_60 : decode cX3_joined 60 = .ok (.iconst 0, 1) := by decide +kernel
theorem dX3_joined_61 : decode cX3_joined 61 = .ok (.goto 6, 3) := by decide +kernel
theorem dX3_joined_64 : decode cX3_joined 64 = .ok (.iload_n 1, 1) := by decide +kernel
theorem dX3_joined_65 : decode cX3_joined 65 = .ok (.iload_n 2, 1) := by decide +kernel
theorem dX3_joined_66 : decode cX3_joined 66 = .ok (.idiv, 1) := by decide +kernel
theorem dX3_joined_67 : decode cX3_joined 67 = .ok (.ireturn, 1) := by decide +kernel
theorem dX3_joined_68 : decode cX3_joined 68 = .ok (.iload_n 2, 1) := by decide +kernel
theorem dX3_joined_69 : decode cX3_joined 69 = .ok (.ifCond .ne 7, 3) := by decide +kernel
theorem dX3_joined_72 : decode cX3_joined 72 = .ok (.iconst 0, 1) := by decide +kernel
theorem dX3_joined_73 : decode cX3_joined 73 = .ok (.goto 6, 3) := by decide +kernel
theorem dX3_joined_76 : decode cX3_joined 76 = .ok (.iload_n 1, 1) := by decide +kernel
theorem dX3_joined_77 : decode cX3_joined 77 = .ok (.iload_n 2, 1) := by decide +kernel
theorem dX3_joined_78 : decode cX3_joined 78 = .ok (.irem, 1) := by decide +kernel
theorem dX3_joined_79 : decode cX3_joined 79 = .ok (.ireturn, 1) := by decide +kernel
theorem dX3_joined_80 : decode cX3_joined 80 = .ok (.iload_n 1, 1) := by decide +kernel
theorem dX3_joined_81 : decode cX3_joined 81 = .ok (.iload_n 2, 1) := by decide +kernel
theorem dX3_joined_82 : decode cX3_joined 82 = .ok (.if_icmp .ge 7, 3) := by decide +kernel
theorem dX3_joined_85 : decode cX3_joined 85 = .ok (.iconst 1, 1) := by decide +kernel
theorem dX3_joined_86 : decode cX3_joined 86 = .ok (.goto 4, 3) := by decide +kernel
theorem dX3_joined_89 : decode cX3_joined 89 = .ok (.iconst 0, 1) := by decide +kernel
theorem dX3_joined_90 : decode cX3_joined 90 = .ok (.ireturn, 1) := by decide +kernel
theorem dX3_joined_91 : decode cX3_joined 91 = .ok (.iload_n 1, 1) := by decide +kernel
theorem dX3_joined_92 : decode cX3_joined 92 = .ok (.iload_n 2, 1) := by decide +kernel
theorem dX3_joined_93 : decode cX3_joined 93 = .ok (.if_icmp .le 7, 3) := by decide +kernel
theorem dX3_joined_96 : decode cX3_joined 96 = .ok (.iconst 1, 1) := by decide +kernel
theorem dX3_joined_97 : decode cX3_joined 97 = .ok (.goto 4, 3) := by decide +kernel
theorem dX3_joined_100 : decode cX3_joined 100 = .ok (.iconst 0, 1) := by decide +kernel
theorem dX3_joined_101 : decode cX3_joined 101 = .ok (.ireturn, 1) := by decide +kernel
theorem dX3_joined_102 : decode cX3_joined 102 = .ok (.iload_n 1, 1) := by decide +kernel
theorem dX3_joined_103 : decode cX3_joined 103 = .ok (.iload_n 2, 1) := by decide +kernel
theorem dX3_joined_104 : decode cX3_joined 104 = .ok (.if_icmp .ne 7, 3) := by decide +kernel
theorem dX3_joined_107 : decode cX3_joined 107 = .ok (.iconst 1, 1) := by decide +kernel
theorem dX3_joined_108 : decode cX3_joined 108 = .ok (.goto 4, 3) := by decide +kernel
theorem dX3_joined_111 : decode cX3_joined 111 = .ok (.iconst 0, 1) := by decide +kernel
theorem dX3_joined_112 : decode cX3_joined 112 = .ok (.ireturn, 1) := by decide +kernel
theorem dX3_copy_0 : decode cX3_copy 0 = .ok (.aload_n 1, 1) := by decide +kernel
theorem dX3_copy_1 : decode cX3_copy 1 = .ok (.getfield 9, 3) := by decide +kernel
theorem dX3_copy_4 : decode cX3_copy 4 = .ok (.iconst 0, 1) := by decide +kernel
theorem dX3_copy_5 : decode cX3_copy 5 = .ok (.aload_n 0, 1) := by decide +kernel
theorem dX3_copy_6 : decode cX3_copy 6 = .ok (.getfield 9, 3) := by decide +kernel
theorem dX3_copy_9 : decode cX3_copy 9 = .ok (.iconst 0, 1) := by decide +kernel
theorem dX3_copy_10 : decode cX3_copy 10 = .ok (.bipush 14, 2) := by decide +kernel
theorem dX3_copy_12 : decode cX3_copy 12 = .ok (.invokestatic 55, 3) := by decide +kernel
theorem dX3_copy_15 : decode cX3_copy 15 = .ok (.aload_n 1, 1) := by decide +kernel
theorem dX3_copy_16 : decode cX3_copy 16 = .ok (.getfield 13, 3) := by decide +kernel
theorem dX3_copy_19 : decode cX3_copy 19 = .ok (.iconst 0, 1) := by decide +kernel
theorem dX3_copy_20 : decode cX3_copy 20 = .ok (.aload_n 0, 1) := by decide +kernel
theorem dX3_copy_21 : decode cX3_copy 21 = .ok (.getfield 13, 3) := by decide +kernel
theorem dX3_copy_24 : decode cX3_copy 24 = .ok (.iconst 0, 1) := by decide +kernel
theorem dX3_copy_25 : decode cX3_copy 25 = .ok (.bipush 14, 2) := by decide +kernel
theorem dX3_copy_27 : decode cX3_copy 27 = .ok (.invokestatic 55, 3) := by decide +kernel
theorem dX3_copy_30 : decode cX3_copy 30 = .ok (.aload_n 1, 1) := by decide +kernel
theorem dX3_copy_31 : decode cX3_copy 31 = .ok (.getfield 16, 3) := by decide +kernel
theorem dX3_copy_34 : decode cX3_copy 34 = .ok (.iconst 0, 1) := by decide +kernel
theorem dX3_copy_35 : decode cX3_copy 35 = .ok (.aload_n 0, 1) := by decide +kernel
theorem dX3_copy_36 : decode cX3_copy 36 = .ok (.getfield 16, 3) := by decide +kernel
theorem dX3_copy_39 : decode cX3_copy 39 = .ok (.iconst 0, 1) := by decide +kernel
theorem dX3_copy_40 : decode cX3_copy 40 = .ok (.bipush 14, 2) := by decide +kernel
theorem dX3_copy_42 : decode cX3_copy 42 = .ok (.invokestatic 55, 3) := by decide +kernel
theorem dX3_copy_45 : decode cX3_copy 45 = .ok (.aload_n 1, 1) := by decide +kernel
theorem dX3_copy_46 : decode cX3_copy 46 = .ok (.getfield 19, 3) := by decide +kernel
theorem dX3_copy_49 : decode cX3_copy 49 = .ok (.iconst 0, 1) := by decide +kernel
theorem dX3_copy_50 : decode cX3_copy 50 = .ok (.aload_n 0, 1) := by decide +kernel
theorem dX3_copy_51 : decode cX3_copy 51 = .ok (.getfield 19, 3) := by decide +kernel
theorem dX3_copy_54 : decode cX3_copy 54 = .ok (.iconst 0, 1) := by decide +kernel
theorem dX3_copy_55 : decode cX3_copy 55 = .ok (.sipush 256, 3) := by decide +kernel
theorem dX3_copy_58 : decode cX3_copy 58 = .ok (.invokestatic 55, 3) := by decide +kernel
theorem dX3_copy_61 : decode cX3_copy 61 = .ok (.aload_n 1, 1) := by decide +kernel
theorem dX3_copy_62 : decode cX3_copy 62 = .ok (.getfield 22, 3) := by decide +kernel
theorem dX3_copy_65 : decode cX3_copy 65 = .ok (.iconst 0, 1) := by decide +kernel
theorem dX3_copy_66 : decode cX3_copy 66 = .ok (.aload_n 0, 1) := by decide +kernel
theorem dX3_copy_67 : decode cX3_copy 67 = .ok (.getfield 22, 3) := by decide +kernel
theorem dX3_copy_70 : decode cX3_copy 70 = .ok (.iconst 0, 1) := by decide +kernel
theorem dX3_copy_71 : decode cX3_copy 71 = .ok (.sipush 256, 3) := by decide +kernel
theorem dX3_copy_74 : decode cX3_copy 74 = .ok (.invokestatic 55, 3) := by decide +kernel
theorem dX3_copy_77 : decode cX3_copy 77 = .ok (.aload_n 0, 1) := by decide +kernel
theorem dX3_copy_78 : decode cX3_copy 78 = .ok (.aload_n 1, 1) := by decide +kernel
theorem dX3_copy_79 : decode cX3_copy 79 = .ok (.getfield 28, 3) := by decide +kernel
theorem dX3_copy_82 : decode cX3_copy 82 = .ok (.putfield 28, 3) := by decide +kernel
theorem dX3_copy_85 : decode cX3_copy 85 = .ok (.aload_n 0, 1) := by decide +kernel
theorem dX3_copy_86 : decode cX3_copy 86 = .ok (.aload_n 1, 1) := by decide +kernel
theorem dX3_copy_87 : decode cX3_copy 87 = .ok (.getfield 32, 3) := by decide +kernel
theorem dX3_copy_90 : decode cX3_copy 90 = .ok (.putfield 32, 3) := by decide +kernel
theorem dX3_copy_93 : decode cX3_copy 93 = .ok (.return_, 1) := by decide +kernel
theorem dX4_init_0 : decode cX4_init 0 = .ok (.aload_n 0, 1) := by decide +kernel
theorem dX4_init_1 : decode cX4_init 1 = .ok (.invokespecial 3, 3) := by decide +kernel
theorem dX4_init_4 : decode cX4_init 4 = .ok (.aload_n 0, 1) := by decide +kernel
theorem dX4_init_5 : decode cX4_init 5 = .ok (.aload_n 1, 1) := by decide +kernel
theorem dX4_init_6 : decode cX4_init 6 = .ok (.putfield 9, 3) := by decide +kernel
theorem dX4_init_9 : decode cX4_init 9 = .ok (.aload_n 0, 1) := by decide +kernel
theorem dX4_init_10 : decode cX4_init 10 = .ok (.aload_n 2, 1) := by decide +kernel
theorem dX4_init_11 : decode cX4_init 11 = .ok (.putfield 15, 3) := by decide +kernel
theorem dX4_init_14 : decode cX4_init 14 = .ok (.return_, 1) := by decide +kernel
theorem dX4_readLaw_0 : decode cX4_readLaw 0 = .ok (.aload_n 0, 1) := by decide +kernel
theorem dX4_readLaw_1 : decode cX4_readLaw 1 = .ok (.getfield 15, 3) := by decide +kernel
theorem dX4_readLaw_4 : decode cX4_readLaw 4 = .ok (.invokevirtual 19, 3) := by decide +kernel
theorem dX4_readLaw_7 : decode cX4_readLaw 7 = .ok (.aload_n 0, 1) := by decide +kernel
theorem dX4_readLaw_8 : decode cX4_readLaw 8 = .ok (.invokevirtual 24, 3) := by decide +kernel
theorem dX4_readLaw_11 : decode cX4_readLaw 11 = .ok (.iconst 0, 1) := by decide +kernel
theorem dX4_readLaw_12 : decode cX4_readLaw 12 = .ok (.istore_n 1, 1) := by decide +kernel
theorem dX4_readLaw_13 : decode cX4_readLaw 13 = .ok (.iload_n 1, 1) := by decide +kernel
theorem dX4_readLaw_14 : decode cX4_readLaw 14 = .ok (.sipush 200, 3) := by decide +kernel
theorem dX4_readLaw_17 : decode cX4_readLaw 17 = .ok (.if_icmp .ge 34, 3) := by decide +kernel
theorem dX4_readLaw_20 : decode cX4_readLaw 20 = .ok (.aload_n 0, 1) := by decide +kernel
theorem dX4_readLaw_21 : decode cX4_readLaw 21 = .ok (.getfield 9, 3) := by decide +kernel
theorem dX4_readLaw_24 : decode cX4_readLaw 24 = .ok (.invokevirtual 27, 3) := by decide +kernel
theorem dX4_readLaw_27 : decode cX4_readLaw 27 = .ok (.bipush 59, 2) := by decide +kernel
theorem dX4_readLaw_29 : decode cX4_readLaw 29 = .ok (.if_icmp .ne 22, 3) := by decide +kernel
theorem dX4_readLaw_32 : decode cX4_readLaw 32 = .ok (.aload_n 0, 1) := by decide +kernel
theorem dX4_readLaw_33 : decode cX4_readLaw 33 = .ok (.getfield 9, 3) := by decide +kernel
theorem dX4_readLaw_36 : decode cX4_readLaw 36 = .ok (.bipush 59, 2) := by decide +kernel
theorem dX4_readLaw_38 : decode cX4_readLaw 38 = .ok (.invokevirtual 33, 3) := by decide +kernel
theorem dX4_readLaw_41 : decode cX4_readLaw 41 = .ok (.aload_n 0, 1) := by decide +kernel
theorem dX4_readLaw_42 : decode cX4_readLaw 42 = .ok (.invokevirtual 24, 3) := by decide +kernel
theorem dX4_readLaw_45 : decode cX4_readLaw 45 = .ok (.iinc 1 1, 3) := by decide +kernel
theorem dX4_readLaw_48 : decode cX4_readLaw 48 = .ok (.goto (-35), 3) := by decide +kernel
theorem dX4_readLaw_51 : decode cX4_readLaw 51 = .ok (.aload_n 0, 1) := by decide +kernel
theorem dX4_readLaw_52 : decode cX4_readLaw 52 = .ok (.getfield 9, 3) := by decide +kernel
theorem dX4_readLaw_55 : decode cX4_readLaw 55 = .ok (.invokevirtual 37, 3) := by decide +kernel
theorem dX4_readLaw_58 : decode cX4_readLaw 58 = .ok (.return_, 1) := by decide +kernel
theorem dX4_readClause_0 : decode cX4_readClause 0 = .ok (.aload_n 0, 1) := by decide +kernel
theorem dX4_readClause_1 : decode cX4_readClause 1 = .ok (.getfield 9, 3) := by decide +kernel
theorem dX4_readClause_4 : decode cX4_readClause 4 = .ok (.invokevirtual 27, 3) := by decide +kernel
theorem dX4_readClause_7 : decode cX4_readClause 7 = .ok (.istore_n 1, 1) := by decide +kernel
theorem dX4_readClause_8 : decode cX4_readClause 8 = .ok (.iload_n 1, 1) := by decide +kernel
theorem dX4_readClause_9 : decode cX4_readClause 9 = .ok (.bipush 107, 2) := by decide +kernel
theorem dX4_readClause_11 : decode cX4_readClause 11 = .ok (.if_icmp .eq 38, 3) := by decide +kernel
theorem dX4_readClause_14 : decode cX4_readClause 14 = .ok (.iload_n 1, 1) := by decide +kernel
theorem dX4_readClause_15 : decode cX4_readClause 15 = .ok (.bipush 102, 2) := by decide +kernel
theorem dX4_readClause_17 : decode cX4_readClause 17 = .ok (.if_icmp .eq 32, 3) := by decide +kernel
theorem dX4_readClause_20 : decode cX4_readClause 20 = .ok (.iload_n 1, 1) := by decide +kernel
theorem dX4_readClause_21 : decode cX4_readClause 21 = .ok (.bipush 119, 2) := by decide +kernel
theorem dX4_readClause_23 : decode cX4_readClause 23 = .ok (.if_icmp .eq 26, 3) := by decide +kernel
theorem dX4_readClause_26 : decode cX4_readClause 26 = .ok (.iload_n 1, 1) := by decide +kernel
theorem dX4_readClause_27 : decode cX4_readClause 27 = .ok (.bipush 122, 2) := by decide +kernel
theorem dX4_readClause_29 : decode cX4_readClause 29 = .ok (.if_icmp .eq 20, 3) := by decide +kernel
theorem dX4_readClause_32 : decode cX4_readClause 32 = .ok (.iload_n 1, 1) := by decide +kernel
theorem dX4_readClause_33 : decode cX4_readClause 33 = .ok (.bipush 113, 2) := by decide +kernel
theorem dX4_readClause_35 : decode cX4_readClause 35 = .ok (.if_icmp .eq 14, 3) := by decide +kernel
theorem dX4_readClause_38 : decode cX4_readClause 38 = .ok (.aload_n 0, 1) := by decide +kernel
theorem dX4_readClause_39 : decode cX4_readClause 39 = .ok (.getfield 9, 3) := by decide +kernel
theorem dX4_readClause_42 : decode cX4_readClause 42 = .ok (.iconst 1, 1) := by decide +kernel
theorem dX4_readClause_43 : decode cX4_readClause 43 = .ok (.invokevirtual 40, 3) := by decide +kernel
theorem dX4_readClause_46 : decode cX4_readClause 46 = .ok (.goto 23, 3) := by decide +kernel
theorem dX4_readClause_49 : decode cX4_readClause 49 = .ok (.aload_n 0, 1) := by decide +kernel
theorem dX4_readClause_50 : decode cX4_readClause 50 = .ok (.getfield 15, 3) := by decide +kernel
theorem dX4_readClause_53 : decode cX4_readClause 53 = .ok (.getfield 43, 3) := by decide +kernel
theorem dX4_readClause_56 : decode cX4_readClause 56 = .ok (.bipush 14, 2) := by decide +kernel
theorem dX4_readClause_58 : decode cX4_readClause 58 = .ok (.if_icmp .ne 11, 3) := by decide +kernel
theorem dX4_readClause_61 : decode cX4_readClause 61 = .ok (.aload_n 0, 1) := by decide +kernel
theorem dX4_readClause_62 : decode cX4_readClause 62 = .ok (.getfield 9, 3) := by decide +kernel
theorem dX4_readClause_65 : decode cX4_readClause 65 = .ok (.iconst 4, 1) := by decide +kernel
theorem dX4_readClause_66 : decode cX4_readClause 66 = .ok (.invokevirtual 40, 3) := by decide +kernel
theorem dX4_readClause_69 : decode cX4_readClause 69 = .ok (.aload_n 0, 1) := by decide +kernel
theorem dX4_readClause_70 : decode cX4_readClause 70 = .ok (.getfield 9, 3) := by decide +kernel
theorem dX4_readClause_73 : decode cX4_readClause 73 = .ok (.getfield 47, 3) := by decide +kernel
theorem dX4_readClause_76 : decode cX4_readClause 76 = .ok (.ifCond .eq 4, 3) := by decide +kernel
theorem dX4_readClause_79 : decode cX4_readClause 79 = .ok (.return_, 1) := by decide +kernel
theorem dX4_readClause_80 : decode cX4_readClause 80 = .ok (.aload_n 0, 1) := by decide +kernel
theorem dX4_readClause_81 : decode cX4_readClause 81 = .ok (.getfield 9, 3) := by decide +kernel
theorem dX4_readClause_84 : decode cX4_readClause 84 = .ok (.dup, 1) := by decide +kernel
theorem dX4_readClause_85 : decode cX4_readClause 85 = .ok (.getfield 50, 3) := by decide +kernel
theorem dX4_readClause_88 : decode cX4_readClause 88 = .ok (.iconst 1, 1) := by decide +kernel
theorem dX4_readClause_89 : decode cX4_readClause 89 = .ok (.iadd, 1) := by decide +kernel
theorem dX4_readClause_90 : decode cX4_readClause 90 = .ok (.putfield 50, 3) := by decide +kernel
theorem dX4_readClause_93 : decode cX4_readClause 93 = .ok (.aload_n 0, 1) := by decide +kernel
theorem dX4_readClause_94 : decode cX4_readClause 94 = .ok (.getfield 15, 3) := by decide +kernel
theorem dX4_readClause_97 : decode cX4_readClause 97 = .ok (.getfield 53, 3) := by decide +kernel
theorem dX4_readClause_100 : decode cX4_readClause 100 = .ok (.istore_n 2, 1) := by decide +kernel
theorem dX4_readClause_101 : decode cX4_readClause 101 = .ok (.iload_n 1, 1) := by decide +kernel
theorem dX4_readClause_102 : decode cX4_readClause 102 = .ok (.bipush 107, 2) := by decide +kernel
theorem dX4_readClause_104 : decode cX4_readClause 104 = .ok (.if_icmp .eq 17, 3) := by decide +kernel
theorem dX4_readClause_107 : decode cX4_readClause 107 = .ok (.aload_n 0, 1) := by decide +kernel
theorem dX4_readClause_108 : decode cX4_readClause 108 = .ok (.iconst 0, 1) := by decide +kernel
theorem dX4_readClause_109 : decode cX4_readClause 109 = .ok (.invokevirtual 56, 3) := by decide +kernel
theorem dX4_readClause_112 : decode cX4_readClause 112 = .ok (.aload_n 0, 1) := by decide +kernel
theorem dX4_readClause_113 : decode cX4_readClause 113 = .ok (.getfield 15, 3) := by decide +kernel
theorem dX4_readClause_116 : decode cX4_readClause 116 = .ok (.iconst 2, 1) := by decide +kernel
theorem dX4_readClause_117 : decode cX4_readClause 117 = .ok (.iconst 0, 1) := by decide +kernel
theorem dX4_readClause_118 : decode cX4_readClause 118 = .ok (.invokevirtual 59, 3) := by decide +kernel
theorem dX4_readClause_121 : decode cX4_readClause 121 = .ok (.aload_n 0, 1) := by decide +kernel
theorem dX4_readClause_122 : decode cX4_readClause 122 = .ok (.getfield 9, 3) := by decide +kernel
theorem dX4_readClause_125 : decode cX4_readClause 125 = .ok (.bipush 40, 2) := by decide +kernel
theorem dX4_readClause_127 : decode cX4_readClause 127 = .ok (.invokevirtual 33, 3) := by decide +kernel
theorem dX4_readClause_130 : decode cX4_readClause 130 = .ok (.aload_n 0, 1) := by decide +kernel
theorem dX4_readClause_131 : decode cX4_readClause 131 = .ok (.getfield 15, 3) := by decide +kernel
theorem dX4_readClause_134 : decode cX4_readClause 134 = .ok (.getfield 53, 3) := by decide +kernel
theorem dX4_readClause_137 : decode cX4_readClause 137 = .ok (.istore_n 3, 1) := by decide +kernel
theorem dX4_readClause_138 : decode cX4_readClause 138 = .ok (.aload_n 0, 1) := by decide +kernel
theorem dX4_readClause_139 : decode cX4_readClause 139 = .ok (.iconst 1, 1) := by decide +kernel
theorem dX4_readClause_140 : decode cX4_readClause 140 = .ok (.invokevirtual 63, 3) := by decide +kernel
theorem dX4_readClause_143 : decode cX4_readClause 143 = .ok (.aload_n 0, 1) := by decide +kernel
theorem dX4_readClause_144 : decode cX4_readClause 144 = .ok (.getfield 15, 3) := by decide +kernel
theorem dX4_readClause_147 : decode cX4_readClause 147 = .ok (.iconst 2, 1) := by decide +kernel
theorem dX4_readClause_148 : decode cX4_readClause 148 = .ok (.iconst 0, 1) := by decide +kernel
theorem dX4_readClause_149 : decode cX4_readClause 149 = .ok (.invokevirtual 59, 3) := by decide +kernel
theorem dX4_readClause_152 : decode cX4_readClause 152 = .ok (.aload_n 0, 1) := by decide +kernel
theorem dX4_readClause_153 : decode cX4_readClause 153 = .ok (.getfield 9, 3) := by decide +kernel
theorem dX4_readClause_156 : decode cX4_readClause 156 = .ok (.bipush 41, 2) := by decide +kernel
theorem dX4_readClause_158 : decode cX4_readClause 158 = .ok (.invokevirtual 33, 3) := by decide +kernel
theorem dX4_readClause_161 : decode cX4_readClause 161 = .ok (.aload_n 0, 1) := by decide +kernel
theorem dX4_readClause_162 : decode cX4_readClause 162 = .ok (.getfield 15, 3) := by decide +kernel
theorem dX4_readClause_165 : decode cX4_readClause 165 = .ok (.iload_n 1, 1) := by decide +kernel
theorem dX4_readClause_166 : decode cX4_readClause 166 = .ok (.iload_n 2, 1) := by decide +kernel
theorem dX4_readClause_167 : decode cX4_readClause 167 = .ok (.iload_n 3, 1) := by decide +kernel
theorem dX4_readClause_168 : decode cX4_readClause 168 = .ok (.invokevirtual 66, 3) := by decide +kernel
theorem dX4_readClause_171 : decode cX4_readClause 171 = .ok (.return_, 1) := by decide +kernel
theorem dX4_readParts_0 : decode cX4_readParts 0 = .ok (.aload_n 0, 1) := by decide +kernel
theorem dX4_readParts_1 : decode cX4_readParts 1 = .ok (.iload_n 1, 1) := by decide +kernel
theorem dX4_readParts_2 : decode cX4_readParts 2 = .ok (.invokevirtual 70, 3) := by decide +kernel
theorem dX4_readParts_5 : decode cX4_readParts 5 = .ok (.iconst (-1), 1) := by decide +kernel
theorem dX4_readParts_6 : decode cX4_readParts 6 = .ok (.istore_n 2, 1) := by decide +kernel
theorem dX4_readParts_7 : decode cX4_readParts 7 = .ok (.iconst 0, 1) := by decide +kernel
theorem dX4_readParts_8 : decode cX4_readParts 8 = .ok (.istore_n 3, 1) := by decide +kernel
theorem dX4_readParts_9 : decode cX4_readParts 9 = .ok (.iload_n 3, 1) := by decide +kernel
theorem dX4_readParts_10 : decode cX4_readParts 10 = .ok (.sipush 200, 3) := by decide +kernel
theorem dX4_readParts_13 : decode cX4_readParts 13 = .ok (.if_icmp .ge 35, 3) := by decide +kernel
theorem dX4_readParts_16 : decode cX4_readParts 16 = .ok (.aload_n 0, 1) := by decide +kernel
theorem dX4_readParts_17 : decode cX4_readParts 17 = .ok (.getfield 9, 3) := by decide +kernel
theorem dX4_readParts_20 : decode cX4_readParts 20 = .ok (.invokevirtual 27, 3) := by decide +kernel
theorem dX4_readParts_23 : decode cX4_readParts 23 = .ok (.bipush 124, 2) := by decide +kernel
theorem dX4_readParts_25 : decode cX4_readParts 25 = .ok (.if_icmp .ne 23, 3) := by decide +kernel
theorem dX4_readParts_28 : decode cX4_readParts 28 = .ok (.aload_n 0, 1) := by decide +kernel
theorem dX4_readParts_29 : decode cX4_readParts 29 = .ok (.iconst 5, 1) := by decide +kernel
theorem dX4_readParts_30 : decode cX4_readParts 30 = .ok (.bipush 124, 2) := by decide +kernel
theorem dX4_readParts_32 : decode cX4_readParts 32 = .ok (.iload_n 2, 1) := by decide +kernel
theorem dX4_readParts_33 : decode cX4_readParts 33 = .ok (.invokevirtual 73, 3) := by decide +kernel
theorem dX4_readParts_36 : decode cX4_readParts 36 = .ok (.istore_n 2, 1) := by decide +kernel
theorem dX4_readParts_37 : decode cX4_readParts 37 = .ok (.aload_n 0, 1) := by decide +kernel
theorem dX4_readParts_38 : decode cX4_readParts 38 = .ok (.iload_n 1, 1) := by decide +kernel
theorem dX4_readParts_39 : decode cX4_readParts 39 = .ok (.invokevirtual 70, 3) := by decide +kernel
theorem dX4_readParts_42 : decode cX4_readParts 42 = .ok (.iinc 3 1, 3) := by decide +kernel
theorem dX4_readParts_45 : decode cX4_readParts 45 = .ok (.goto (-36), 3) := by decide +kernel
theorem dX4_readParts_48 : decode cX4_readParts 48 = .ok (.aload_n 0, 1) := by decide +kernel
theorem dX4_readParts_49 : decode cX4_readParts 49 = .ok (.getfield 15, 3) := by decide +kernel
theorem dX4_readParts_52 : decode cX4_readParts 52 = .ok (.iload_n 2, 1) := by decide +kernel
theorem dX4_readParts_53 : decode cX4_readParts 53 = .ok (.aload_n 0, 1) := by decide +kernel
theorem dX4_readParts_54 : decode cX4_readParts 54 = .ok (.getfield 15, 3) := by decide +kernel
theorem dX4_readParts_57 : decode cX4_readParts 57 = .ok (.getfield 53, 3) := by decide +kernel
theorem dX4_readParts_60 : decode cX4_readParts 60 = .ok (.invokevirtual 77, 3) := by decide +kernel
theorem dX4_readParts_63 : decode cX4_readParts 63 = .ok (.return_, 1) := by decide +kernel
theorem dX4_readPieces_0 : decode cX4_readPieces 0 = .ok (.aload_n 0, 1) := by decide +kernel
theorem dX4_readPieces_1 : decode cX4_readPieces 1 = .ok (.iload_n 1, 1) := by decide +kernel
theorem dX4_readPieces_2 : decode cX4_readPieces 2 = .ok (.invokevirtual 80, 3) := by decide +kernel
theorem dX4_readPieces_5 : decode cX4_readPieces 5 = .ok (.iconst (-1), 1) := by decide +kernel
theorem dX4_readPieces_6 : decode cX4_readPieces 6 = .ok (.istore_n 2, 1) := by decide +kernel
theorem dX4_readPieces_7 : decode cX4_readPieces 7 = .ok (.iconst 0, 1) := by decide +kernel
theorem dX4_readPieces_8 : decode cX4_readPieces 8 = .ok (.istore_n 3, 1) := by decide +kernel
theorem dX4_readPieces_9 : decode cX4_readPieces 9 = .ok (.iload_n 3, 1) := by decide +kernel
theorem dX4_readPieces_10 : decode cX4_readPieces 10 = .ok (.sipush 200, 3) := by decide +kernel
theorem dX4_readPieces_13 : decode cX4_readPieces 13 = .ok (.if_icmp .ge 35, 3) := by decide +kernel
theorem dX4_readPieces_16 : decode cX4_readPieces 16 = .ok (.aload_n 0, 1) := by decide +kernel
theorem dX4_readPieces_17 : decode cX4_readPieces 17 = .ok (.getfield 9, 3) := by decide +kernel
theorem dX4_readPieces_20 : decode cX4_readPieces 20 = .ok (.invokevirtual 27, 3) := by decide +kernel
theorem dX4_readPieces_23 : decode cX4_readPieces 23 = .ok (.bipush 38, 2) := by decide +kernel
theorem dX4_readPieces_25 : decode cX4_readPieces 25 = .ok (.if_icmp .ne 23, 3) := by decide +kernel
theorem dX4_readPieces_28 : decode cX4_readPieces 28 = .ok (.aload_n 0, 1) := by decide +kernel
theorem dX4_readPieces_29 : decode cX4_readPieces 29 = .ok (.iconst 4, 1) := by decide +kernel
theorem dX4_readPieces_30 : decode cX4_readPieces 30 = .ok (.bipush 38, 2) := by decide +kernel
theorem dX4_readPieces_32 : decode cX4_readPieces 32 = .ok (.iload_n 2, 1) := by decide +kernel
theorem dX4_readPieces_33 : decode cX4_readPieces 33 = .ok (.invokevirtual 73, 3) := by decide +kernel
theorem dX4_readPieces_36 : decode cX4_readPieces 36 = .ok (.istore_n 2, 1) := by decide +kernel
theorem dX4_readPieces_37 : decode cX4_readPieces 37 = .ok (.aload_n 0, 1) := by decide +kernel
theorem dX4_readPieces_38 : decode cX4_readPieces 38 = .ok (.iload_n 1, 1) := by decide +kernel
theorem dX4_readPieces_39 : decode cX4_readPieces 39 = .ok (.invokevirtual 80, 3) := by decide +kernel
theorem dX4_readPieces_42 : decode cX4_readPieces 42 = .ok (.iinc 3 1, 3) := by decide +kernel
theorem dX4_readPieces_45 : decode cX4_readPieces 45 = .ok (.goto (-36), 3) := by decide +kernel
theorem dX4_readPieces_48 : decode cX4_readPieces 48 = .ok (.aload_n 0, 1) := by decide +kernel
theorem dX4_readPieces_49 : decode cX4_readPieces 49 = .ok (.getfield 15, 3) := by decide +kernel
theorem dX4_readPieces_52 : decode cX4_readPieces 52 = .ok (.iload_n 2, 1) := by decide +kernel
theorem dX4_readPieces_53 : decode cX4_readPieces 53 = .ok (.aload_n 0, 1) := by decide +kernel
theorem dX4_readPieces_54 : decode cX4_readPieces 54 = .ok (.getfield 15, 3) := by decide +kernel
theorem dX4_readPieces_57 : decode cX4_readPieces 57 = .ok (.getfield 53, 3) := by decide +kernel
theorem dX4_readPieces_60 : decode cX4_readPieces 60 = .ok (.invokevirtual 77, 3) := by decide +kernel
theorem dX4_readPieces_63 : decode cX4_readPieces 63 = .ok (.return_, 1) := by decide +kernel
theorem dX4_addJump_0 : decode cX4_addJump 0 = .ok (.aload_n 0, 1) := by decide +kernel
theorem dX4_addJump_1 : decode cX4_addJump 1 = .ok (.getfield 9, 3) := by decide +kernel
theorem dX4_addJump_4 : decode cX4_addJump 4 = .ok (.iload_n 2, 1) := by decide +kernel
theorem dX4_addJump_5 : decode cX4_addJump 5 = .ok (.invokevirtual 33, 3) := by decide +kernel
theorem dX4_addJump_8 : decode cX4_addJump 8 = .ok (.aload_n 0, 1) := by decide +kernel
theorem dX4_addJump_9 : decode cX4_addJump 9 = .ok (.getfield 15, 3) := by decide +kernel
theorem dX4_addJump_12 : decode cX4_addJump 12 = .ok (.getfield 53, 3) := by decide +kernel
theorem dX4_addJump_15 : decode cX4_addJump 15 = .ok (.istore 4, 2) := by decide +kernel
