theorem dX4_addJump_17 : decode cX4_addJump 17 = .ok (.aload_n 0, 1) := by decide +kernel
theorem dX4_addJump_18 : decode cX4_addJump 18 = .ok (.getfield 15, 3) := by decide +kernel
theorem dX4_addJump_21 : decode cX4_addJump 21 = .ok (.iload_n 3, 1) := by decide +kernel
theorem dX4_addJump_22 : decode cX4_addJump 22 = .ok (.iload 4, 2) := by decide +kernel
theorem dX4_addJump_24 : decode cX4_addJump 24 = .ok (.invokevirtual 77, 3) := by decide +kernel
theorem dX4_addJump_27 : decode cX4_addJump 27 = .ok (.aload_n 0, 1) := by decide +kernel
theorem dX4_addJump_28 : decode cX4_addJump 28 = .ok (.getfield 15, 3) := by decide +kernel
theorem dX4_addJump_31 : decode cX4_addJump 31 = .ok (.iload_n 1, 1) := by decide +kernel
theorem dX4_addJump_32 : decode cX4_addJump 32 = .ok (.iload 4, 2) := by decide +kernel
theorem dX4_addJump_34 : decode cX4_addJump 34 = .ok (.iconst 1, 1) := by decide +kernel
theorem dX4_addJump_35 : decode cX4_addJump 35 = .ok (.iadd, 1) := by decide +kernel
theorem dX4_addJump_36 : decode cX4_addJump 36 = .ok (.invokevirtual 59, 3) := by decide +kernel
theorem dX4_addJump_39 : decode cX4_addJump 39 = .ok (.iload 4, 2) := by decide +kernel
theorem dX4_addJump_41 : decode cX4_addJump 41 = .ok (.ireturn, 1) := by decide +kernel
theorem dX4_readPiece_0 : decode cX4_readPiece 0 = .ok (.aload_n 0, 1) := by decide +kernel
theorem dX4_readPiece_1 : decode cX4_readPiece 1 = .ok (.getfield 9, 3) := by decide +kernel
theorem dX4_readPiece_4 : decode cX4_readPiece 4 = .ok (.invokevirtual 27, 3) := by decide +kernel
theorem dX4_readPiece_7 : decode cX4_readPiece 7 = .ok (.bipush 33, 2) := by decide +kernel
theorem dX4_readPiece_9 : decode cX4_readPiece 9 = .ok (.if_icmp .ne 30, 3) := by decide +kernel
theorem dX4_readPiece_12 : decode cX4_readPiece 12 = .ok (.aload_n 0, 1) := by decide +kernel
theorem dX4_readPiece_13 : decode cX4_readPiece 13 = .ok (.iload_n 1, 1) := by decide +kernel
theorem dX4_readPiece_14 : decode cX4_readPiece 14 = .ok (.invokevirtual 83, 3) := by decide +kernel
theorem dX4_readPiece_17 : decode cX4_readPiece 17 = .ok (.ifCond .eq 105, 3) := by decide +kernel
theorem dX4_readPiece_20 : decode cX4_readPiece 20 = .ok (.aload_n 0, 1) := by decide +kernel
theorem dX4_readPiece_21 : decode cX4_readPiece 21 = .ok (.iload_n 1, 1) := by decide +kernel
theorem dX4_readPiece_22 : decode cX4_readPiece 22 = .ok (.iconst 1, 1) := by decide +kernel
theorem dX4_readPiece_23 : decode cX4_readPiece 23 = .ok (.iadd, 1) := by decide +kernel
theorem dX4_readPiece_24 : decode cX4_readPiece 24 = .ok (.invokevirtual 80, 3) := by decide +kernel
theorem dX4_readPiece_27 : decode cX4_readPiece 27 = .ok (.aload_n 0, 1) := by decide +kernel
theorem dX4_readPiece_28 : decode cX4_readPiece 28 = .ok (.getfield 15, 3) := by decide +kernel
theorem dX4_readPiece_31 : decode cX4_readPiece 31 = .ok (.iconst 3, 1) := by decide +kernel
theorem dX4_readPiece_32 : decode cX4_readPiece 32 = .ok (.iconst 0, 1) := by decide +kernel
theorem dX4_readPiece_33 : decode cX4_readPiece 33 = .ok (.invokevirtual 59, 3) := by decide +kernel
theorem dX4_readPiece_36 : decode cX4_readPiece 36 = .ok (.goto 86, 3) := by decide +kernel
theorem dX4_readPiece_39 : decode cX4_readPiece 39 = .ok (.aload_n 0, 1) := by decide +kernel
theorem dX4_readPiece_40 : decode cX4_readPiece 40 = .ok (.getfield 9, 3) := by decide +kernel
theorem dX4_readPiece_43 : decode cX4_readPiece 43 = .ok (.invokevirtual 27, 3) := by decide +kernel
theorem dX4_readPiece_46 : decode cX4_readPiece 46 = .ok (.bipush 40, 2) := by decide +kernel
theorem dX4_readPiece_48 : decode cX4_readPiece 48 = .ok (.if_icmp .ne 30, 3) := by decide +kernel
theorem dX4_readPiece_51 : decode cX4_readPiece 51 = .ok (.aload_n 0, 1) := by decide +kernel
theorem dX4_readPiece_52 : decode cX4_readPiece 52 = .ok (.iload_n 1, 1) := by decide +kernel
theorem dX4_readPiece_53 : decode cX4_readPiece 53 = .ok (.invokevirtual 83, 3) := by decide +kernel
theorem dX4_readPiece_56 : decode cX4_readPiece 56 = .ok (.ifCond .eq 66, 3) := by decide +kernel
theorem dX4_readPiece_59 : decode cX4_readPiece 59 = .ok (.aload_n 0, 1) := by decide +kernel
theorem dX4_readPiece_60 : decode cX4_readPiece 60 = .ok (.iload_n 1, 1) := by decide +kernel
theorem dX4_readPiece_61 : decode cX4_readPiece 61 = .ok (.iconst 1, 1) := by decide +kernel
theorem dX4_readPiece_62 : decode cX4_readPiece 62 = .ok (.iadd, 1) := by decide +kernel
theorem dX4_readPiece_63 : decode cX4_readPiece 63 = .ok (.invokevirtual 63, 3) := by decide +kernel
theorem dX4_readPiece_66 : decode cX4_readPiece 66 = .ok (.aload_n 0, 1) := by decide +kernel
theorem dX4_readPiece_67 : decode cX4_readPiece 67 = .ok (.getfield 9, 3) := by decide +kernel
theorem dX4_readPiece_70 : decode cX4_readPiece 70 = .ok (.bipush 41, 2) := by decide +kernel
theorem dX4_readPiece_72 : decode cX4_readPiece 72 = .ok (.invokevirtual 33, 3) := by decide +kernel
theorem dX4_readPiece_75 : decode cX4_readPiece 75 = .ok (.goto 47, 3) := by decide +kernel
theorem dX4_readPiece_78 : decode cX4_readPiece 78 = .ok (.aload_n 0, 1) := by decide +kernel
theorem dX4_readPiece_79 : decode cX4_readPiece 79 = .ok (.iload_n 1, 1) := by decide +kernel
theorem dX4_readPiece_80 : decode cX4_readPiece 80 = .ok (.invokevirtual 56, 3) := by decide +kernel
theorem dX4_readPiece_83 : decode cX4_readPiece 83 = .ok (.aload_n 0, 1) := by decide +kernel
theorem dX4_readPiece_84 : decode cX4_readPiece 84 = .ok (.aload_n 0, 1) := by decide +kernel
theorem dX4_readPiece_85 : decode cX4_readPiece 85 = .ok (.getfield 9, 3) := by decide +kernel
theorem dX4_readPiece_88 : decode cX4_readPiece 88 = .ok (.invokevirtual 27, 3) := by decide +kernel
theorem dX4_readPiece_91 : decode cX4_readPiece 91 = .ok (.invokevirtual 87, 3) := by decide +kernel
theorem dX4_readPiece_94 : decode cX4_readPiece 94 = .ok (.istore_n 2, 1) := by decide +kernel
theorem dX4_readPiece_95 : decode cX4_readPiece 95 = .ok (.aload_n 0, 1) := by decide +kernel
theorem dX4_readPiece_96 : decode cX4_readPiece 96 = .ok (.getfield 9, 3) := by decide +kernel
theorem dX4_readPiece_99 : decode cX4_readPiece 99 = .ok (.dup, 1) := by decide +kernel
theorem dX4_readPiece_100 : decode cX4_readPiece 100 = .ok (.getfield 50, 3) := by decide +kernel
theorem dX4_readPiece_103 : decode cX4_readPiece 103 = .ok (.iconst 1, 1) := by decide +kernel
theorem dX4_readPiece_104 : decode cX4_readPiece 104 = .ok (.iadd, 1) := by decide +kernel
theorem dX4_readPiece_105 : decode cX4_readPiece 105 = .ok (.putfield 50, 3) := by decide +kernel
theorem dX4_readPiece_108 : decode cX4_readPiece 108 = .ok (.aload_n 0, 1) := by decide +kernel
theorem dX4_readPiece_109 : decode cX4_readPiece 109 = .ok (.iload_n 1, 1) := by decide +kernel
theorem dX4_readPiece_110 : decode cX4_readPiece 110 = .ok (.invokevirtual 56, 3) := by decide +kernel
theorem dX4_readPiece_113 : decode cX4_readPiece 113 = .ok (.aload_n 0, 1) := by decide +kernel
theorem dX4_readPiece_114 : decode cX4_readPiece 114 = .ok (.getfield 15, 3) := by decide +kernel
theorem dX4_readPiece_117 : decode cX4_readPiece 117 = .ok (.iload_n 2, 1) := by decide +kernel
theorem dX4_readPiece_118 : decode cX4_readPiece 118 = .ok (.iconst 0, 1) := by decide +kernel
theorem dX4_readPiece_119 : decode cX4_readPiece 119 = .ok (.invokevirtual 59, 3) := by decide +kernel
theorem dX4_readPiece_122 : decode cX4_readPiece 122 = .ok (.return_, 1) := by decide +kernel
theorem dX4_comparisonAt_0 : decode cX4_comparisonAt 0 = .ok (.iload_n 1, 1) := by decide +kernel
theorem dX4_comparisonAt_1 : decode cX4_comparisonAt 1 = .ok (.bipush 60, 2) := by decide +kernel
theorem dX4_comparisonAt_3 : decode cX4_comparisonAt 3 = .ok (.if_icmp .eq 23, 3) := by decide +kernel
theorem dX4_comparisonAt_6 : decode cX4_comparisonAt 6 = .ok (.iload_n 1, 1) := by decide +kernel
theorem dX4_comparisonAt_7 : decode cX4_comparisonAt 7 = .ok (.bipush 62, 2) := by decide +kernel
theorem dX4_comparisonAt_9 : decode cX4_comparisonAt 9 = .ok (.if_icmp .eq 17, 3) := by decide +kernel
theorem dX4_comparisonAt_12 : decode cX4_comparisonAt 12 = .ok (.iload_n 1, 1) := by decide +kernel
theorem dX4_comparisonAt_13 : decode cX4_comparisonAt 13 = .ok (.bipush 61, 2) := by decide +kernel
theorem dX4_comparisonAt_15 : decode cX4_comparisonAt 15 = .ok (.if_icmp .eq 11, 3) := by decide +kernel
theorem dX4_comparisonAt_18 : decode cX4_comparisonAt 18 = .ok (.aload_n 0, 1) := by decide +kernel
theorem dX4_comparisonAt_19 : decode cX4_comparisonAt 19 = .ok (.getfield 9, 3) := by decide +kernel
theorem dX4_comparisonAt_22 : decode cX4_comparisonAt 22 = .ok (.iconst 1, 1) := by decide +kernel
theorem dX4_comparisonAt_23 : decode cX4_comparisonAt 23 = .ok (.invokevirtual 40, 3) := by decide +kernel
theorem dX4_comparisonAt_26 : decode cX4_comparisonAt 26 = .ok (.iload_n 1, 1) := by decide +kernel
theorem dX4_comparisonAt_27 : decode cX4_comparisonAt 27 = .ok (.bipush 60, 2) := by decide +kernel
theorem dX4_comparisonAt_29 : decode cX4_comparisonAt 29 = .ok (.if_icmp .ne 6, 3) := by decide +kernel
theorem dX4_comparisonAt_32 : decode cX4_comparisonAt 32 = .ok (.bipush 11, 2) := by decide +kernel
theorem dX4_comparisonAt_34 : decode cX4_comparisonAt 34 = .ok (.ireturn, 1) := by decide +kernel
theorem dX4_comparisonAt_35 : decode cX4_comparisonAt 35 = .ok (.iload_n 1, 1) := by decide +kernel
theorem dX4_comparisonAt_36 : decode cX4_comparisonAt 36 = .ok (.bipush 62, 2) := by decide +kernel
theorem dX4_comparisonAt_38 : decode cX4_comparisonAt 38 = .ok (.if_icmp .ne 8, 3) := by decide +kernel
theorem dX4_comparisonAt_41 : decode cX4_comparisonAt 41 = .ok (.bipush 12, 2) := by decide +kernel
theorem dX4_comparisonAt_43 : decode cX4_comparisonAt 43 = .ok (.goto 5, 3) := by decide +kernel
theorem dX4_comparisonAt_46 : decode cX4_comparisonAt 46 = .ok (.bipush 13, 2) := by decide +kernel
theorem dX4_comparisonAt_48 : decode cX4_comparisonAt 48 = .ok (.ireturn, 1) := by decide +kernel
theorem dX4_goesDeeper_0 : decode cX4_goesDeeper 0 = .ok (.iload_n 1, 1) := by decide +kernel
theorem dX4_goesDeeper_1 : decode cX4_goesDeeper 1 = .ok (.bipush 6, 2) := by decide +kernel
theorem dX4_goesDeeper_3 : decode cX4_goesDeeper 3 = .ok (.if_icmp .lt 13, 3) := by decide +kernel
theorem dX4_goesDeeper_6 : decode cX4_goesDeeper 6 = .ok (.aload_n 0, 1) := by decide +kernel
theorem dX4_goesDeeper_7 : decode cX4_goesDeeper 7 = .ok (.getfield 9, 3) := by decide +kernel
theorem dX4_goesDeeper_10 : decode cX4_goesDeeper 10 = .ok (.iconst 5, 1) := by decide +kernel
theorem dX4_goesDeeper_11 : decode cX4_goesDeeper 11 = .ok (.invokevirtual 40, 3) := by decide +kernel
theorem dX4_goesDeeper_14 : decode cX4_goesDeeper 14 = .ok (.iconst 0, 1) := by decide +kernel
theorem dX4_goesDeeper_15 : decode cX4_goesDeeper 15 = .ok (.ireturn, 1) := by decide +kernel
theorem dX4_goesDeeper_16 : decode cX4_goesDeeper 16 = .ok (.aload_n 0, 1) := by decide +kernel
theorem dX4_goesDeeper_17 : decode cX4_goesDeeper 17 = .ok (.getfield 9, 3) := by decide +kernel
theorem dX4_goesDeeper_20 : decode cX4_goesDeeper 20 = .ok (.dup, 1) := by decide +kernel
theorem dX4_goesDeeper_21 : decode cX4_goesDeeper 21 = .ok (.getfield 50, 3) := by decide +kernel
theorem dX4_goesDeeper_24 : decode cX4_goesDeeper 24 = .ok (.iconst 1, 1) := by decide +kernel
theorem dX4_goesDeeper_25 : decode cX4_goesDeeper 25 = .ok (.iadd, 1) := by decide +kernel
theorem dX4_goesDeeper_26 : decode cX4_goesDeeper 26 = .ok (.putfield 50, 3) := by decide +kernel
theorem dX4_goesDeeper_29 : decode cX4_goesDeeper 29 = .ok (.iconst 1, 1) := by decide +kernel
theorem dX4_goesDeeper_30 : decode cX4_goesDeeper 30 = .ok (.ireturn, 1) := by decide +kernel
theorem dX4_readSum_0 : decode cX4_readSum 0 = .ok (.aload_n 0, 1) := by decide +kernel
theorem dX4_readSum_1 : decode cX4_readSum 1 = .ok (.iload_n 1, 1) := by decide +kernel
theorem dX4_readSum_2 : decode cX4_readSum 2 = .ok (.invokevirtual 91, 3) := by decide +kernel
theorem dX4_readSum_5 : decode cX4_readSum 5 = .ok (.iconst 0, 1) := by decide +kernel
theorem dX4_readSum_6 : decode cX4_readSum 6 = .ok (.istore_n 2, 1) := by decide +kernel
theorem dX4_readSum_7 : decode cX4_readSum 7 = .ok (.iload_n 2, 1) := by decide +kernel
theorem dX4_readSum_8 : decode cX4_readSum 8 = .ok (.sipush 200, 3) := by decide +kernel
theorem dX4_readSum_11 : decode cX4_readSum 11 = .ok (.if_icmp .ge 80, 3) := by decide +kernel
theorem dX4_readSum_14 : decode cX4_readSum 14 = .ok (.aload_n 0, 1) := by decide +kernel
theorem dX4_readSum_15 : decode cX4_readSum 15 = .ok (.getfield 9, 3) := by decide +kernel
theorem dX4_readSum_18 : decode cX4_readSum 18 = .ok (.invokevirtual 27, 3) := by decide +kernel
theorem dX4_readSum_21 : decode cX4_readSum 21 = .ok (.bipush 43, 2) := by decide +kernel
theorem dX4_readSum_23 : decode cX4_readSum 23 = .ok (.if_icmp .eq 15, 3) := by decide +kernel
theorem dX4_readSum_26 : decode cX4_readSum 26 = .ok (.aload_n 0, 1) := by decide +kernel
theorem dX4_readSum_27 : decode cX4_readSum 27 = .ok (.getfield 9, 3) := by decide +kernel
theorem dX4_readSum_30 : decode cX4_readSum 30 = .ok (.invokevirtual 27, 3) := by decide +kernel
theorem dX4_readSum_33 : decode cX4_readSum 33 = .ok (.bipush 45, 2) := by decide +kernel
theorem dX4_readSum_35 : decode cX4_readSum 35 = .ok (.if_icmp .ne 56, 3) := by decide +kernel
theorem dX4_readSum_38 : decode cX4_readSum 38 = .ok (.aload_n 0, 1) := by decide +kernel
theorem dX4_readSum_39 : decode cX4_readSum 39 = .ok (.getfield 9, 3) := by decide +kernel
theorem dX4_readSum_42 : decode cX4_readSum 42 = .ok (.invokevirtual 27, 3) := by decide +kernel
theorem dX4_readSum_45 : decode cX4_readSum 45 = .ok (.bipush 43, 2) := by decide +kernel
theorem dX4_readSum_47 : decode cX4_readSum 47 = .ok (.if_icmp .ne 8, 3) := by decide +kernel
theorem dX4_readSum_50 : decode cX4_readSum 50 = .ok (.bipush 6, 2) := by decide +kernel
theorem dX4_readSum_52 : decode cX4_readSum 52 = .ok (.goto 5, 3) := by decide +kernel
theorem dX4_readSum_55 : decode cX4_readSum 55 = .ok (.bipush 7, 2) := by decide +kernel
theorem dX4_readSum_57 : decode cX4_readSum 57 = .ok (.istore_n 3, 1) := by decide +kernel
theorem dX4_readSum_58 : decode cX4_readSum 58 = .ok (.aload_n 0, 1) := by decide +kernel
theorem dX4_readSum_59 : decode cX4_readSum 59 = .ok (.getfield 9, 3) := by decide +kernel
theorem dX4_readSum_62 : decode cX4_readSum 62 = .ok (.dup, 1) := by decide +kernel
theorem dX4_readSum_63 : decode cX4_readSum 63 = .ok (.getfield 50, 3) := by decide +kernel
theorem dX4_readSum_66 : decode cX4_readSum 66 = .ok (.iconst 1, 1) := by decide +kernel
theorem dX4_readSum_67 : decode cX4_readSum 67 = .ok (.iadd, 1) := by decide +kernel
theorem dX4_readSum_68 : decode cX4_readSum 68 = .ok (.putfield 50, 3) := by decide +kernel
theorem dX4_readSum_71 : decode cX4_readSum 71 = .ok (.aload_n 0, 1) := by decide +kernel
theorem dX4_readSum_72 : decode cX4_readSum 72 = .ok (.iload_n 1, 1) := by decide +kernel
theorem dX4_readSum_73 : decode cX4_readSum 73 = .ok (.invokevirtual 91, 3) := by decide +kernel
theorem dX4_readSum_76 : decode cX4_readSum 76 = .ok (.aload_n 0, 1) := by decide +kernel
theorem dX4_readSum_77 : decode cX4_readSum 77 = .ok (.getfield 15, 3) := by decide +kernel
theorem dX4_readSum_80 : decode cX4_readSum 80 = .ok (.iload_n 3, 1) := by decide +kernel
theorem dX4_readSum_81 : decode cX4_readSum 81 = .ok (.iconst 0, 1) := by decide +kernel
theorem dX4_readSum_82 : decode cX4_readSum 82 = .ok (.invokevirtual 59, 3) := by decide +kernel
theorem dX4_readSum_85 : decode cX4_readSum 85 = .ok (.iinc 2 1, 3) := by decide +kernel
theorem dX4_readSum_88 : decode cX4_readSum 88 = .ok (.goto (-81), 3) := by decide +kernel
theorem dX4_readSum_91 : decode cX4_readSum 91 = .ok (.return_, 1) := by decide +kernel
theorem dX4_readProduct_0 : decode cX4_readProduct 0 = .ok (.aload_n 0, 1) := by decide +kernel
theorem dX4_readProduct_1 : decode cX4_readProduct 1 = .ok (.iload_n 1, 1) := by decide +kernel
theorem dX4_readProduct_2 : decode cX4_readProduct 2 = .ok (.invokevirtual 94, 3) := by decide +kernel
theorem dX4_readProduct_5 : decode cX4_readProduct 5 = .ok (.iconst 0, 1) := by decide +kernel
theorem dX4_readProduct_6 : decode cX4_readProduct 6 = .ok (.istore_n 2, 1) := by decide +kernel
theorem dX4_readProduct_7 : decode cX4_readProduct 7 = .ok (.iload_n 2, 1) := by decide +kernel
theorem dX4_readProduct_8 : decode cX4_readProduct 8 = .ok (.sipush 200, 3) := by decide +kernel
theorem dX4_readProduct_11 : decode cX4_readProduct 11 = .ok (.if_icmp .ge 61, 3) := by decide +kernel
theorem dX4_readProduct_14 : decode cX4_readProduct 14 = .ok (.aload_n 0, 1) := by decide +kernel
theorem dX4_readProduct_15 : decode cX4_readProduct 15 = .ok (.getfield 9, 3) := by decide +kernel
theorem dX4_readProduct_18 : decode cX4_readProduct 18 = .ok (.invokevirtual 27, 3) := by decide +kernel
theorem dX4_readProduct_21 : decode cX4_readProduct 21 = .ok (.invokestatic 97, 3) := by decide +kernel
theorem dX4_readProduct_24 : decode cX4_readProduct 24 = .ok (.iconst (-1), 1) := by decide +kernel
theorem dX4_readProduct_25 : decode cX4_readProduct 25 = .ok (.if_icmp .eq 47, 3) := by decide +kernel
theorem dX4_readProduct_28 : decode cX4_readProduct 28 = .ok (.aload_n 0, 1) := by decide +kernel
theorem dX4_readProduct_29 : decode cX4_readProduct 29 = .ok (.getfield 9, 3) := by decide +kernel
theorem dX4_readProduct_32 : decode cX4_readProduct 32 = .ok (.invokevirtual 27, 3) := by decide +kernel
theorem dX4_readProduct_35 : decode cX4_readProduct 35 = .ok (.invokestatic 97, 3) := by decide +kernel
theorem dX4_readProduct_38 : decode cX4_readProduct 38 = .ok (.istore_n 3, 1) := by decide +kernel
theorem dX4_readProduct_39 : decode cX4_readProduct 39 = .ok (.aload_n 0, 1) := by decide +kernel
theorem dX4_readProduct_40 : decode cX4_readProduct 40 = .ok (.getfield 9, 3) := by decide +kernel
theorem dX4_readProduct_43 : decode cX4_readProduct 43 = .ok (.dup, 1) := by decide +kernel
theorem dX4_readProduct_44 : decode cX4_readProduct 44 = .ok (.getfield 50, 3) := by decide +kernel
theorem dX4_readProduct_47 : decode cX4_readProduct 47 = .ok (.iconst 1, 1) := by decide +kernel
theorem dX4_readProduct_48 : decode cX4_readProduct 48 = .ok (.iadd, 1) := by decide +kernel
theorem dX4_readProduct_49 : decode cX4_readProduct 49 = .ok (.putfield 50, 3) := by decide +kernel
theorem dX4_readProduct_52 : decode cX4_readProduct 52 = .ok (.aload_n 0, 1) := by decide +kernel
theorem dX4_readProduct_53 : decode cX4_readProduct 53 = .ok (.iload_n 1, 1) := by decide +kernel
theorem dX4_readProduct_54 : decode cX4_readProduct 54 = .ok (.invokevirtual 94, 3) := by decide +kernel
theorem dX4_readProduct_57 : decode cX4_readProduct 57 = .ok (.aload_n 0, 1) := by decide +kernel
theorem dX4_readProduct_58 : decode cX4_readProduct 58 = .ok (.getfield 15, 3) := by decide +kernel
theorem dX4_readProduct_61 : decode cX4_readProduct 61 = .ok (.iload_n 3, 1) := by decide +kernel
theorem dX4_readProduct_62 : decode cX4_readProduct 62 = .ok (.iconst 0, 1) := by decide +kernel
theorem dX4_readProduct_63 : decode cX4_readProduct 63 = .ok (.invokevirtual 59, 3) := by decide +kernel
theorem dX4_readProduct_66 : decode cX4_readProduct 66 = .ok (.iinc 2 1, 3) := by decide +kernel
theorem dX4_readProduct_69 : decode cX4_readProduct 69 = .ok (.goto (-62), 3) := by decide +kernel
theorem dX4_readProduct_72 : decode cX4_readProduct 72 = .ok (.return_, 1) := by decide +kernel
theorem dX4_timesAt_0 : decode cX4_timesAt 0 = .ok (.iload_n 0, 1) := by decide +kernel
theorem dX4_timesAt_1 : decode cX4_timesAt 1 = .ok (.bipush 42, 2) := by decide +kernel
theorem dX4_timesAt_3 : decode cX4_timesAt 3 = .ok (.if_icmp .ne 6, 3) := by decide +kernel
theorem dX4_timesAt_6 : decode cX4_timesAt 6 = .ok (.bipush 8, 2) := by decide +kernel
theorem dX4_timesAt_8 : decode cX4_timesAt 8 = .ok (.ireturn, 1) := by decide +kernel
theorem dX4_timesAt_9 : decode cX4_timesAt 9 = .ok (.iload_n 0, 1) := by decide +kernel
theorem dX4_timesAt_10 : decode cX4_timesAt 10 = .ok (.bipush 47, 2) := by decide +kernel
theorem dX4_timesAt_12 : decode cX4_timesAt 12 = .ok (.if_icmp .ne 6, 3) := by decide +kernel
theorem dX4_timesAt_15 : decode cX4_timesAt 15 = .ok (.bipush 9, 2) := by decide +kernel
theorem dX4_timesAt_17 : decode cX4_timesAt 17 = .ok (.ireturn, 1) := by decide +kernel
theorem dX4_timesAt_18 : decode cX4_timesAt 18 = .ok (.iload_n 0, 1) := by decide +kernel
theorem dX4_timesAt_19 : decode cX4_timesAt 19 = .ok (.bipush 37, 2) := by decide +kernel
theorem dX4_timesAt_21 : decode cX4_timesAt 21 = .ok (.if_icmp .ne 8, 3) := by decide +kernel
theorem dX4_timesAt_24 : decode cX4_timesAt 24 = .ok (.bipush 10, 2) := by decide +kernel
theorem dX4_timesAt_26 : decode cX4_timesAt 26 = .ok (.goto 4, 3) := by decide +kernel
theorem dX4_timesAt_29 : decode cX4_timesAt 29 = .ok (.iconst (-1), 1) := by decide +kernel
theorem dX4_timesAt_30 : decode cX4_timesAt 30 = .ok (.ireturn, 1) := by decide +kernel
theorem dX4_readFactor_0 : decode cX4_readFactor 0 = .ok (.aload_n 0, 1) := by decide +kernel
theorem dX4_readFactor_1 : decode cX4_readFactor 1 = .ok (.getfield 9, 3) := by decide +kernel
theorem dX4_readFactor_4 : decode cX4_readFactor 4 = .ok (.invokevirtual 27, 3) := by decide +kernel
theorem dX4_readFactor_7 : decode cX4_readFactor 7 = .ok (.istore_n 2, 1) := by decide +kernel
theorem dX4_readFactor_8 : decode cX4_readFactor 8 = .ok (.iload_n 2, 1) := by decide +kernel
theorem dX4_readFactor_9 : decode cX4_readFactor 9 = .ok (.bipush 91, 2) := by decide +kernel
theorem dX4_readFactor_11 : decode cX4_readFactor 11 = .ok (.if_icmp .ne 30, 3) := by decide +kernel
theorem dX4_readFactor_14 : decode cX4_readFactor 14 = .ok (.aload_n 0, 1) := by decide +kernel
theorem dX4_readFactor_15 : decode cX4_readFactor 15 = .ok (.iload_n 1, 1) := by decide +kernel
theorem dX4_readFactor_16 : decode cX4_readFactor 16 = .ok (.invokevirtual 83, 3) := by decide +kernel
theorem dX4_readFactor_19 : decode cX4_readFactor 19 = .ok (.ifCond .eq 82, 3) := by decide +kernel
theorem dX4_readFactor_22 : decode cX4_readFactor 22 = .ok (.aload_n 0, 1) := by decide +kernel
theorem dX4_readFactor_23 : decode cX4_readFactor 23 = .ok (.iload_n 1, 1) := by decide +kernel
theorem dX4_readFactor_24 : decode cX4_readFactor 24 = .ok (.iconst 1, 1) := by decide +kernel
theorem dX4_readFactor_25 : decode cX4_readFactor 25 = .ok (.iadd, 1) := by decide +kernel
theorem dX4_readFactor_26 : decode cX4_readFactor 26 = .ok (.invokevirtual 56, 3) := by decide +kernel
theorem dX4_readFactor_29 : decode cX4_readFactor 29 = .ok (.aload_n 0, 1) := by decide +kernel
theorem dX4_readFactor_30 : decode cX4_readFactor 30 = .ok (.getfield 9, 3) := by decide +kernel
theorem dX4_readFactor_33 : decode cX4_readFactor 33 = .ok (.bipush 93, 2) := by decide +kernel
theorem dX4_readFactor_35 : decode cX4_readFactor 35 = .ok (.invokevirtual 33, 3) := by decide +kernel
theorem dX4_readFactor_38 : decode cX4_readFactor 38 = .ok (.goto 63, 3) := by decide +kernel
theorem dX4_readFactor_41 : decode cX4_readFactor 41 = .ok (.aload_n 0, 1) := by decide +kernel
theorem dX4_readFactor_42 : decode cX4_readFactor 42 = .ok (.getfield 9, 3) := by decide +kernel
theorem dX4_readFactor_45 : decode cX4_readFactor 45 = .ok (.invokevirtual 100, 3) := by decide +kernel
theorem dX4_readFactor_48 : decode cX4_readFactor 48 = .ok (.ifCond .eq 10, 3) := by decide +kernel
theorem dX4_readFactor_51 : decode cX4_readFactor 51 = .ok (.aload_n 0, 1) := by decide +kernel
theorem dX4_readFactor_52 : decode cX4_readFactor 52 = .ok (.invokevirtual 104, 3) := by decide +kernel
theorem dX4_readFactor_55 : decode cX4_readFactor 55 = .ok (.goto 46, 3) := by decide +kernel
theorem dX4_readFactor_58 : decode cX4_readFactor 58 = .ok (.iload_n 2, 1) := by decide +kernel
theorem dX4_readFactor_59 : decode cX4_readFactor 59 = .ok (.invokestatic 107, 3) := by decide +kernel
theorem dX4_readFactor_62 : decode cX4_readFactor 62 = .ok (.ifCond .eq 31, 3) := by decide +kernel
theorem dX4_readFactor_65 : decode cX4_readFactor 65 = .ok (.aload_n 0, 1) := by decide +kernel
theorem dX4_readFactor_66 : decode cX4_readFactor 66 = .ok (.getfield 9, 3) := by decide +kernel
theorem dX4_readFactor_69 : decode cX4_readFactor 69 = .ok (.dup, 1) := by decide +kernel
theorem dX4_readFactor_70 : decode cX4_readFactor 70 = .ok (.getfield 50, 3) := by decide +kernel
theorem dX4_readFactor_73 : decode cX4_readFactor 73 = .ok (.iconst 1, 1) := by decide +kernel
theorem dX4_readFactor_74 : decode cX4_readFactor 74 = .ok (.iadd, 1) := by decide +kernel
theorem dX4_readFactor_75 : decode cX4_readFactor 75 = .ok (.putfield 50, 3) := by decide +kernel
theorem dX4_readFactor_78 : decode cX4_readFactor 78 = .ok (.aload_n 0, 1) := by decide +kernel
theorem dX4_readFactor_79 : decode cX4_readFactor 79 = .ok (.getfield 15, 3) := by decide +kernel
theorem dX4_readFactor_82 : decode cX4_readFactor 82 = .ok (.iconst 1, 1) := by decide +kernel
theorem dX4_readFactor_83 : decode cX4_readFactor 83 = .ok (.iload_n 2, 1) := by decide +kernel
theorem dX4_readFactor_84 : decode cX4_readFactor 84 = .ok (.bipush 97, 2) := by decide +kernel
theorem dX4_readFactor_86 : decode cX4_readFactor 86 = .ok (.isub, 1) := by decide +kernel
theorem dX4_readFactor_87 : decode cX4_readFactor 87 = .ok (.invokevirtual 59, 3) := by decide +kernel
theorem dX4_readFactor_90 : decode cX4_readFactor 90 = .ok (.goto 11, 3) := by decide +kernel
theorem dX4_readFactor_93 : decode cX4_readFactor 93 = .ok (.aload_n 0, 1) := by decide +kernel
theorem dX4_readFactor_94 : decode cX4_readFactor 94 = .ok (.getfield 9, 3) := by decide +kernel
theorem dX4_readFactor_97 : decode cX4_readFactor 97 = .ok (.iconst 1, 1) := by decide +kernel
theorem dX4_readFactor_98 : decode cX4_readFactor 98 = .ok (.invokevirtual 40, 3) := by decide +kernel
theorem dX4_readFactor_101 : decode cX4_readFactor 101 = .ok (.return_, 1) := by decide +kernel
theorem dX4_isLetter_0 : decode cX4_isLetter 0 = .ok (.iload_n 0, 1) := by decide +kernel
theorem dX4_isLetter_1 : decode cX4_isLetter 1 = .ok (.bipush 97, 2) := by decide +kernel
theorem dX4_isLetter_3 : decode cX4_isLetter 3 = .ok (.if_icmp .lt 23, 3) := by decide +kernel
theorem dX4_isLetter_6 : decode cX4_isLetter 6 = .ok (.iload_n 0, 1) := by decide +kernel
theorem dX4_isLetter_7 : decode cX4_isLetter 7 = .ok (.bipush 122, 2) := by decide +kernel
theorem dX4_isLetter_9 : decode cX4_isLetter 9 = .ok (.if_icmp .gt 17, 3) := by decide +kernel
theorem dX4_isLetter_12 : decode cX4_isLetter 12 = .ok (.ldc 110, 2) := by decide +kernel
theorem dX4_isLetter_14 : decode cX4_isLetter 14 = .ok (.iload_n 0, 1) := by decide +kernel
theorem dX4_isLetter_15 : decode cX4_isLetter 15 = .ok (.i2c, 1) := by decide +kernel
theorem dX4_isLetter_16 : decode cX4_isLetter 16 = .ok (.invokevirtual 112, 3) := by decide +kernel
theorem dX4_isLetter_19 : decode cX4_isLetter 19 = .ok (.ifCond .lt 7, 3) := by decide +kernel
theorem dX4_isLetter_22 : decode cX4_isLetter 22 = .ok (.iconst 1, 1) := by decide +kernel
theorem dX4_isLetter_23 : decode cX4_isLetter 23 = .ok (.goto 4, 3) := by decide +kernel
theorem dX4_isLetter_26 : decode cX4_isLetter 26 = .ok (.iconst 0, 1) := by decide +kernel
theorem dX4_isLetter_27 : decode cX4_isLetter 27 = .ok (.ireturn, 1) := by decide +kernel
theorem dX4_readNumber_0 : decode cX4_readNumber 0 = .ok (.iconst 0, 1) := by decide +kernel
theorem dX4_readNumber_1 : decode cX4_readNumber 1 = .ok (.istore_n 1, 1) := by decide +kernel
theorem dX4_readNumber_2 : decode cX4_readNumber 2 = .ok (.iconst 0, 1) := by decide +kernel
theorem dX4_readNumber_3 : decode cX4_readNumber 3 = .ok (.istore_n 2, 1) := by decide +kernel
theorem dX4_readNumber_4 : decode cX4_readNumber 4 = .ok (.iload_n 2, 1) := by decide +kernel
theorem dX4_readNumber_5 : decode cX4_readNumber 5 = .ok (.iconst 5, 1) := by decide +kernel
theorem dX4_readNumber_6 : decode cX4_readNumber 6 = .ok (.if_icmp .ge 48, 3) := by decide +kernel
theorem dX4_readNumber_9 : decode cX4_readNumber 9 = .ok (.aload_n 0, 1) := by decide +kernel
theorem dX4_readNumber_10 : decode cX4_readNumber 10 = .ok (.getfield 9, 3) := by decide +kernel
theorem dX4_readNumber_13 : decode cX4_readNumber 13 = .ok (.invokevirtual 100, 3) := by decide +kernel
theorem dX4_readNumber_16 : decode cX4_readNumber 16 = .ok (.ifCond .eq 38, 3) := by decide +kernel
theorem dX4_readNumber_19 : decode cX4_readNumber 19 = .ok (.bipush 10, 2) := by decide +kernel
theorem dX4_readNumber_21 : decode cX4_readNumber 21 = .ok (.iload_n 1, 1) := by decide +kernel
theorem dX4_readNumber_22 : decode cX4_readNumber 22 = .ok (.imul, 1) := by decide +kernel
theorem dX4_readNumber_23 : decode cX4_readNumber 23 = .ok (.aload_n 0, 1) := by decide +kernel
theorem dX4_readNumber_24 : decode cX4_readNumber 24 = .ok (.getfield 9, 3) := by decide +kernel
theorem dX4_readNumber_27 : decode cX4_readNumber 27 = .ok (.invokevirtual 27, 3) := by decide +kernel
theorem dX4_readNumber_30 : decode cX4_readNumber 30 = .ok (.iadd, 1) := by decide +kernel
theorem dX4_readNumber_31 : decode cX4_readNumber 31 = .ok (.bipush 48, 2) := by decide +kernel
theorem dX4_readNumber_33 : decode cX4_readNumber 33 = .ok (.isub, 1) := by decide +kernel
theorem dX4_readNumber_34 : decode cX4_readNumber 34 = .ok (.istore_n 1, 1) := by decide +kernel
theorem dX4_readNumber_35 : decode cX4_readNumber 35 = .ok (.aload_n 0, 1) := by decide +kernel
theorem dX4_readNumber_36 : decode cX4_readNumber 36 = .ok (.getfield 9, 3) := by decide +kernel
theorem dX4_readNumber_39 : decode cX4_readNumber 39 = .ok (.dup, 1) := by decide +kernel
theorem dX4_readNumber_40 : decode cX4_readNumber 40 = .ok (.getfield 50, 3) := by decide +kernel
theorem dX4_readNumber_43 : decode cX4_readNumber 43 = .ok (.iconst 1, 1) := by decide +kernel
theorem dX4_readNumber_44 : decode cX4_readNumber 44 = .ok (.iadd, 1) := by decide +kernel
theorem dX4_readNumber_45 : decode cX4_readNumber 45 = .ok (.putfield 50, 3) := by decide +kernel
theorem dX4_readNumber_48 : decode cX4_readNumber 48 = .ok (.iinc 2 1, 3) := by decide +kernel
theorem dX4_readNumber_51 : decode cX4_readNumber 51 = .ok (.goto (-47), 3) := by decide +kernel
theorem dX4_readNumber_54 : decode cX4_readNumber 54 = .ok (.aload_n 0, 1) := by decide +kernel
theorem dX4_readNumber_55 : decode cX4_readNumber 55 = .ok (.getfield 9, 3) := by decide +kernel
theorem dX4_readNumber_58 : decode cX4_readNumber 58 = .ok (.invokevirtual 100, 3) := by decide +kernel
theorem dX4_readNumber_61 : decode cX4_readNumber 61 = .ok (.ifCond .eq 11, 3) := by decide +kernel
theorem dX4_readNumber_64 : decode cX4_readNumber 64 = .ok (.aload_n 0, 1) := by decide +kernel
theorem dX4_readNumber_65 : decode cX4_readNumber 65 = .ok (.getfield 9, 3) := by decide +kernel
theorem dX4_readNumber_68 : decode cX4_readNumber 68 = .ok (.iconst 2, 1) := by decide +kernel
theorem dX4_readNumber_69 : decode cX4_readNumber 69 = .ok (.invokevirtual 40, 3) := by decide +kernel
theorem dX4_readNumber_72 : decode cX4_readNumber 72 = .ok (.aload_n 0, 1) := by decide +kernel
theorem dX4_readNumber_73 : decode cX4_readNumber 73 = .ok (.getfield 15, 3) := by decide +kernel
theorem dX4_readNumber_76 : decode cX4_readNumber 76 = .ok (.iconst 0, 1) := by decide +kernel
theorem dX4_readNumber_77 : decode cX4_readNumber 77 = .ok (.iload_n 1, 1) := by decide +kernel
theorem dX4_readNumber_78 : decode cX4_readNumber 78 = .ok (.invokevirtual 59, 3) := by decide +kernel
theorem dX4_readNumber_81 : decode cX4_readNumber 81 = .ok (.return_, 1) := by decide +kernel
theorem dX5_init_0 : decode cX5_init 0 = .ok (.aload_n 0, 1) := by decide +kernel
theorem dX5_init_1 : decode cX5_init 1 = .ok (.invokespecial 3, 3) := by decide +kernel
theorem dX5_init_4 : decode cX5_init 4 = .ok (.aload_n 0, 1) := by decide +kernel
theorem dX5_init_5 : decode cX5_init 5 = .ok (.bipush 96, 2) := by decide +kernel
theorem dX5_init_7 : decode cX5_init 7 = .ok (.newarray .int, 2) := by decide +kernel
theorem dX5_init_9 : decode cX5_init 9 = .ok (.putfield 9, 3) := by decide +kernel
theorem dX5_init_12 : decode cX5_init 12 = .ok (.aload_n 0, 1) := by decide +kernel
theorem dX5_init_13 : decode cX5_init 13 = .ok (.sipush 4096, 3) := by decide +kernel
theorem dX5_init_16 : decode cX5_init 16 = .ok (.newarray .int, 2) := by decide +kernel
theorem dX5_init_18 : decode cX5_init 18 = .ok (.putfield 15, 3) := by decide +kernel
theorem dX5_init_21 : decode cX5_init 21 = .ok (.return_, 1) := by decide +kernel
theorem dX5_fill_0 : decode cX5_fill 0 = .ok (.aload_n 0, 1) := by decide +kernel
theorem dX5_fill_1 : decode cX5_fill 1 = .ok (.iload_n 1, 1) := by decide +kernel
theorem dX5_fill_2 : decode cX5_fill 2 = .ok (.putfield 18, 3) := by decide +kernel
theorem dX5_fill_5 : decode cX5_fill 5 = .ok (.sipush 4095, 3) := by decide +kernel
theorem dX5_fill_8 : decode cX5_fill 8 = .ok (.istore_n 2, 1) := by decide +kernel
theorem dX5_fill_9 : decode cX5_fill 9 = .ok (.iload_n 2, 1) := by decide +kernel
theorem dX5_fill_10 : decode cX5_fill 10 = .ok (.ifCond .lt 67, 3) := by decide +kernel
theorem dX5_fill_13 : decode cX5_fill 13 = .ok (.iload_n 2, 1) := by decide +kernel
theorem dX5_fill_14 : decode cX5_fill 14 = .ok (.invokestatic 22, 3) := by decide +kernel
theorem dX5_fill_17 : decode cX5_fill 17 = .ok (.istore_n 3, 1) := by decide +kernel
theorem dX5_fill_18 : decode cX5_fill 18 = .ok (.aload_n 0, 1) := by decide +kernel
theorem dX5_fill_19 : decode cX5_fill 19 = .ok (.getfield 15, 3) := by decide +kernel
theorem dX5_fill_22 : decode cX5_fill 22 = .ok (.iload_n 2, 1) := by decide +kernel
theorem dX5_fill_23 : decode cX5_fill 23 = .ok (.iconst 0, 1) := by decide +kernel
theorem dX5_fill_24 : decode cX5_fill 24 = .ok (.iastore, 1) := by decide +kernel
theorem dX5_fill_25 : decode cX5_fill 25 = .ok (.iload_n 3, 1) := by decide +kernel
theorem dX5_fill_26 : decode cX5_fill 26 = .ok (.aload_n 0, 1) := by decide +kernel
theorem dX5_fill_27 : decode cX5_fill 27 = .ok (.getfield 18, 3) := by decide +kernel
theorem dX5_fill_30 : decode cX5_fill 30 = .ok (.if_icmp .ge 41, 3) := by decide +kernel
theorem dX5_fill_33 : decode cX5_fill 33 = .ok (.aload_n 0, 1) := by decide +kernel
theorem dX5_fill_34 : decode cX5_fill 34 = .ok (.iload_n 3, 1) := by decide +kernel
theorem dX5_fill_35 : decode cX5_fill 35 = .ok (.iload_n 2, 1) := by decide +kernel
theorem dX5_fill_36 : decode cX5_fill 36 = .ok (.invokevirtual 28, 3) := by decide +kernel
theorem dX5_fill_39 : decode cX5_fill 39 = .ok (.istore 4, 2) := by decide +kernel
theorem dX5_fill_41 : decode cX5_fill 41 = .ok (.aload_n 0, 1) := by decide +kernel
theorem dX5_fill_42 : decode cX5_fill 42 = .ok (.getfield 15, 3) := by decide +kernel
theorem dX5_fill_45 : decode cX5_fill 45 = .ok (.iload_n 2, 1) := by decide +kernel
theorem dX5_fill_46 : decode cX5_fill 46 = .ok (.aload_n 0, 1) := by decide +kernel
theorem dX5_fill_47 : decode cX5_fill 47 = .ok (.getfield 9, 3) := by decide +kernel
theorem dX5_fill_50 : decode cX5_fill 50 = .ok (.iload_n 3, 1) := by decide +kernel
theorem dX5_fill_51 : decode cX5_fill 51 = .ok (.bipush 12, 2) := by decide +kernel
theorem dX5_fill_53 : decode cX5_fill 53 = .ok (.imul, 1) := by decide +kernel
theorem dX5_fill_54 : decode cX5_fill 54 = .ok (.iload 4, 2) := by decide +kernel
theorem dX5_fill_56 : decode cX5_fill 56 = .ok (.iadd, 1) := by decide +kernel
theorem dX5_fill_57 : decode cX5_fill 57 = .ok (.iaload, 1) := by decide +kernel
theorem dX5_fill_58 : decode cX5_fill 58 = .ok (.aload_n 0, 1) := by decide +kernel
theorem dX5_fill_59 : decode cX5_fill 59 = .ok (.getfield 15, 3) := by decide +kernel
theorem dX5_fill_62 : decode cX5_fill 62 = .ok (.iload_n 2, 1) := by decide +kernel
theorem dX5_fill_63 : decode cX5_fill 63 = .ok (.iconst 1, 1) := by decide +kernel
theorem dX5_fill_64 : decode cX5_fill 64 = .ok (.iload 4, 2) := by decide +kernel
theorem dX5_fill_66 : decode cX5_fill 66 = .ok (.ishl, 1) := by decide +kernel
theorem dX5_fill_67 : decode cX5_fill 67 = .ok (.ior, 1) := by decide +kernel
theorem dX5_fill_68 : decode cX5_fill 68 = .ok (.iaload, 1) := by decide +kernel
theorem dX5_fill_69 : decode cX5_fill 69 = .ok (.iadd, 1) := by decide +kernel
theorem dX5_fill_70 : decode cX5_fill 70 = .ok (.iastore, 1) := by decide +kernel
theorem dX5_fill_71 : decode cX5_fill 71 = .ok (.iinc 2 (-1), 3) := by decide +kernel
theorem dX5_fill_74 : decode cX5_fill 74 = .ok (.goto (-65), 3) := by decide +kernel
theorem dX5_fill_77 : decode cX5_fill 77 = .ok (.return_, 1) := by decide +kernel
theorem dX5_most_0 : decode cX5_most 0 = .ok (.aload_n 0, 1) := by decide +kernel
theorem dX5_most_1 : decode cX5_most 1 = .ok (.getfield 15, 3) := by decide +kernel
theorem dX5_most_4 : decode cX5_most 4 = .ok (.iconst 0, 1) := by decide +kernel
theorem dX5_most_5 : decode cX5_most 5 = .ok (.iaload, 1) := by decide +kernel
theorem dX5_most_6 : decode cX5_most 6 = .ok (.ireturn, 1) := by decide +kernel
theorem dX5_roomOf_0 : decode cX5_roomOf 0 = .ok (.iconst 0, 1) := by decide +kernel
theorem dX5_roomOf_1 : decode cX5_roomOf 1 = .ok (.istore_n 2, 1) := by decide +kernel
theorem dX5_roomOf_2 : decode cX5_roomOf 2 = .ok (.iconst 0, 1) := by decide +kernel
theorem dX5_roomOf_3 : decode cX5_roomOf 3 = .ok (.istore_n 3, 1) := by decide +kernel
theorem dX5_roomOf_4 : decode cX5_roomOf 4 = .ok (.iload_n 3, 1) := by decide +kernel
theorem dX5_roomOf_5 : decode cX5_roomOf 5 = .ok (.iload_n 1, 1) := by decide +kernel
theorem dX5_roomOf_6 : decode cX5_roomOf 6 = .ok (.if_icmp .ge 20, 3) := by decide +kernel
theorem dX5_roomOf_9 : decode cX5_roomOf 9 = .ok (.iload_n 2, 1) := by decide +kernel
theorem dX5_roomOf_10 : decode cX5_roomOf 10 = .ok (.iconst 1, 1) := by decide +kernel
theorem dX5_roomOf_11 : decode cX5_roomOf 11 = .ok (.aload_n 0, 1) := by decide +kernel
theorem dX5_roomOf_12 : decode cX5_roomOf 12 = .ok (.iload_n 3, 1) := by decide +kernel
theorem dX5_roomOf_13 : decode cX5_roomOf 13 = .ok (.iload_n 2, 1) := by decide +kernel
theorem dX5_roomOf_14 : decode cX5_roomOf 14 = .ok (.invokevirtual 28, 3) := by decide +kernel
theorem dX5_roomOf_17 : decode cX5_roomOf 17 = .ok (.ishl, 1) := by decide +kernel
theorem dX5_roomOf_18 : decode cX5_roomOf 18 = .ok (.ior, 1) := by decide +kernel
theorem dX5_roomOf_19 : decode cX5_roomOf 19 = .ok (.istore_n 2, 1) := by decide +kernel
theorem dX5_roomOf_20 : decode cX5_roomOf 20 = .ok (.iinc 3 1, 3) := by decide +kernel
theorem dX5_roomOf_23 : decode cX5_roomOf 23 = .ok (.goto (-19), 3) := by decide +kernel
theorem dX5_roomOf_26 : decode cX5_roomOf 26 = .ok (.aload_n 0, 1) := by decide +kernel
theorem dX5_roomOf_27 : decode cX5_roomOf 27 = .ok (.iload_n 1, 1) := by decide +kernel
theorem dX5_roomOf_28 : decode cX5_roomOf 28 = .ok (.iload_n 2, 1) := by decide +kernel
theorem dX5_roomOf_29 : decode cX5_roomOf 29 = .ok (.invokevirtual 28, 3) := by decide +kernel
theorem dX5_roomOf_32 : decode cX5_roomOf 32 = .ok (.ireturn, 1) := by decide +kernel
theorem dX5_bestRoom_0 : decode cX5_bestRoom 0 = .ok (.iconst 0, 1) := by decide +kernel
theorem dX5_bestRoom_1 : decode cX5_bestRoom 1 = .ok (.istore_n 3, 1) := by decide +kernel
theorem dX5_bestRoom_2 : decode cX5_bestRoom 2 = .ok (.iconst (-1), 1) := by decide +kernel
theorem dX5_bestRoom_3 : decode cX5_bestRoom 3 = .ok (.istore 4, 2) := by decide +kernel
theorem dX5_bestRoom_5 : decode cX5_bestRoom 5 = .ok (.iconst 0, 1) := by decide +kernel
theorem dX5_bestRoom_6 : decode cX5_bestRoom 6 = .ok (.istore 5, 2) := by decide +kernel
theorem dX5_bestRoom_8 : decode cX5_bestRoom 8 = .ok (.iload 5, 2) := by decide +kernel
theorem dX5_bestRoom_10 : decode cX5_bestRoom 10 = .ok (.bipush 12, 2) := by decide +kernel
theorem dX5_bestRoom_12 : decode cX5_bestRoom 12 = .ok (.if_icmp .ge 58, 3) := by decide +kernel
theorem dX5_bestRoom_15 : decode cX5_bestRoom 15 = .ok (.iload_n 2, 1) := by decide +kernel
theorem dX5_bestRoom_16 : decode cX5_bestRoom 16 = .ok (.iload 5, 2) := by decide +kernel
theorem dX5_bestRoom_18 : decode cX5_bestRoom 18 = .ok (.ishr, 1) := by decide +kernel
theorem dX5_bestRoom_19 : decode cX5_bestRoom 19 = .ok (.iconst 1, 1) := by decide +kernel
theorem dX5_bestRoom_20 : decode cX5_bestRoom 20 = .ok (.iand, 1) := by decide +kernel
theorem dX5_bestRoom_21 : decode cX5_bestRoom 21 = .ok (.ifCond .ne 43, 3) := by decide +kernel
theorem dX5_bestRoom_24 : decode cX5_bestRoom 24 = .ok (.aload_n 0, 1) := by decide +kernel
theorem dX5_bestRoom_25 : decode cX5_bestRoom 25 = .ok (.getfield 9, 3) := by decide +kernel
theorem dX5_bestRoom_28 : decode cX5_bestRoom 28 = .ok (.iload_n 1, 1) := by decide +kernel
theorem dX5_bestRoom_29 : decode cX5_bestRoom 29 = .ok (.bipush 12, 2) := by decide +kernel
theorem dX5_bestRoom_31 : decode cX5_bestRoom 31 = .ok (.imul, 1) := by decide +kernel
theorem dX5_bestRoom_32 : decode cX5_bestRoom 32 = .ok (.iload 5, 2) := by decide +kernel
theorem dX5_bestRoom_34 : decode cX5_bestRoom 34 = .ok (.iadd, 1) := by decide +kernel
theorem dX5_bestRoom_35 : decode cX5_bestRoom 35 = .ok (.iaload, 1) := by decide +kernel
theorem dX5_bestRoom_36 : decode cX5_bestRoom 36 = .ok (.aload_n 0, 1) := by decide +kernel
theorem dX5_bestRoom_37 : decode cX5_bestRoom 37 = .ok (.getfield 15, 3) := by decide +kernel
theorem dX5_bestRoom_40 : decode cX5_bestRoom 40 = .ok (.iload_n 2, 1) := by decide +kernel
theorem dX5_bestRoom_41 : decode cX5_bestRoom 41 = .ok (.iconst 1, 1) := by decide +kernel
theorem dX5_bestRoom_42 : decode cX5_bestRoom 42 = .ok (.iload 5, 2) := by decide +kernel
theorem dX5_bestRoom_44 : decode cX5_bestRoom 44 = .ok (.ishl, 1) := by decide +kernel
theorem dX5_bestRoom_45 : decode cX5_bestRoom 45 = .ok (.ior, 1) := by decide +kernel
theorem dX5_bestRoom_46 : decode cX5_bestRoom 46 = .ok (.iaload, 1) := by decide +kernel
theorem dX5_bestRoom_47 : decode cX5_bestRoom 47 = .ok (.iadd, 1) := by decide +kernel
theorem dX5_bestRoom_48 : decode cX5_bestRoom 48 = .ok (.istore 6, 2) := by decide +kernel
theorem dX5_bestRoom_50 : decode cX5_bestRoom 50 = .ok (.iload 6, 2) := by decide +kernel
theorem dX5_bestRoom_52 : decode cX5_bestRoom 52 = .ok (.iload 4, 2) := by decide +kernel
theorem dX5_bestRoom_54 : decode cX5_bestRoom 54 = .ok (.if_icmp .le 10, 3) := by decide +kernel
theorem dX5_bestRoom_57 : decode cX5_bestRoom 57 = .ok (.iload 6, 2) := by decide +kernel
theorem dX5_bestRoom_59 : decode cX5_bestRoom 59 = .ok (.istore 4, 2) := by decide +kernel
theorem dX5_bestRoom_61 : decode cX5_bestRoom 61 = .ok (.iload 5, 2) := by decide +kernel
theorem dX5_bestRoom_63 : decode cX5_bestRoom 63 = .ok (.istore_n 3, 1) := by decide +kernel
theorem dX5_bestRoom_64 : decode cX5_bestRoom 64 = .ok (.iinc 5 1, 3) := by decide +kernel
theorem dX5_bestRoom_67 : decode cX5_bestRoom 67 = .ok (.goto (-59), 3) := by decide +kernel
theorem dX5_bestRoom_70 : decode cX5_bestRoom 70 = .ok (.iload_n 3, 1) := by decide +kernel
theorem dX5_bestRoom_71 : decode cX5_bestRoom 71 = .ok (.ireturn, 1) := by decide +kernel
theorem dX6_init_0 : decode cX6_init 0 = .ok (.aload_n 0, 1) := by decide +kernel
theorem dX6_init_1 : decode cX6_init 1 = .ok (.invokespecial 1, 3) := by decide +kernel
theorem dX6_init_4 : decode cX6_init 4 = .ok (.aload_n 0, 1) := by decide +kernel
theorem dX6_init_5 : decode cX6_init 5 = .ok (.sipush 220, 3) := by decide +kernel
theorem dX6_init_8 : decode cX6_init 8 = .ok (.newarray .int, 2) := by decide +kernel
theorem dX6_init_10 : decode cX6_init 10 = .ok (.putfield 9, 3) := by decide +kernel
theorem dX6_init_13 : decode cX6_init 13 = .ok (.return_, 1) := by decide +kernel
theorem dX6_hasSpace_0 : decode cX6_hasSpace 0 = .ok (.aload_n 0, 1) := by decide +kernel
theorem dX6_hasSpace_1 : decode cX6_hasSpace 1 = .ok (.getfield 13, 3) := by decide +kernel
theorem dX6_hasSpace_4 : decode cX6_hasSpace 4 = .ok (.bipush 20, 2) := by decide +kernel
theorem dX6_hasSpace_6 : decode cX6_hasSpace 6 = .ok (.iadd, 1) := by decide +kernel
theorem dX6_hasSpace_7 : decode cX6_hasSpace 7 = .ok (.sipush 220, 3) := by decide +kernel
theorem dX6_hasSpace_10 : decode cX6_hasSpace 10 = .ok (.if_icmp .gt 7, 3) := by decide +kernel
theorem dX6_hasSpace_13 : decode cX6_hasSpace 13 = .ok (.iconst 1, 1) := by decide +kernel
theorem dX6_hasSpace_14 : decode cX6_hasSpace 14 = .ok (.goto 4, 3) := by decide +kernel
theorem dX6_hasSpace_17 : decode cX6_hasSpace 17 = .ok (.iconst 0, 1) := by decide +kernel
theorem dX6_hasSpace_18 : decode cX6_hasSpace 18 = .ok (.ireturn, 1) := by decide +kernel
theorem dX6_push_0 : decode cX6_push 0 = .ok (.bipush 24, 2) := by decide +kernel
theorem dX6_push_2 : decode cX6_push 2 = .ok (.istore_n 2, 1) := by decide +kernel
theorem dX6_push_3 : decode cX6_push 3 = .ok (.iload_n 2, 1) := by decide +kernel
theorem dX6_push_4 : decode cX6_push 4 = .ok (.ifCond .lt 45, 3) := by decide +kernel
theorem dX6_push_7 : decode cX6_push 7 = .ok (.aload_n 0, 1) := by decide +kernel
theorem dX6_push_8 : decode cX6_push 8 = .ok (.getfield 13, 3) := by decide +kernel
theorem dX6_push_11 : decode cX6_push 11 = .ok (.sipush 220, 3) := by decide +kernel
theorem dX6_push_14 : decode cX6_push 14 = .ok (.if_icmp .ge 35, 3) := by decide +kernel
theorem dX6_push_17 : decode cX6_push 17 = .ok (.aload_n 0, 1) := by decide +kernel
theorem dX6_push_18 : decode cX6_push 18 = .ok (.getfield 9, 3) := by decide +kernel
theorem dX6_push_21 : decode cX6_push 21 = .ok (.aload_n 0, 1) := by decide +kernel
theorem dX6_push_22 : decode cX6_push 22 = .ok (.getfield 13, 3) := by decide +kernel
theorem dX6_push_25 : decode cX6_push 25 = .ok (.iload_n 1, 1) := by decide +kernel
theorem dX6_push_26 : decode cX6_push 26 = .ok (.iload_n 2, 1) := by decide +kernel
theorem dX6_push_27 : decode cX6_push 27 = .ok (.ishr, 1) := by decide +kernel
theorem dX6_push_28 : decode cX6_push 28 = .ok (.sipush 255, 3) := by decide +kernel
theorem dX6_push_31 : decode cX6_push 31 = .ok (.iand, 1) := by decide +kernel
theorem dX6_push_32 : decode cX6_push 32 = .ok (.iastore, 1) := by decide +kernel
theorem dX6_push_33 : decode cX6_push 33 = .ok (.aload_n 0, 1) := by decide +kernel
theorem dX6_push_34 : decode cX6_push 34 = .ok (.dup, 1) := by decide +kernel
theorem dX6_push_35 : decode cX6_push 35 = .ok (.getfield 13, 3) := by decide +kernel
theorem dX6_push_38 : decode cX6_push 38 = .ok (.iconst 1, 1) := by decide +kernel
theorem dX6_push_39 : decode cX6_push 39 = .ok (.iadd, 1) := by decide +kernel
theorem dX6_push_40 : decode cX6_push 40 = .ok (.putfield 13, 3) := by decide +kernel
theorem dX6_push_43 : decode cX6_push 43 = .ok (.iinc 2 (-8), 3) := by decide +kernel
theorem dX6_push_46 : decode cX6_push 46 = .ok (.goto (-43), 3) := by decide +kernel
theorem dX6_push_49 : decode cX6_push 49 = .ok (.return_, 1) := by decide +kernel
theorem dX6_open_0 : decode cX6_open 0 = .ok (.aload_n 0, 1) := by decide +kernel
theorem dX6_open_1 : decode cX6_open 1 = .ok (.iload_n 1, 1) := by decide +kernel
theorem dX6_open_2 : decode cX6_open 2 = .ok (.putfield 17, 3) := by decide +kernel
theorem dX6_open_5 : decode cX6_open 5 = .ok (.aload_n 0, 1) := by decide +kernel
theorem dX6_open_6 : decode cX6_open 6 = .ok (.iconst 0, 1) := by decide +kernel
theorem dX6_open_7 : decode cX6_open 7 = .ok (.putfield 13, 3) := by decide +kernel
theorem dX6_open_10 : decode cX6_open 10 = .ok (.aload_n 0, 1) := by decide +kernel
theorem dX6_open_11 : decode cX6_open 11 = .ok (.iconst 0, 1) := by decide +kernel
theorem dX6_open_12 : decode cX6_open 12 = .ok (.putfield 20, 3) := by decide +kernel
theorem dX6_open_15 : decode cX6_open 15 = .ok (.aload_n 0, 1) := by decide +kernel
theorem dX6_open_16 : decode cX6_open 16 = .ok (.iconst 0, 1) := by decide +kernel
theorem dX6_open_17 : decode cX6_open 17 = .ok (.putfield 23, 3) := by decide +kernel
theorem dX6_open_20 : decode cX6_open 20 = .ok (.return_, 1) := by decide +kernel
theorem dX6_numberAt_0 : decode cX6_numberAt 0 = .ok (.iload_n 1, 1) := by decide +kernel
theorem dX6_numberAt_1 : decode cX6_numberAt 1 = .ok (.ifCond .lt 12, 3) := by decide +kernel
theorem dX6_numberAt_4 : decode cX6_numberAt 4 = .ok (.iload_n 1, 1) := by decide +kernel
theorem dX6_numberAt_5 : decode cX6_numberAt 5 = .ok (.iconst 4, 1) := by decide +kernel
theorem dX6_numberAt_6 : decode cX6_numberAt 6 = .ok (.iadd, 1) := by decide +kernel
theorem dX6_numberAt_7 : decode cX6_numberAt 7 = .ok (.sipush 220, 3) := by decide +kernel
theorem dX6_numberAt_10 : decode cX6_numberAt 10 = .ok (.if_icmp .le 5, 3) := by decide +kernel
theorem dX6_numberAt_13 : decode cX6_numberAt 13 = .ok (.iconst 0, 1) := by decide +kernel
theorem dX6_numberAt_14 : decode cX6_numberAt 14 = .ok (.ireturn, 1) := by decide +kernel
theorem dX6_numberAt_15 : decode cX6_numberAt 15 = .ok (.aload_n 0, 1) := by decide +kernel
theorem dX6_numberAt_16 : decode cX6_numberAt 16 = .ok (.getfield 9, 3) := by decide +kernel
theorem dX6_numberAt_19 : decode cX6_numberAt 19 = .ok (.iload_n 1, 1) := by decide +kernel
theorem dX6_numberAt_20 : decode cX6_numberAt 20 = .ok (.iaload, 1) := by decide +kernel
theorem dX6_numberAt_21 : decode cX6_numberAt 21 = .ok (.bipush 24, 2) := by decide +kernel
theorem dX6_numberAt_23 : decode cX6_numberAt 23 = .ok (.ishl, 1) := by decide +kernel
theorem dX6_numberAt_24 : decode cX6_numberAt 24 = .ok (.aload_n 0, 1) := by decide +kernel
theorem dX6_numberAt_25 : decode cX6_numberAt 25 = .ok (.getfield 9, 3) := by decide +kernel
theorem dX6_numberAt_28 : decode cX6_numberAt 28 = .ok (.iload_n 1, 1) := by decide +kernel
theorem dX6_numberAt_29 : decode cX6_numberAt 29 = .ok (.iconst 1, 1) := by decide +kernel
theorem dX6_numberAt_30 : decode cX6_numberAt 30 = .ok (.iadd, 1) := by decide +kernel
theorem dX6_numberAt_31 : decode cX6_numberAt 31 = .ok (.iaload, 1) := by decide +kernel
theorem dX6_numberAt_32 : decode cX6_numberAt 32 = .ok (.bipush 16, 2) := by decide +kernel
theorem dX6_numberAt_34 : decode cX6_numberAt 34 = .ok (.ishl, 1) := by decide +kernel
theorem dX6_numberAt_35 : decode cX6_numberAt 35 = .ok (.ior, 1) := by decide +kernel
theorem dX6_numberAt_36 : decode cX6_numberAt 36 = .ok (.aload_n 0, 1) := by decide +kernel
theorem dX6_numberAt_37 : decode cX6_numberAt 37 = .ok (.getfield 9, 3) := by decide +kernel
theorem dX6_numberAt_40 : decode cX6_numberAt 40 = .ok (.iload_n 1, 1) := by decide +kernel
theorem dX6_numberAt_41 : decode cX6_numberAt 41 = .ok (.iconst 2, 1) := by decide +kernel
theorem dX6_numberAt_42 : decode cX6_numberAt 42 = .ok (.iadd, 1) := by decide +kernel
theorem dX6_numberAt_43 : decode cX6_numberAt 43 = .ok (.iaload, 1) := by decide +kernel
theorem dX6_numberAt_44 : decode cX6_numberAt 44 = .ok (.bipush 8, 2) := by decide +kernel
theorem dX6_numberAt_46 : decode cX6_numberAt 46 = .ok (.ishl, 1) := by decide +kernel
theorem dX6_numberAt_47 : decode cX6_numberAt 47 = .ok (.ior, 1) := by decide +kernel
theorem dX6_numberAt_48 : decode cX6_numberAt 48 = .ok (.aload_n 0, 1) := by decide +kernel
theorem dX6_numberAt_49 : decode cX6_numberAt 49 = .ok (.getfield 9, 3) := by decide +kernel
theorem dX6_numberAt_52 : decode cX6_numberAt 52 = .ok (.iload_n 1, 1) := by decide +kernel
theorem dX6_numberAt_53 : decode cX6_numberAt 53 = .ok (.iconst 3, 1) := by decide +kernel
theorem dX6_numberAt_54 : decode cX6_numberAt 54 = .ok (.iadd, 1) := by decide +kernel
theorem dX6_numberAt_55 : decode cX6_numberAt 55 = .ok (.iaload, 1) := by decide +kernel
theorem dX6_numberAt_56 : decode cX6_numberAt 56 = .ok (.ior, 1) := by decide +kernel
theorem dX6_numberAt_57 : decode cX6_numberAt 57 = .ok (.ireturn, 1) := by decide +kernel
theorem dX6_peek_0 : decode cX6_peek 0 = .ok (.aload_n 0, 1) := by decide +kernel
theorem dX6_peek_1 : decode cX6_peek 1 = .ok (.getfield 23, 3) := by decide +kernel
theorem dX6_peek_4 : decode cX6_peek 4 = .ok (.ifCond .ne 43, 3) := by decide +kernel
theorem dX6_peek_7 : decode cX6_peek 7 = .ok (.aload_n 0, 1) := by decide +kernel
theorem dX6_peek_8 : decode cX6_peek 8 = .ok (.getfield 20, 3) := by decide +kernel
theorem dX6_peek_11 : decode cX6_peek 11 = .ok (.ifCond .lt 36, 3) := by decide +kernel
theorem dX6_peek_14 : decode cX6_peek 14 = .ok (.aload_n 0, 1) := by decide +kernel
theorem dX6_peek_15 : decode cX6_peek 15 = .ok (.getfield 20, 3) := by decide +kernel
theorem dX6_peek_18 : decode cX6_peek 18 = .ok (.aload_n 0, 1) := by decide +kernel
theorem dX6_peek_19 : decode cX6_peek 19 = .ok (.getfield 17, 3) := by decide +kernel
theorem dX6_peek_22 : decode cX6_peek 22 = .ok (.if_icmp .ge 25, 3) := by decide +kernel
theorem dX6_peek_25 : decode cX6_peek 25 = .ok (.aload_n 0, 1) := by decide +kernel
theorem dX6_peek_26 : decode cX6_peek 26 = .ok (.getfield 20, 3) := by decide +kernel
theorem dX6_peek_29 : decode cX6_peek 29 = .ok (.sipush 220, 3) := by decide +kernel
theorem dX6_peek_32 : decode cX6_peek 32 = .ok (.if_icmp .ge 15, 3) := by decide +kernel
theorem dX6_peek_35 : decode cX6_peek 35 = .ok (.aload_n 0, 1) := by decide +kernel
theorem dX6_peek_36 : decode cX6_peek 36 = .ok (.getfield 9, 3) := by decide +kernel
theorem dX6_peek_39 : decode cX6_peek 39 = .ok (.aload_n 0, 1) := by decide +kernel
theorem dX6_peek_40 : decode cX6_peek 40 = .ok (.getfield 20, 3) := by decide +kernel
theorem dX6_peek_43 : decode cX6_peek 43 = .ok (.iaload, 1) := by decide +kernel
theorem dX6_peek_44 : decode cX6_peek 44 = .ok (.goto 4, 3) := by decide +kernel
theorem dX6_peek_47 : decode cX6_peek 47 = .ok (.iconst (-1), 1) := by decide +kernel
theorem dX6_peek_48 : decode cX6_peek 48 = .ok (.ireturn, 1) := by decide +kernel
theorem dX6_isAtDigit_0 : decode cX6_isAtDigit 0 = .ok (.aload_n 0, 1) := by decide +kernel
theorem dX6_isAtDigit_1 : decode cX6_isAtDigit 1 = .ok (.invokevirtual 26, 3) := by decide +kernel
theorem dX6_isAtDigit_4 : decode cX6_isAtDigit 4 = .ok (.bipush 48, 2) := by decide +kernel
theorem dX6_isAtDigit_6 : decode cX6_isAtDigit 6 = .ok (.if_icmp .lt 16, 3) := by decide +kernel
theorem dX6_isAtDigit_9 : decode cX6_isAtDigit 9 = .ok (.aload_n 0, 1) := by decide +kernel
theorem dX6_isAtDigit_10 : decode cX6_isAtDigit 10 = .ok (.invokevirtual 26, 3) := by decide +kernel
theorem dX6_isAtDigit_13 : decode cX6_isAtDigit 13 = .ok (.bipush 57, 2) := by decide +kernel
theorem dX6_isAtDigit_15 : decode cX6_isAtDigit 15 = .ok (.if_icmp .gt 7, 3) := by decide +kernel
theorem dX6_isAtDigit_18 : decode cX6_isAtDigit 18 = .ok (.iconst 1, 1) := by decide +kernel
theorem dX6_isAtDigit_19 : decode cX6_isAtDigit 19 = .ok (.goto 4, 3) := by decide +kernel
theorem dX6_isAtDigit_22 : decode cX6_isAtDigit 22 = .ok (.iconst 0, 1) := by decide +kernel
theorem dX6_isAtDigit_23 : decode cX6_isAtDigit 23 = .ok (.ireturn, 1) := by decide +kernel
theorem dX6_failAt_0 : decode cX6_failAt 0 = .ok (.aload_n 0, 1) := by decide +kernel
theorem dX6_failAt_1 : decode cX6_failAt 1 = .ok (.getfield 23, 3) := by decide +kernel
theorem dX6_failAt_4 : decode cX6_failAt 4 = .ok (.ifCond .ne 14, 3) := by decide +kernel
theorem dX6_failAt_7 : decode cX6_failAt 7 = .ok (.aload_n 0, 1) := by decide +kernel
theorem dX6_failAt_8 : decode cX6_failAt 8 = .ok (.sipush (-1000), 3) := by decide +kernel
theorem dX6_failAt_11 : decode cX6_failAt 11 = .ok (.iload_n 1, 1) := by decide +kernel
theorem dX6_failAt_12 : decode cX6_failAt 12 = .ok (.imul, 1) := by decide +kernel
theorem dX6_failAt_13 : decode cX6_failAt 13 = .ok (.iload_n 2, 1) := by decide +kernel
theorem dX6_failAt_14 : decode cX6_failAt 14 = .ok (.isub, 1) := by decide +kernel
theorem dX6_failAt_15 : decode cX6_failAt 15 = .ok (.putfield 23, 3) := by decide +kernel
theorem dX6_failAt_18 : decode cX6_failAt 18 = .ok (.return_, 1) := by decide +kernel
theorem dX6_fail_0 : decode cX6_fail 0 = .ok (.aload_n 0, 1) := by decide +kernel
theorem dX6_fail_1 : decode cX6_fail 1 = .ok (.iload_n 1, 1) := by decide +kernel
theorem dX6_fail_2 : decode cX6_fail 2 = .ok (.aload_n 0, 1) := by decide +kernel
theorem dX6_fail_3 : decode cX6_fail 3 = .ok (.getfield 20, 3) := by decide +kernel
theorem dX6_fail_6 : decode cX6_fail 6 = .ok (.invokevirtual 30, 3) := by decide +kernel
theorem dX6_fail_9 : decode cX6_fail 9 = .ok (.return_, 1) := by decide +kernel
theorem dX6_takeSign_0 : decode cX6_takeSign 0 = .ok (.aload_n 0, 1) := by decide +kernel
theorem dX6_takeSign_1 : decode cX6_takeSign 1 = .ok (.invokevirtual 26, 3) := by decide +kernel
theorem dX6_takeSign_4 : decode cX6_takeSign 4 = .ok (.iload_n 1, 1) := by decide +kernel
theorem dX6_takeSign_5 : decode cX6_takeSign 5 = .ok (.if_icmp .ne 16, 3) := by decide +kernel
theorem dX6_takeSign_8 : decode cX6_takeSign 8 = .ok (.aload_n 0, 1) := by decide +kernel
theorem dX6_takeSign_9 : decode cX6_takeSign 9 = .ok (.dup, 1) := by decide +kernel
theorem dX6_takeSign_10 : decode cX6_takeSign 10 = .ok (.getfield 20, 3) := by decide +kernel
theorem dX6_takeSign_13 : decode cX6_takeSign 13 = .ok (.iconst 1, 1) := by decide +kernel
theorem dX6_takeSign_14 : decode cX6_takeSign 14 = .ok (.iadd, 1) := by decide +kernel
theorem dX6_takeSign_15 : decode cX6_takeSign 15 = .ok (.putfield 20, 3) := by decide +kernel
theorem dX6_takeSign_18 : decode cX6_takeSign 18 = .ok (.goto 8, 3) := by decide +kernel
theorem dX6_takeSign_21 : decode cX6_takeSign 21 = .ok (.aload_n 0, 1) := by decide +kernel
theorem dX6_takeSign_22 : decode cX6_takeSign 22 = .ok (.iconst 1, 1) := by decide +kernel
theorem dX6_takeSign_23 : decode cX6_takeSign 23 = .ok (.invokevirtual 34, 3) := by decide +kernel
theorem dX6_takeSign_26 : decode cX6_takeSign 26 = .ok (.return_, 1) := by decide +kernel
theorem dX6_takeDigit_0 : decode cX6_takeDigit 0 = .ok (.aload_n 0, 1) := by decide +kernel
theorem dX6_takeDigit_1 : decode cX6_takeDigit 1 = .ok (.invokevirtual 26, 3) := by decide +kernel
theorem dX6_takeDigit_4 : decode cX6_takeDigit 4 = .ok (.bipush 48, 2) := by decide +kernel
theorem dX6_takeDigit_6 : decode cX6_takeDigit 6 = .ok (.isub, 1) := by decide +kernel
theorem dX6_takeDigit_7 : decode cX6_takeDigit 7 = .ok (.istore_n 2, 1) := by decide +kernel
theorem dX6_takeDigit_8 : decode cX6_takeDigit 8 = .ok (.iload_n 2, 1) := by decide +kernel
theorem dX6_takeDigit_9 : decode cX6_takeDigit 9 = .ok (.ifCond .lt 8, 3) := by decide +kernel
theorem dX6_takeDigit_12 : decode cX6_takeDigit 12 = .ok (.iload_n 2, 1) := by decide +kernel
theorem dX6_takeDigit_13 : decode cX6_takeDigit 13 = .ok (.iload_n 1, 1) := by decide +kernel
theorem dX6_takeDigit_14 : decode cX6_takeDigit 14 = .ok (.if_icmp .le 10, 3) := by decide +kernel
theorem dX6_takeDigit_17 : decode cX6_takeDigit 17 = .ok (.aload_n 0, 1) := by decide +kernel
theorem dX6_takeDigit_18 : decode cX6_takeDigit 18 = .ok (.iconst 1, 1) := by decide +kernel
theorem dX6_takeDigit_19 : decode cX6_takeDigit 19 = .ok (.invokevirtual 34, 3) := by decide +kernel
theorem dX6_takeDigit_22 : decode cX6_takeDigit 22 = .ok (.iconst 0, 1) := by decide +kernel
theorem dX6_takeDigit_23 : decode cX6_takeDigit 23 = .ok (.ireturn, 1) := by decide +kernel
theorem dX6_takeDigit_24 : decode cX6_takeDigit 24 = .ok (.aload_n 0, 1) := by decide +kernel
theorem dX6_takeDigit_25 : decode cX6_takeDigit 25 = .ok (.dup, 1) := by decide +kernel
theorem dX6_takeDigit_26 : decode cX6_takeDigit 26 = .ok (.getfield 20, 3) := by decide +kernel
theorem dX6_takeDigit_29 : decode cX6_takeDigit 29 = .ok (.iconst 1, 1) := by decide +kernel
theorem dX6_takeDigit_30 : decode cX6_takeDigit 30 = .ok (.iadd, 1) := by decide +kernel
theorem dX6_takeDigit_31 : decode cX6_takeDigit 31 = .ok (.putfield 20, 3) := by decide +kernel
theorem dX6_takeDigit_34 : decode cX6_takeDigit 34 = .ok (.iload_n 2, 1) := by decide +kernel
theorem dX6_takeDigit_35 : decode cX6_takeDigit 35 = .ok (.ireturn, 1) := by decide +kernel
theorem dX6_takeEnd_0 : decode cX6_takeEnd 0 = .ok (.aload_n 0, 1) := by decide +kernel
theorem dX6_takeEnd_1 : decode cX6_takeEnd 1 = .ok (.invokevirtual 26, 3) := by decide +kernel
theorem dX6_takeEnd_4 : decode cX6_takeEnd 4 = .ok (.iconst (-1), 1) := by decide +kernel
theorem dX6_takeEnd_5 : decode cX6_takeEnd 5 = .ok (.if_icmp .eq 8, 3) := by decide +kernel
theorem dX6_takeEnd_8 : decode cX6_takeEnd 8 = .ok (.aload_n 0, 1) := by decide +kernel
theorem dX6_takeEnd_9 : decode cX6_takeEnd 9 = .ok (.iconst 1, 1) := by decide +kernel
theorem dX6_takeEnd_10 : decode cX6_takeEnd 10 = .ok (.invokevirtual 34, 3) := by decide +kernel
theorem dX6_takeEnd_13 : decode cX6_takeEnd 13 = .ok (.return_, 1) := by decide +kernel
theorem dX7_init_0 : decode cX7_init 0 = .ok (.aload_n 0, 1) := by decide +kernel
theorem dX7_init_1 : decode cX7_init 1 = .ok (.invokespecial 3, 3) := by decide +kernel
theorem dX7_init_4 : decode cX7_init 4 = .ok (.aload_n 0, 1) := by decide +kernel
theorem dX7_init_5 : decode cX7_init 5 = .ok (.bipush 16, 2) := by decide +kernel
theorem dX7_init_7 : decode cX7_init 7 = .ok (.newarray .int, 2) := by decide +kernel
theorem dX7_init_9 : decode cX7_init 9 = .ok (.putfield 11, 3) := by decide +kernel
theorem dX7_init_12 : decode cX7_init 12 = .ok (.aload_n 0, 1) := by decide +kernel
theorem dX7_init_13 : decode cX7_init 13 = .ok (.bipush 16, 2) := by decide +kernel
theorem dX7_init_15 : decode cX7_init 15 = .ok (.newarray .int, 2) := by decide +kernel
theorem dX7_init_17 : decode cX7_init 17 = .ok (.putfield 15, 3) := by decide +kernel
theorem dX7_init_20 : decode cX7_init 20 = .ok (.aload_n 0, 1) := by decide +kernel
theorem dX7_init_21 : decode cX7_init 21 = .ok (.bipush 16, 2) := by decide +kernel
theorem dX7_init_23 : decode cX7_init 23 = .ok (.newarray .int, 2) := by decide +kernel
theorem dX7_init_25 : decode cX7_init 25 = .ok (.putfield 18, 3) := by decide +kernel
theorem dX7_init_28 : decode cX7_init 28 = .ok (.aload_n 0, 1) := by decide +kernel
theorem dX7_init_29 : decode cX7_init 29 = .ok (.bipush 16, 2) := by decide +kernel
theorem dX7_init_31 : decode cX7_init 31 = .ok (.newarray .int, 2) := by decide +kernel
theorem dX7_init_33 : decode cX7_init 33 = .ok (.putfield 21, 3) := by decide +kernel
theorem dX7_init_36 : decode cX7_init 36 = .ok (.aload_n 0, 1) := by decide +kernel
theorem dX7_init_37 : decode cX7_init 37 = .ok (.bipush 16, 2) := by decide +kernel
theorem dX7_init_39 : decode cX7_init 39 = .ok (.newarray .int, 2) := by decide +kernel
theorem dX7_init_41 : decode cX7_init 41 = .ok (.putfield 24, 3) := by decide +kernel
theorem dX7_init_44 : decode cX7_init 44 = .ok (.return_, 1) := by decide +kernel
theorem dX7_readFrom_0 : decode cX7_readFrom 0 = .ok (.aload_n 0, 1) := by decide +kernel
theorem dX7_readFrom_1 : decode cX7_readFrom 1 = .ok (.iconst 0, 1) := by decide +kernel
theorem dX7_readFrom_2 : decode cX7_readFrom 2 = .ok (.putfield 27, 3) := by decide +kernel
theorem dX7_readFrom_5 : decode cX7_readFrom 5 = .ok (.aload_n 0, 1) := by decide +kernel
theorem dX7_readFrom_6 : decode cX7_readFrom 6 = .ok (.aload_n 1, 1) := by decide +kernel
theorem dX7_readFrom_7 : decode cX7_readFrom 7 = .ok (.invokevirtual 31, 3) := by decide +kernel
theorem dX7_readFrom_10 : decode cX7_readFrom 10 = .ok (.iconst 0, 1) := by decide +kernel
theorem dX7_readFrom_11 : decode cX7_readFrom 11 = .ok (.istore_n 2, 1) := by decide +kernel
theorem dX7_readFrom_12 : decode cX7_readFrom 12 = .ok (.iload_n 2, 1) := by decide +kernel
theorem dX7_readFrom_13 : decode cX7_readFrom 13 = .ok (.sipush 160, 3) := by decide +kernel
theorem dX7_readFrom_16 : decode cX7_readFrom 16 = .ok (.if_icmp .ge 29, 3) := by decide +kernel
theorem dX7_readFrom_19 : decode cX7_readFrom 19 = .ok (.aload_n 1, 1) := by decide +kernel
theorem dX7_readFrom_20 : decode cX7_readFrom 20 = .ok (.invokevirtual 35, 3) := by decide +kernel
theorem dX7_readFrom_23 : decode cX7_readFrom 23 = .ok (.bipush 59, 2) := by decide +kernel
theorem dX7_readFrom_25 : decode cX7_readFrom 25 = .ok (.if_icmp .ne 20, 3) := by decide +kernel
theorem dX7_readFrom_28 : decode cX7_readFrom 28 = .ok (.aload_n 1, 1) := by decide +kernel
theorem dX7_readFrom_29 : decode cX7_readFrom 29 = .ok (.bipush 59, 2) := by decide +kernel
theorem dX7_readFrom_31 : decode cX7_readFrom 31 = .ok (.invokevirtual 41, 3) := by decide +kernel
theorem dX7_readFrom_34 : decode cX7_readFrom 34 = .ok (.aload_n 0, 1) := by decide +kernel
theorem dX7_readFrom_35 : decode cX7_readFrom 35 = .ok (.aload_n 1, 1) := by decide +kernel
theorem dX7_readFrom_36 : decode cX7_readFrom 36 = .ok (.invokevirtual 31, 3) := by decide +kernel
theorem dX7_readFrom_39 : decode cX7_readFrom 39 = .ok (.iinc 2 1, 3) := by decide +kernel
theorem dX7_readFrom_42 : decode cX7_readFrom 42 = .ok (.goto (-30), 3) := by decide +kernel
theorem dX7_readFrom_45 : decode cX7_readFrom 45 = .ok (.aload_n 1, 1) := by decide +kernel
theorem dX7_readFrom_46 : decode cX7_readFrom 46 = .ok (.invokevirtual 45, 3) := by decide +kernel
theorem dX7_readFrom_49 : decode cX7_readFrom 49 = .ok (.return_, 1) := by decide +kernel
theorem dX7_readWalk_0 : decode cX7_readWalk 0 = .ok (.aload_n 0, 1) := by decide +kernel
theorem dX7_readWalk_1 : decode cX7_readWalk 1 = .ok (.getfield 27, 3) := by decide +kernel
theorem dX7_readWalk_4 : decode cX7_readWalk 4 = .ok (.bipush 16, 2) := by decide +kernel
theorem dX7_readWalk_6 : decode cX7_readWalk 6 = .ok (.if_icmp .ne 15, 3) := by decide +kernel
theorem dX7_readWalk_9 : decode cX7_readWalk 9 = .ok (.aload_n 1, 1) := by decide +kernel
theorem dX7_readWalk_10 : decode cX7_readWalk 10 = .ok (.invokevirtual 48, 3) := by decide +kernel
theorem dX7_readWalk_13 : decode cX7_readWalk 13 = .ok (.ifCond .eq 8, 3) := by decide +kernel
theorem dX7_readWalk_16 : decode cX7_readWalk 16 = .ok (.aload_n 1, 1) := by decide +kernel
theorem dX7_readWalk_17 : decode cX7_readWalk 17 = .ok (.iconst 4, 1) := by decide +kernel
theorem dX7_readWalk_18 : decode cX7_readWalk 18 = .ok (.invokevirtual 52, 3) := by decide +kernel
theorem dX7_readWalk_21 : decode cX7_readWalk 21 = .ok (.aload_n 1, 1) := by decide +kernel
theorem dX7_readWalk_22 : decode cX7_readWalk 22 = .ok (.bipush 9, 2) := by decide +kernel
theorem dX7_readWalk_24 : decode cX7_readWalk 24 = .ok (.invokevirtual 55, 3) := by decide +kernel
theorem dX7_readWalk_27 : decode cX7_readWalk 27 = .ok (.istore_n 2, 1) := by decide +kernel
theorem dX7_readWalk_28 : decode cX7_readWalk 28 = .ok (.aload_n 1, 1) := by decide +kernel
theorem dX7_readWalk_29 : decode cX7_readWalk 29 = .ok (.bipush 64, 2) := by decide +kernel
theorem dX7_readWalk_31 : decode cX7_readWalk 31 = .ok (.invokevirtual 41, 3) := by decide +kernel
theorem dX7_readWalk_34 : decode cX7_readWalk 34 = .ok (.aload_n 1, 1) := by decide +kernel
theorem dX7_readWalk_35 : decode cX7_readWalk 35 = .ok (.bipush 6, 2) := by decide +kernel
theorem dX7_readWalk_37 : decode cX7_readWalk 37 = .ok (.invokevirtual 55, 3) := by decide +kernel
theorem dX7_readWalk_40 : decode cX7_readWalk 40 = .ok (.istore_n 3, 1) := by decide +kernel
theorem dX7_readWalk_41 : decode cX7_readWalk 41 = .ok (.aload_n 1, 1) := by decide +kernel
theorem dX7_readWalk_42 : decode cX7_readWalk 42 = .ok (.bipush 45, 2) := by decide +kernel
theorem dX7_readWalk_44 : decode cX7_readWalk 44 = .ok (.invokevirtual 41, 3) := by decide +kernel
theorem dX7_readWalk_47 : decode cX7_readWalk 47 = .ok (.aload_n 1, 1) := by decide +kernel
theorem dX7_readWalk_48 : decode cX7_readWalk 48 = .ok (.invokestatic 59, 3) := by decide +kernel
theorem dX7_readWalk_51 : decode cX7_readWalk 51 = .ok (.istore 4, 2) := by decide +kernel
theorem dX7_readWalk_53 : decode cX7_readWalk 53 = .ok (.aload_n 1, 1) := by decide +kernel
theorem dX7_readWalk_54 : decode cX7_readWalk 54 = .ok (.invokevirtual 35, 3) := by decide +kernel
theorem dX7_readWalk_57 : decode cX7_readWalk 57 = .ok (.bipush 43, 2) := by decide +kernel
theorem dX7_readWalk_59 : decode cX7_readWalk 59 = .ok (.if_icmp .ne 7, 3) := by decide +kernel
theorem dX7_readWalk_62 : decode cX7_readWalk 62 = .ok (.iconst 1, 1) := by decide +kernel
theorem dX7_readWalk_63 : decode cX7_readWalk 63 = .ok (.goto 4, 3) := by decide +kernel
theorem dX7_readWalk_66 : decode cX7_readWalk 66 = .ok (.iconst 0, 1) := by decide +kernel
theorem dX7_readWalk_67 : decode cX7_readWalk 67 = .ok (.istore 5, 2) := by decide +kernel
theorem dX7_readWalk_69 : decode cX7_readWalk 69 = .ok (.iload 5, 2) := by decide +kernel
theorem dX7_readWalk_71 : decode cX7_readWalk 71 = .ok (.ifCond .eq 9, 3) := by decide +kernel
theorem dX7_readWalk_74 : decode cX7_readWalk 74 = .ok (.aload_n 1, 1) := by decide +kernel
theorem dX7_readWalk_75 : decode cX7_readWalk 75 = .ok (.bipush 43, 2) := by decide +kernel
theorem dX7_readWalk_77 : decode cX7_readWalk 77 = .ok (.invokevirtual 41, 3) := by decide +kernel
theorem dX7_readWalk_80 : decode cX7_readWalk 80 = .ok (.aload_n 1, 1) := by decide +kernel
theorem dX7_readWalk_81 : decode cX7_readWalk 81 = .ok (.getfield 63, 3) := by decide +kernel
theorem dX7_readWalk_84 : decode cX7_readWalk 84 = .ok (.ifCond .ne 13, 3) := by decide +kernel
theorem dX7_readWalk_87 : decode cX7_readWalk 87 = .ok (.aload_n 0, 1) := by decide +kernel
theorem dX7_readWalk_88 : decode cX7_readWalk 88 = .ok (.iload_n 2, 1) := by decide +kernel
theorem dX7_readWalk_89 : decode cX7_readWalk 89 = .ok (.iload_n 3, 1) := by decide +kernel
theorem dX7_readWalk_90 : decode cX7_readWalk 90 = .ok (.iload 4, 2) := by decide +kernel
theorem dX7_readWalk_92 : decode cX7_readWalk 92 = .ok (.iload 5, 2) := by decide +kernel
theorem dX7_readWalk_94 : decode cX7_readWalk 94 = .ok (.invokevirtual 66, 3) := by decide +kernel
theorem dX7_readWalk_97 : decode cX7_readWalk 97 = .ok (.return_, 1) := by decide +kernel
theorem dX7_readRoom_0 : decode cX7_readRoom 0 = .ok (.aload_n 0, 1) := by decide +kernel
theorem dX7_readRoom_1 : decode cX7_readRoom 1 = .ok (.getfield 70, 3) := by decide +kernel
theorem dX7_readRoom_4 : decode cX7_readRoom 4 = .ok (.istore_n 1, 1) := by decide +kernel
theorem dX7_readRoom_5 : decode cX7_readRoom 5 = .ok (.aload_n 0, 1) := by decide +kernel
theorem dX7_readRoom_6 : decode cX7_readRoom 6 = .ok (.bipush 9, 2) := by decide +kernel
theorem dX7_readRoom_8 : decode cX7_readRoom 8 = .ok (.invokevirtual 55, 3) := by decide +kernel
theorem dX7_readRoom_11 : decode cX7_readRoom 11 = .ok (.istore_n 2, 1) := by decide +kernel
theorem dX7_readRoom_12 : decode cX7_readRoom 12 = .ok (.aload_n 0, 1) := by decide +kernel
theorem dX7_readRoom_13 : decode cX7_readRoom 13 = .ok (.invokevirtual 48, 3) := by decide +kernel
theorem dX7_readRoom_16 : decode cX7_readRoom 16 = .ok (.ifCond .eq 15, 3) := by decide +kernel
theorem dX7_readRoom_19 : decode cX7_readRoom 19 = .ok (.bipush 10, 2) := by decide +kernel
theorem dX7_readRoom_21 : decode cX7_readRoom 21 = .ok (.iload_n 2, 1) := by decide +kernel
theorem dX7_readRoom_22 : decode cX7_readRoom 22 = .ok (.imul, 1) := by decide +kernel
theorem dX7_readRoom_23 : decode cX7_readRoom 23 = .ok (.aload_n 0, 1) := by decide +kernel
theorem dX7_readRoom_24 : decode cX7_readRoom 24 = .ok (.bipush 9, 2) := by decide +kernel
theorem dX7_readRoom_26 : decode cX7_readRoom 26 = .ok (.invokevirtual 55, 3) := by decide +kernel
theorem dX7_readRoom_29 : decode cX7_readRoom 29 = .ok (.iadd, 1) := by decide +kernel
theorem dX7_readRoom_30 : decode cX7_readRoom 30 = .ok (.istore_n 2, 1) := by decide +kernel
theorem dX7_readRoom_31 : decode cX7_readRoom 31 = .ok (.iload_n 2, 1) := by decide +kernel
theorem dX7_readRoom_32 : decode cX7_readRoom 32 = .ok (.bipush 12, 2) := by decide +kernel
theorem dX7_readRoom_34 : decode cX7_readRoom 34 = .ok (.if_icmp .lt 9, 3) := by decide +kernel
theorem dX7_readRoom_37 : decode cX7_readRoom 37 = .ok (.aload_n 0, 1) := by decide +kernel
theorem dX7_readRoom_38 : decode cX7_readRoom 38 = .ok (.iconst 3, 1) := by decide +kernel
theorem dX7_readRoom_39 : decode cX7_readRoom 39 = .ok (.iload_n 1, 1) := by decide +kernel
theorem dX7_readRoom_40 : decode cX7_readRoom 40 = .ok (.invokevirtual 73, 3) := by decide +kernel
theorem dX7_readRoom_43 : decode cX7_readRoom 43 = .ok (.iload_n 2, 1) := by decide +kernel
theorem dX7_readRoom_44 : decode cX7_readRoom 44 = .ok (.ireturn, 1) := by decide +kernel
theorem dX7_add_0 : decode cX7_add 0 = .ok (.aload_n 0, 1) := by decide +kernel
theorem dX7_add_1 : decode cX7_add 1 = .ok (.getfield 27, 3) := by decide +kernel
theorem dX7_add_4 : decode cX7_add 4 = .ok (.bipush 16, 2) := by decide +kernel
theorem dX7_add_6 : decode cX7_add 6 = .ok (.if_icmp .lt 4, 3) := by decide +kernel
theorem dX7_add_9 : decode cX7_add 9 = .ok (.return_, 1) := by decide +kernel
theorem dX7_add_10 : decode cX7_add 10 = .ok (.aload_n 0, 1) := by decide +kernel
theorem dX7_add_11 : decode cX7_add 11 = .ok (.getfield 11, 3) := by decide +kernel
theorem dX7_add_14 : decode cX7_add 14 = .ok (.aload_n 0, 1) := by decide +kernel
theorem dX7_add_15 : decode cX7_add 15 = .ok (.getfield 27, 3) := by decide +kernel
theorem dX7_add_18 : decode cX7_add 18 = .ok (.iload_n 1, 1) := by decide +kernel
theorem dX7_add_19 : decode cX7_add 19 = .ok (.iastore, 1) := by decide +kernel
theorem dX7_add_20 : decode cX7_add 20 = .ok (.aload_n 0, 1) := by decide +kernel
theorem dX7_add_21 : decode cX7_add 21 = .ok (.getfield 15, 3) := by decide +kernel
theorem dX7_add_24 : decode cX7_add 24 = .ok (.aload_n 0, 1) := by decide +kernel
theorem dX7_add_25 : decode cX7_add 25 = .ok (.getfield 27, 3) := by decide +kernel
theorem dX7_add_28 : decode cX7_add 28 = .ok (.iload_n 2, 1) := by decide +kernel
theorem dX7_add_29 : decode cX7_add 29 = .ok (.iastore, 1) := by decide +kernel
theorem dX7_add_30 : decode cX7_add 30 = .ok (.aload_n 0, 1) := by decide +kernel
theorem dX7_add_31 : decode cX7_add 31 = .ok (.getfield 18, 3) := by decide +kernel
theorem dX7_add_34 : decode cX7_add 34 = .ok (.aload_n 0, 1) := by decide +kernel
theorem dX7_add_35 : decode cX7_add 35 = .ok (.getfield 27, 3) := by decide +kernel
theorem dX7_add_38 : decode cX7_add 38 = .ok (.iload_n 3, 1) := by decide +kernel
theorem dX7_add_39 : decode cX7_add 39 = .ok (.iastore, 1) := by decide +kernel
theorem dX7_add_40 : decode cX7_add 40 = .ok (.aload_n 0, 1) := by decide +kernel
theorem dX7_add_41 : decode cX7_add 41 = .ok (.getfield 21, 3) := by decide +kernel
theorem dX7_add_44 : decode cX7_add 44 = .ok (.aload_n 0, 1) := by decide +kernel
theorem dX7_add_45 : decode cX7_add 45 = .ok (.getfield 27, 3) := by decide +kernel
theorem dX7_add_48 : decode cX7_add 48 = .ok (.iload 4, 2) := by decide +kernel
theorem dX7_add_50 : decode cX7_add 50 = .ok (.ifCond .eq 7, 3) := by decide +kernel
theorem dX7_add_53 : decode cX7_add 53 = .ok (.iconst 1, 1) := by decide +kernel
theorem dX7_add_54 : decode cX7_add 54 = .ok (.goto 4, 3) := by decide +kernel
theorem dX7_add_57 : decode cX7_add 57 = .ok (.iconst 0, 1) := by decide +kernel
theorem dX7_add_58 : decode cX7_add 58 = .ok (.iastore, 1) := by decide +kernel
theorem dX7_add_59 : decode cX7_add 59 = .ok (.aload_n 0, 1) := by decide +kernel
theorem dX7_add_60 : decode cX7_add 60 = .ok (.getfield 24, 3) := by decide +kernel
theorem dX7_add_63 : decode cX7_add 63 = .ok (.aload_n 0, 1) := by decide +kernel
theorem dX7_add_64 : decode cX7_add 64 = .ok (.getfield 27, 3) := by decide +kernel
theorem dX7_add_67 : decode cX7_add 67 = .ok (.iconst 1, 1) := by decide +kernel
theorem dX7_add_68 : decode cX7_add 68 = .ok (.iastore, 1) := by decide +kernel
theorem dX7_add_69 : decode cX7_add 69 = .ok (.iconst 0, 1) := by decide +kernel
theorem dX7_add_70 : decode cX7_add 70 = .ok (.istore 5, 2) := by decide +kernel
theorem dX7_add_72 : decode cX7_add 72 = .ok (.iload 5, 2) := by decide +kernel
theorem dX7_add_74 : decode cX7_add 74 = .ok (.aload_n 0, 1) := by decide +kernel
theorem dX7_add_75 : decode cX7_add 75 = .ok (.getfield 27, 3) := by decide +kernel
theorem dX7_add_78 : decode cX7_add 78 = .ok (.if_icmp .ge 41, 3) := by decide +kernel
theorem dX7_add_81 : decode cX7_add 81 = .ok (.aload_n 0, 1) := by decide +kernel
theorem dX7_add_82 : decode cX7_add 82 = .ok (.getfield 11, 3) := by decide +kernel
theorem dX7_add_85 : decode cX7_add 85 = .ok (.iload 5, 2) := by decide +kernel
theorem dX7_add_87 : decode cX7_add 87 = .ok (.iaload, 1) := by decide +kernel
theorem dX7_add_88 : decode cX7_add 88 = .ok (.iload_n 1, 1) := by decide +kernel
theorem dX7_add_89 : decode cX7_add 89 = .ok (.if_icmp .ne 24, 3) := by decide +kernel
theorem dX7_add_92 : decode cX7_add 92 = .ok (.aload_n 0, 1) := by decide +kernel
theorem dX7_add_93 : decode cX7_add 93 = .ok (.getfield 15, 3) := by decide +kernel
theorem dX7_add_96 : decode cX7_add 96 = .ok (.iload 5, 2) := by decide +kernel
theorem dX7_add_98 : decode cX7_add 98 = .ok (.iaload, 1) := by decide +kernel
theorem dX7_add_99 : decode cX7_add 99 = .ok (.iload_n 2, 1) := by decide +kernel
theorem dX7_add_100 : decode cX7_add 100 = .ok (.if_icmp .ne 13, 3) := by decide +kernel
theorem dX7_add_103 : decode cX7_add 103 = .ok (.aload_n 0, 1) := by decide +kernel
theorem dX7_add_104 : decode cX7_add 104 = .ok (.getfield 24, 3) := by decide +kernel
theorem dX7_add_107 : decode cX7_add 107 = .ok (.aload_n 0, 1) := by decide +kernel
theorem dX7_add_108 : decode cX7_add 108 = .ok (.getfield 27, 3) := by decide +kernel
theorem dX7_add_111 : decode cX7_add 111 = .ok (.iconst 0, 1) := by decide +kernel
theorem dX7_add_112 : decode cX7_add 112 = .ok (.iastore, 1) := by decide +kernel
theorem dX7_add_113 : decode cX7_add 113 = .ok (.iinc 5 1, 3) := by decide +kernel
theorem dX7_add_116 : decode cX7_add 116 = .ok (.goto (-44), 3) := by decide +kernel
theorem dX7_add_119 : decode cX7_add 119 = .ok (.aload_n 0, 1) := by decide +kernel
theorem dX7_add_120 : decode cX7_add 120 = .ok (.dup, 1) := by decide +kernel
theorem dX7_add_121 : decode cX7_add 121 = .ok (.getfield 27, 3) := by decide +kernel
theorem dX7_add_124 : decode cX7_add 124 = .ok (.iconst 1, 1) := by decide +kernel
theorem dX7_add_125 : decode cX7_add 125 = .ok (.iadd, 1) := by decide +kernel
theorem dX7_add_126 : decode cX7_add 126 = .ok (.putfield 27, 3) := by decide +kernel
theorem dX7_add_129 : decode cX7_add 129 = .ok (.return_, 1) := by decide +kernel
theorem dX7_isGone_0 : decode cX7_isGone 0 = .ok (.aload_n 0, 1) := by decide +kernel
theorem dX7_isGone_1 : decode cX7_isGone 1 = .ok (.getfield 24, 3) := by decide +kernel
theorem dX7_isGone_4 : decode cX7_isGone 4 = .ok (.iload_n 1, 1) := by decide +kernel
theorem dX7_isGone_5 : decode cX7_isGone 5 = .ok (.iaload, 1) := by decide +kernel
theorem dX7_isGone_6 : decode cX7_isGone 6 = .ok (.iconst 1, 1) := by decide +kernel
theorem dX7_isGone_7 : decode cX7_isGone 7 = .ok (.if_icmp .ne 20, 3) := by decide +kernel
theorem dX7_isGone_10 : decode cX7_isGone 10 = .ok (.aload_n 2, 1) := by decide +kernel
theorem dX7_isGone_11 : decode cX7_isGone 11 = .ok (.aload_n 0, 1) := by decide +kernel
theorem dX7_isGone_12 : decode cX7_isGone 12 = .ok (.getfield 11, 3) := by decide +kernel
theorem dX7_isGone_15 : decode cX7_isGone 15 = .ok (.iload_n 1, 1) := by decide +kernel
theorem dX7_isGone_16 : decode cX7_isGone 16 = .ok (.iaload, 1) := by decide +kernel
theorem dX7_isGone_17 : decode cX7_isGone 17 = .ok (.invokevirtual 77, 3) := by decide +kernel
theorem dX7_isGone_20 : decode cX7_isGone 20 = .ok (.ifCond .eq 7, 3) := by decide +kernel
theorem dX7_isGone_23 : decode cX7_isGone 23 = .ok (.iconst 1, 1) := by decide +kernel
theorem dX7_isGone_24 : decode cX7_isGone 24 = .ok (.goto 4, 3) := by decide +kernel
theorem dX7_isGone_27 : decode cX7_isGone 27 = .ok (.iconst 0, 1) := by decide +kernel
theorem dX7_isGone_28 : decode cX7_isGone 28 = .ok (.ireturn, 1) := by decide +kernel
theorem dX7_isListed_0 : decode cX7_isListed 0 = .ok (.iconst 0, 1) := by decide +kernel
theorem dX7_isListed_1 : decode cX7_isListed 1 = .ok (.istore_n 2, 1) := by decide +kernel
theorem dX7_isListed_2 : decode cX7_isListed 2 = .ok (.iload_n 2, 1) := by decide +kernel
theorem dX7_isListed_3 : decode cX7_isListed 3 = .ok (.aload_n 0, 1) := by decide +kernel
theorem dX7_isListed_4 : decode cX7_isListed 4 = .ok (.getfield 27, 3) := by decide +kernel
theorem dX7_isListed_7 : decode cX7_isListed 7 = .ok (.if_icmp .ge 21, 3) := by decide +kernel
theorem dX7_isListed_10 : decode cX7_isListed 10 = .ok (.aload_n 0, 1) := by decide +kernel
theorem dX7_isListed_11 : decode cX7_isListed 11 = .ok (.getfield 11, 3) := by decide +kernel
theorem dX7_isListed_14 : decode cX7_isListed 14 = .ok (.iload_n 2, 1) := by decide +kernel
theorem dX7_isListed_15 : decode cX7_isListed 15 = .ok (.iaload, 1) := by decide +kernel
theorem dX7_isListed_16 : decode cX7_isListed 16 = .ok (.iload_n 1, 1) := by decide +kernel
theorem dX7_isListed_17 : decode cX7_isListed 17 = .ok (.if_icmp .ne 5, 3) := by decide +kernel
theorem dX7_isListed_20 : decode cX7_isListed 20 = .ok (.iconst 1, 1) := by decide +kernel
theorem dX7_isListed_21 : decode cX7_isListed 21 = .ok (.ireturn, 1) := by decide +kernel
theorem dX7_isListed_22 : decode cX7_isListed 22 = .ok (.iinc 2 1, 3) := by decide +kernel
theorem dX7_isListed_25 : decode cX7_isListed 25 = .ok (.goto (-23), 3) := by decide +kernel
theorem dX7_isListed_28 : decode cX7_isListed 28 = .ok (.iconst 0, 1) := by decide +kernel
theorem dX7_isListed_29 : decode cX7_isListed 29 = .ok (.ireturn, 1) := by decide +kernel
theorem dX7_isClaimed_0 : decode cX7_isClaimed 0 = .ok (.aload_n 0, 1) := by decide +kernel
theorem dX7_isClaimed_1 : decode cX7_isClaimed 1 = .ok (.getfield 11, 3) := by decide +kernel
theorem dX7_isClaimed_4 : decode cX7_isClaimed 4 = .ok (.iload_n 1, 1) := by decide +kernel
theorem dX7_isClaimed_5 : decode cX7_isClaimed 5 = .ok (.iaload, 1) := by decide +kernel
theorem dX7_isClaimed_6 : decode cX7_isClaimed 6 = .ok (.istore_n 3, 1) := by decide +kernel
theorem dX7_isClaimed_7 : decode cX7_isClaimed 7 = .ok (.iconst 0, 1) := by decide +kernel
theorem dX7_isClaimed_8 : decode cX7_isClaimed 8 = .ok (.istore 4, 2) := by decide +kernel
theorem dX7_isClaimed_10 : decode cX7_isClaimed 10 = .ok (.iload 4, 2) := by decide +kernel
theorem dX7_isClaimed_12 : decode cX7_isClaimed 12 = .ok (.aload_n 0, 1) := by decide +kernel
theorem dX7_isClaimed_13 : decode cX7_isClaimed 13 = .ok (.getfield 27, 3) := by decide +kernel
theorem dX7_isClaimed_16 : decode cX7_isClaimed 16 = .ok (.if_icmp .ge 91, 3) := by decide +kernel
theorem dX7_isClaimed_19 : decode cX7_isClaimed 19 = .ok (.aload_n 0, 1) := by decide +kernel
theorem dX7_isClaimed_20 : decode cX7_isClaimed 20 = .ok (.getfield 15, 3) := by decide +kernel
theorem dX7_isClaimed_23 : decode cX7_isClaimed 23 = .ok (.iload 4, 2) := by decide +kernel
theorem dX7_isClaimed_25 : decode cX7_isClaimed 25 = .ok (.iaload, 1) := by decide +kernel
theorem dX7_isClaimed_26 : decode cX7_isClaimed 26 = .ok (.aload_n 0, 1) := by decide +kernel
theorem dX7_isClaimed_27 : decode cX7_isClaimed 27 = .ok (.getfield 15, 3) := by decide +kernel
theorem dX7_isClaimed_30 : decode cX7_isClaimed 30 = .ok (.iload_n 1, 1) := by decide +kernel
theorem dX7_isClaimed_31 : decode cX7_isClaimed 31 = .ok (.iaload, 1) := by decide +kernel
theorem dX7_isClaimed_32 : decode cX7_isClaimed 32 = .ok (.if_icmp .ne 44, 3) := by decide +kernel
theorem dX7_isClaimed_35 : decode cX7_isClaimed 35 = .ok (.aload_n 0, 1) := by decide +kernel
theorem dX7_isClaimed_36 : decode cX7_isClaimed 36 = .ok (.getfield 18, 3) := by decide +kernel
theorem dX7_isClaimed_39 : decode cX7_isClaimed 39 = .ok (.iload 4, 2) := by decide +kernel
theorem dX7_isClaimed_41 : decode cX7_isClaimed 41 = .ok (.iaload, 1) := by decide +kernel
theorem dX7_isClaimed_42 : decode cX7_isClaimed 42 = .ok (.aload_n 0, 1) := by decide +kernel
theorem dX7_isClaimed_43 : decode cX7_isClaimed 43 = .ok (.getfield 18, 3) := by decide +kernel
theorem dX7_isClaimed_46 : decode cX7_isClaimed 46 = .ok (.iload_n 1, 1) := by decide +kernel
theorem dX7_isClaimed_47 : decode cX7_isClaimed 47 = .ok (.iaload, 1) := by decide +kernel
theorem dX7_isClaimed_48 : decode cX7_isClaimed 48 = .ok (.if_icmp .ne 28, 3) := by decide +kernel
theorem dX7_isClaimed_51 : decode cX7_isClaimed 51 = .ok (.aload_n 0, 1) := by decide +kernel
theorem dX7_isClaimed_52 : decode cX7_isClaimed 52 = .ok (.getfield 11, 3) := by decide +kernel
theorem dX7_isClaimed_55 : decode cX7_isClaimed 55 = .ok (.iload 4, 2) := by decide +kernel
theorem dX7_isClaimed_57 : decode cX7_isClaimed 57 = .ok (.iaload, 1) := by decide +kernel
theorem dX7_isClaimed_58 : decode cX7_isClaimed 58 = .ok (.iload_n 3, 1) := by decide +kernel
theorem dX7_isClaimed_59 : decode cX7_isClaimed 59 = .ok (.if_icmp .eq 17, 3) := by decide +kernel
theorem dX7_isClaimed_62 : decode cX7_isClaimed 62 = .ok (.aload_n 0, 1) := by decide +kernel
theorem dX7_isClaimed_63 : decode cX7_isClaimed 63 = .ok (.iload 4, 2) := by decide +kernel
theorem dX7_isClaimed_65 : decode cX7_isClaimed 65 = .ok (.aload_n 2, 1) := by decide +kernel
theorem dX7_isClaimed_66 : decode cX7_isClaimed 66 = .ok (.invokevirtual 83, 3) := by decide +kernel
theorem dX7_isClaimed_69 : decode cX7_isClaimed 69 = .ok (.ifCond .eq 7, 3) := by decide +kernel
theorem dX7_isClaimed_72 : decode cX7_isClaimed 72 = .ok (.iconst 1, 1) := by decide +kernel
theorem dX7_isClaimed_73 : decode cX7_isClaimed 73 = .ok (.goto 4, 3) := by decide +kernel
theorem dX7_isClaimed_76 : decode cX7_isClaimed 76 = .ok (.iconst 0, 1) := by decide +kernel
theorem dX7_isClaimed_77 : decode cX7_isClaimed 77 = .ok (.istore 5, 2) := by decide +kernel
theorem dX7_isClaimed_79 : decode cX7_isClaimed 79 = .ok (.iload 5, 2) := by decide +kernel
theorem dX7_isClaimed_81 : decode cX7_isClaimed 81 = .ok (.ifCond .eq 20, 3) := by decide +kernel
theorem dX7_isClaimed_84 : decode cX7_isClaimed 84 = .ok (.aload_n 0, 1) := by decide +kernel
theorem dX7_isClaimed_85 : decode cX7_isClaimed 85 = .ok (.getfield 11, 3) := by decide +kernel
theorem dX7_isClaimed_88 : decode cX7_isClaimed 88 = .ok (.iload 4, 2) := by decide +kernel
theorem dX7_isClaimed_90 : decode cX7_isClaimed 90 = .ok (.iaload, 1) := by decide +kernel
theorem dX7_isClaimed_91 : decode cX7_isClaimed 91 = .ok (.iload_n 3, 1) := by decide +kernel
theorem dX7_isClaimed_92 : decode cX7_isClaimed 92 = .ok (.aload_n 2, 1) := by decide +kernel
theorem dX7_isClaimed_93 : decode cX7_isClaimed 93 = .ok (.invokestatic 87, 3) := by decide +kernel
theorem dX7_isClaimed_96 : decode cX7_isClaimed 96 = .ok (.ifCond .eq 5, 3) := by decide +kernel
theorem dX7_isClaimed_99 : decode cX7_isClaimed 99 = .ok (.iconst 1, 1) := by decide +kernel
theorem dX7_isClaimed_100 : decode cX7_isClaimed 100 = .ok (.ireturn, 1) := by decide +kernel
theorem dX7_isClaimed_101 : decode cX7_isClaimed 101 = .ok (.iinc 4 1, 3) := by decide +kernel
theorem dX7_isClaimed_104 : decode cX7_isClaimed 104 = .ok (.goto (-94), 3) := by decide +kernel
theorem dX7_isClaimed_107 : decode cX7_isClaimed 107 = .ok (.iconst 0, 1) := by decide +kernel
theorem dX7_isClaimed_108 : decode cX7_isClaimed 108 = .ok (.ireturn, 1) := by decide +kernel
theorem dX7_isElder_0 : decode cX7_isElder 0 = .ok (.aload_n 2, 1) := by decide +kernel
theorem dX7_isElder_1 : decode cX7_isElder 1 = .ok (.getfield 91, 3) := by decide +kernel
theorem dX7_isElder_4 : decode cX7_isElder 4 = .ok (.iload_n 0, 1) := by decide +kernel
theorem dX7_isElder_5 : decode cX7_isElder 5 = .ok (.iaload, 1) := by decide +kernel
theorem dX7_isElder_6 : decode cX7_isElder 6 = .ok (.aload_n 2, 1) := by decide +kernel
theorem dX7_isElder_7 : decode cX7_isElder 7 = .ok (.getfield 91, 3) := by decide +kernel
theorem dX7_isElder_10 : decode cX7_isElder 10 = .ok (.iload_n 1, 1) := by decide +kernel
theorem dX7_isElder_11 : decode cX7_isElder 11 = .ok (.iaload, 1) := by decide +kernel
theorem dX7_isElder_12 : decode cX7_isElder 12 = .ok (.if_icmp .gt 23, 3) := by decide +kernel
theorem dX7_isElder_15 : decode cX7_isElder 15 = .ok (.aload_n 2, 1) := by decide +kernel
theorem dX7_isElder_16 : decode cX7_isElder 16 = .ok (.getfield 91, 3) := by decide +kernel
theorem dX7_isElder_19 : decode cX7_isElder 19 = .ok (.iload_n 0, 1) := by decide +kernel
theorem dX7_isElder_20 : decode cX7_isElder 20 = .ok (.iaload, 1) := by decide +kernel
theorem dX7_isElder_21 : decode cX7_isElder 21 = .ok (.aload_n 2, 1) := by decide +kernel
theorem dX7_isElder_22 : decode cX7_isElder 22 = .ok (.getfield 91, 3) := by decide +kernel
theorem dX7_isElder_25 : decode cX7_isElder 25 = .ok (.iload_n 1, 1) := by decide +kernel
theorem dX7_isElder_26 : decode cX7_isElder 26 = .ok (.iaload, 1) := by decide +kernel
theorem dX7_isElder_27 : decode cX7_isElder 27 = .ok (.if_icmp .ne 12, 3) := by decide +kernel
theorem dX7_isElder_30 : decode cX7_isElder 30 = .ok (.iload_n 0, 1) := by decide +kernel
theorem dX7_isElder_31 : decode cX7_isElder 31 = .ok (.iload_n 1, 1) := by decide +kernel
theorem dX7_isElder_32 : decode cX7_isElder 32 = .ok (.if_icmp .ge 7, 3) := by decide +kernel
theorem dX7_isElder_35 : decode cX7_isElder 35 = .ok (.iconst 1, 1) := by decide +kernel
theorem dX7_isElder_36 : decode cX7_isElder 36 = .ok (.goto 4, 3) := by decide +kernel
theorem dX7_isElder_39 : decode cX7_isElder 39 = .ok (.iconst 0, 1) := by decide +kernel
theorem dX7_isElder_40 : decode cX7_isElder 40 = .ok (.ireturn, 1) := by decide +kernel
theorem dX7_coldOf_0 : decode cX7_coldOf 0 = .ok (.iconst 0, 1) := by decide +kernel
theorem dX7_coldOf_1 : decode cX7_coldOf 1 = .ok (.istore_n 3, 1) := by decide +kernel
theorem dX7_coldOf_2 : decode cX7_coldOf 2 = .ok (.iconst 0, 1) := by decide +kernel
theorem dX7_coldOf_3 : decode cX7_coldOf 3 = .ok (.istore 4, 2) := by decide +kernel
theorem dX7_coldOf_5 : decode cX7_coldOf 5 = .ok (.iconst 0, 1) := by decide +kernel
theorem dX7_coldOf_6 : decode cX7_coldOf 6 = .ok (.istore 5, 2) := by decide +kernel
theorem dX7_coldOf_8 : decode cX7_coldOf 8 = .ok (.iload 5, 2) := by decide +kernel
theorem dX7_coldOf_10 : decode cX7_coldOf 10 = .ok (.aload_n 0, 1) := by decide +kernel
theorem dX7_coldOf_11 : decode cX7_coldOf 11 = .ok (.getfield 27, 3) := by decide +kernel
theorem dX7_coldOf_14 : decode cX7_coldOf 14 = .ok (.if_icmp .ge 67, 3) := by decide +kernel
theorem dX7_coldOf_17 : decode cX7_coldOf 17 = .ok (.aload_n 0, 1) := by decide +kernel
theorem dX7_coldOf_18 : decode cX7_coldOf 18 = .ok (.getfield 11, 3) := by decide +kernel
theorem dX7_coldOf_21 : decode cX7_coldOf 21 = .ok (.iload 5, 2) := by decide +kernel
theorem dX7_coldOf_23 : decode cX7_coldOf 23 = .ok (.iaload, 1) := by decide +kernel
theorem dX7_coldOf_24 : decode cX7_coldOf 24 = .ok (.istore 6, 2) := by decide +kernel
theorem dX7_coldOf_26 : decode cX7_coldOf 26 = .ok (.aload_n 0, 1) := by decide +kernel
theorem dX7_coldOf_27 : decode cX7_coldOf 27 = .ok (.getfield 18, 3) := by decide +kernel
theorem dX7_coldOf_30 : decode cX7_coldOf 30 = .ok (.iload 5, 2) := by decide +kernel
theorem dX7_coldOf_32 : decode cX7_coldOf 32 = .ok (.iaload, 1) := by decide +kernel
theorem dX7_coldOf_33 : decode cX7_coldOf 33 = .ok (.iload_n 1, 1) := by decide +kernel
theorem dX7_coldOf_34 : decode cX7_coldOf 34 = .ok (.if_icmp .ne 41, 3) := by decide +kernel
theorem dX7_coldOf_37 : decode cX7_coldOf 37 = .ok (.aload_n 0, 1) := by decide +kernel
theorem dX7_coldOf_38 : decode cX7_coldOf 38 = .ok (.iload 5, 2) := by decide +kernel
theorem dX7_coldOf_40 : decode cX7_coldOf 40 = .ok (.aload_n 2, 1) := by decide +kernel
theorem dX7_coldOf_41 : decode cX7_coldOf 41 = .ok (.invokevirtual 83, 3) := by decide +kernel
theorem dX7_coldOf_44 : decode cX7_coldOf 44 = .ok (.ifCond .eq 31, 3) := by decide +kernel
theorem dX7_coldOf_47 : decode cX7_coldOf 47 = .ok (.iload_n 3, 1) := by decide +kernel
theorem dX7_coldOf_48 : decode cX7_coldOf 48 = .ok (.iload 6, 2) := by decide +kernel
theorem dX7_coldOf_50 : decode cX7_coldOf 50 = .ok (.ishr, 1) := by decide +kernel
theorem dX7_coldOf_51 : decode cX7_coldOf 51 = .ok (.iconst 1, 1) := by decide +kernel
theorem dX7_coldOf_52 : decode cX7_coldOf 52 = .ok (.iand, 1) := by decide +kernel
theorem dX7_coldOf_53 : decode cX7_coldOf 53 = .ok (.ifCond .ne 22, 3) := by decide +kernel
theorem dX7_coldOf_56 : decode cX7_coldOf 56 = .ok (.iload_n 3, 1) := by decide +kernel
theorem dX7_coldOf_57 : decode cX7_coldOf 57 = .ok (.iconst 1, 1) := by decide +kernel
theorem dX7_coldOf_58 : decode cX7_coldOf 58 = .ok (.iload 6, 2) := by decide +kernel
theorem dX7_coldOf_60 : decode cX7_coldOf 60 = .ok (.ishl, 1) := by decide +kernel
theorem dX7_coldOf_61 : decode cX7_coldOf 61 = .ok (.ior, 1) := by decide +kernel
theorem dX7_coldOf_62 : decode cX7_coldOf 62 = .ok (.istore_n 3, 1) := by decide +kernel
theorem dX7_coldOf_63 : decode cX7_coldOf 63 = .ok (.iload 4, 2) := by decide +kernel
theorem dX7_coldOf_65 : decode cX7_coldOf 65 = .ok (.aload_n 2, 1) := by decide +kernel
theorem dX7_coldOf_66 : decode cX7_coldOf 66 = .ok (.getfield 94, 3) := by decide +kernel
theorem dX7_coldOf_69 : decode cX7_coldOf 69 = .ok (.iload 6, 2) := by decide +kernel
theorem dX7_coldOf_71 : decode cX7_coldOf 71 = .ok (.iaload, 1) := by decide +kernel
theorem dX7_coldOf_72 : decode cX7_coldOf 72 = .ok (.iadd, 1) := by decide +kernel
theorem dX7_coldOf_73 : decode cX7_coldOf 73 = .ok (.istore 4, 2) := by decide +kernel
theorem dX7_coldOf_75 : decode cX7_coldOf 75 = .ok (.iinc 5 1, 3) := by decide +kernel
theorem dX7_coldOf_78 : decode cX7_coldOf 78 = .ok (.goto (-70), 3) := by decide +kernel
theorem dX7_coldOf_81 : decode cX7_coldOf 81 = .ok (.iload 4, 2) := by decide +kernel
theorem dX7_coldOf_83 : decode cX7_coldOf 83 = .ok (.ireturn, 1) := by decide +kernel
theorem dX7_copy_0 : decode cX7_copy 0 = .ok (.aload_n 1, 1) := by decide +kernel
theorem dX7_copy_1 : decode cX7_copy 1 = .ok (.getfield 11, 3) := by decide +kernel
theorem dX7_copy_4 : decode cX7_copy 4 = .ok (.iconst 0, 1) := by decide +kernel
theorem dX7_copy_5 : decode cX7_copy 5 = .ok (.aload_n 0, 1) := by decide +kernel
theorem dX7_copy_6 : decode cX7_copy 6 = .ok (.getfield 11, 3) := by decide +kernel
theorem dX7_copy_9 : decode cX7_copy 9 = .ok (.iconst 0, 1) := by decide +kernel
theorem dX7_copy_10 : decode cX7_copy 10 = .ok (.bipush 16, 2) := by decide +kernel
theorem dX7_copy_12 : decode cX7_copy 12 = .ok (.invokestatic 97, 3) := by decide +kernel
theorem dX7_copy_15 : decode cX7_copy 15 = .ok (.aload_n 1, 1) := by decide +kernel
theorem dX7_copy_16 : decode cX7_copy 16 = .ok (.getfield 15, 3) := by decide +kernel
theorem dX7_copy_19 : decode cX7_copy 19 = .ok (.iconst 0, 1) := by decide +kernel
theorem dX7_copy_20 : decode cX7_copy 20 = .ok (.aload_n 0, 1) := by decide +kernel
theorem dX7_copy_21 : decode cX7_copy 21 = .ok (.getfield 15, 3) := by decide +kernel
theorem dX7_copy_24 : decode cX7_copy 24 = .ok (.iconst 0, 1) := by decide +kernel
theorem dX7_copy_25 : decode cX7_copy 25 = .ok (.bipush 16, 2) := by decide +kernel
theorem dX7_copy_27 : decode cX7_copy 27 = .ok (.invokestatic 97, 3) := by decide +kernel
theorem dX7_copy_30 : decode cX7_copy 30 = .ok (.aload_n 1, 1) := by decide +kernel
theorem dX7_copy_31 : decode cX7_copy 31 = .ok (.getfield 18, 3) := by decide +kernel
theorem dX7_copy_34 : decode cX7_copy 34 = .ok (.iconst 0, 1) := by decide +kernel
theorem dX7_copy_35 : decode cX7_copy 35 = .ok (.aload_n 0, 1) := by decide +kernel
theorem dX7_copy_36 : decode cX7_copy 36 = .ok (.getfield 18, 3) := by decide +kernel
theorem dX7_copy_39 : decode cX7_copy 39 = .ok (.iconst 0, 1) := by decide +kernel
theorem dX7_copy_40 : decode cX7_copy 40 = .ok (.bipush 16, 2) := by decide +kernel
theorem dX7_copy_42 : decode cX7_copy 42 = .ok (.invokestatic 97, 3) := by decide +kernel
theorem dX7_copy_45 : decode cX7_copy 45 = .ok (.aload_n 1, 1) := by decide +kernel
theorem dX7_copy_46 : decode cX7_copy 46 = .ok (.getfield 21, 3) := by decide +kernel
theorem dX7_copy_49 : decode cX7_copy 49 = .ok (.iconst 0, 1) := by decide +kernel
theorem dX7_copy_50 : decode cX7_copy 50 = .ok (.aload_n 0, 1) := by decide +kernel
theorem dX7_copy_51 : decode cX7_copy 51 = .ok (.getfield 21, 3) := by decide +kernel
theorem dX7_copy_54 : decode cX7_copy 54 = .ok (.iconst 0, 1) := by decide +kernel
theorem dX7_copy_55 : decode cX7_copy 55 = .ok (.bipush 16, 2) := by decide +kernel
theorem dX7_copy_57 : decode cX7_copy 57 = .ok (.invokestatic 97, 3) := by decide +kernel
theorem dX7_copy_60 : decode cX7_copy 60 = .ok (.aload_n 1, 1) := by decide +kernel
theorem dX7_copy_61 : decode cX7_copy 61 = .ok (.getfield 24, 3) := by decide +kernel
theorem dX7_copy_64 : decode cX7_copy 64 = .ok (.iconst 0, 1) := by decide +kernel
theorem dX7_copy_65 : decode cX7_copy 65 = .ok (.aload_n 0, 1) := by decide +kernel
theorem dX7_copy_66 : decode cX7_copy 66 = .ok (.getfield 24, 3) := by decide +kernel
theorem dX7_copy_69 : decode cX7_copy 69 = .ok (.iconst 0, 1) := by decide +kernel
theorem dX7_copy_70 : decode cX7_copy 70 = .ok (.bipush 16, 2) := by decide +kernel
theorem dX7_copy_72 : decode cX7_copy 72 = .ok (.invokestatic 97, 3) := by decide +kernel
theorem dX7_copy_75 : decode cX7_copy 75 = .ok (.aload_n 0, 1) := by decide +kernel
theorem dX7_copy_76 : decode cX7_copy 76 = .ok (.aload_n 1, 1) := by decide +kernel
theorem dX7_copy_77 : decode cX7_copy 77 = .ok (.getfield 27, 3) := by decide +kernel
theorem dX7_copy_80 : decode cX7_copy 80 = .ok (.putfield 27, 3) := by decide +kernel
theorem dX7_copy_83 : decode cX7_copy 83 = .ok (.return_, 1) := by decide +kernel
theorem dX8_init_0 : decode cX8_init 0 = .ok (.aload_n 0, 1) := by decide +kernel
theorem dX8_init_1 : decode cX8_init 1 = .ok (.invokespecial 3, 3) := by decide +kernel
theorem dX8_init_4 : decode cX8_init 4 = .ok (.aload_n 0, 1) := by decide +kernel
theorem dX8_init_5 : decode cX8_init 5 = .ok (.bipush 47, 2) := by decide +kernel
theorem dX8_init_7 : decode cX8_init 7 = .ok (.newarray .int, 2) := by decide +kernel
theorem dX8_init_9 : decode cX8_init 9 = .ok (.putfield 9, 3) := by decide +kernel
theorem dX8_init_12 : decode cX8_init 12 = .ok (.aload_n 0, 1) := by decide +kernel
theorem dX8_init_13 : decode cX8_init 13 = .ok (.aload_n 1, 1) := by decide +kernel
theorem dX8_init_14 : decode cX8_init 14 = .ok (.putfield 15, 3) := by decide +kernel
theorem dX8_init_17 : decode cX8_init 17 = .ok (.aload_n 0, 1) := by decide +kernel
theorem dX8_init_18 : decode cX8_init 18 = .ok (.aload_n 2, 1) := by decide +kernel
theorem dX8_init_19 : decode cX8_init 19 = .ok (.putfield 19, 3) := by decide +kernel
theorem dX8_init_22 : decode cX8_init 22 = .ok (.aload_n 0, 1) := by decide +kernel
theorem dX8_init_23 : decode cX8_init 23 = .ok (.aload_n 3, 1) := by decide +kernel
theorem dX8_init_24 : decode cX8_init 24 = .ok (.putfield 23, 3) := by decide +kernel
theorem dX8_init_27 : decode cX8_init 27 = .ok (.return_, 1) := by decide +kernel
theorem dX8_pass_0 : decode cX8_pass 0 = .ok (.aload_n 0, 1) := by decide +kernel
theorem dX8_pass_1 : decode cX8_pass 1 = .ok (.getfield 9, 3) := by decide +kernel
theorem dX8_pass_4 : decode cX8_pass 4 = .ok (.iconst 0, 1) := by decide +kernel
theorem dX8_pass_5 : decode cX8_pass 5 = .ok (.invokestatic 27, 3) := by decide +kernel
theorem dX8_pass_8 : decode cX8_pass 8 = .ok (.aload_n 0, 1) := by decide +kernel
theorem dX8_pass_9 : decode cX8_pass 9 = .ok (.aload_n 0, 1) := by decide +kernel
theorem dX8_pass_10 : decode cX8_pass 10 = .ok (.getfield 15, 3) := by decide +kernel
theorem dX8_pass_13 : decode cX8_pass 13 = .ok (.getfield 33, 3) := by decide +kernel
theorem dX8_pass_16 : decode cX8_pass 16 = .ok (.putfield 39, 3) := by decide +kernel
theorem dX8_pass_19 : decode cX8_pass 19 = .ok (.iconst 0, 1) := by decide +kernel
theorem dX8_pass_20 : decode cX8_pass 20 = .ok (.istore_n 1, 1) := by decide +kernel
theorem dX8_pass_21 : decode cX8_pass 21 = .ok (.iload_n 1, 1) := by decide +kernel
theorem dX8_pass_22 : decode cX8_pass 22 = .ok (.bipush 7, 2) := by decide +kernel
theorem dX8_pass_24 : decode cX8_pass 24 = .ok (.if_icmp .ge 72, 3) := by decide +kernel
theorem dX8_pass_27 : decode cX8_pass 27 = .ok (.aload_n 0, 1) := by decide +kernel
theorem dX8_pass_28 : decode cX8_pass 28 = .ok (.aload_n 0, 1) := by decide +kernel
theorem dX8_pass_29 : decode cX8_pass 29 = .ok (.getfield 15, 3) := by decide +kernel
theorem dX8_pass_32 : decode cX8_pass 32 = .ok (.getfield 40, 3) := by decide +kernel
theorem dX8_pass_35 : decode cX8_pass 35 = .ok (.putfield 43, 3) := by decide +kernel
theorem dX8_pass_38 : decode cX8_pass 38 = .ok (.iconst 0, 1) := by decide +kernel
theorem dX8_pass_39 : decode cX8_pass 39 = .ok (.istore_n 2, 1) := by decide +kernel
theorem dX8_pass_40 : decode cX8_pass 40 = .ok (.iload_n 2, 1) := by decide +kernel
theorem dX8_pass_41 : decode cX8_pass 41 = .ok (.aload_n 0, 1) := by decide +kernel
theorem dX8_pass_42 : decode cX8_pass 42 = .ok (.getfield 19, 3) := by decide +kernel
theorem dX8_pass_45 : decode cX8_pass 45 = .ok (.getfield 46, 3) := by decide +kernel
theorem dX8_pass_48 : decode cX8_pass 48 = .ok (.if_icmp .ge 42, 3) := by decide +kernel
theorem dX8_pass_51 : decode cX8_pass 51 = .ok (.aload_n 0, 1) := by decide +kernel
theorem dX8_pass_52 : decode cX8_pass 52 = .ok (.getfield 19, 3) := by decide +kernel
theorem dX8_pass_55 : decode cX8_pass 55 = .ok (.getfield 51, 3) := by decide +kernel
theorem dX8_pass_58 : decode cX8_pass 58 = .ok (.iload_n 2, 1) := by decide +kernel
theorem dX8_pass_59 : decode cX8_pass 59 = .ok (.iaload, 1) := by decide +kernel
theorem dX8_pass_60 : decode cX8_pass 60 = .ok (.iload_n 1, 1) := by decide +kernel
theorem dX8_pass_61 : decode cX8_pass 61 = .ok (.if_icmp .ne 23, 3) := by decide +kernel
theorem dX8_pass_64 : decode cX8_pass 64 = .ok (.aload_n 0, 1) := by decide +kernel
theorem dX8_pass_65 : decode cX8_pass 65 = .ok (.getfield 19, 3) := by decide +kernel
theorem dX8_pass_68 : decode cX8_pass 68 = .ok (.iload_n 2, 1) := by decide +kernel
theorem dX8_pass_69 : decode cX8_pass 69 = .ok (.aload_n 0, 1) := by decide +kernel
theorem dX8_pass_70 : decode cX8_pass 70 = .ok (.getfield 15, 3) := by decide +kernel
theorem dX8_pass_73 : decode cX8_pass 73 = .ok (.invokevirtual 54, 3) := by decide +kernel
theorem dX8_pass_76 : decode cX8_pass 76 = .ok (.ifCond .eq 8, 3) := by decide +kernel
theorem dX8_pass_79 : decode cX8_pass 79 = .ok (.aload_n 0, 1) := by decide +kernel
theorem dX8_pass_80 : decode cX8_pass 80 = .ok (.iload_n 2, 1) := by decide +kernel
theorem dX8_pass_81 : decode cX8_pass 81 = .ok (.invokevirtual 58, 3) := by decide +kernel
theorem dX8_pass_84 : decode cX8_pass 84 = .ok (.iinc 2 1, 3) := by decide +kernel
theorem dX8_pass_87 : decode cX8_pass 87 = .ok (.goto (-47), 3) := by decide +kernel
theorem dX8_pass_90 : decode cX8_pass 90 = .ok (.iinc 1 1, 3) := by decide +kernel
theorem dX8_pass_93 : decode cX8_pass 93 = .ok (.goto (-72), 3) := by decide +kernel
theorem dX8_pass_96 : decode cX8_pass 96 = .ok (.return_, 1) := by decide +kernel
theorem dX8_goOut_0 : decode cX8_goOut 0 = .ok (.aload_n 0, 1) := by decide +kernel
theorem dX8_goOut_1 : decode cX8_goOut 1 = .ok (.iload_n 1, 1) := by decide +kernel
theorem dX8_goOut_2 : decode cX8_goOut 2 = .ok (.invokevirtual 62, 3) := by decide +kernel
theorem dX8_goOut_5 : decode cX8_goOut 5 = .ok (.istore_n 2, 1) := by decide +kernel
theorem dX8_goOut_6 : decode cX8_goOut 6 = .ok (.aload_n 0, 1) := by decide +kernel
theorem dX8_goOut_7 : decode cX8_goOut 7 = .ok (.getfield 19, 3) := by decide +kernel
theorem dX8_goOut_10 : decode cX8_goOut 10 = .ok (.iload_n 1, 1) := by decide +kernel
theorem dX8_goOut_11 : decode cX8_goOut 11 = .ok (.aload_n 0, 1) := by decide +kernel
theorem dX8_goOut_12 : decode cX8_goOut 12 = .ok (.getfield 15, 3) := by decide +kernel
theorem dX8_goOut_15 : decode cX8_goOut 15 = .ok (.invokevirtual 66, 3) := by decide +kernel
theorem dX8_goOut_18 : decode cX8_goOut 18 = .ok (.ifCond .eq 14, 3) := by decide +kernel
theorem dX8_goOut_21 : decode cX8_goOut 21 = .ok (.aload_n 0, 1) := by decide +kernel
theorem dX8_goOut_22 : decode cX8_goOut 22 = .ok (.getfield 9, 3) := by decide +kernel
theorem dX8_goOut_25 : decode cX8_goOut 25 = .ok (.iconst 4, 1) := by decide +kernel
theorem dX8_goOut_26 : decode cX8_goOut 26 = .ok (.dup2, 1) := by decide +kernel
theorem dX8_goOut_27 : decode cX8_goOut 27 = .ok (.iaload, 1) := by decide +kernel
theorem dX8_goOut_28 : decode cX8_goOut 28 = .ok (.iconst 1, 1) := by decide +kernel
theorem dX8_goOut_29 : decode cX8_goOut 29 = .ok (.iadd, 1) := by decide +kernel
theorem dX8_goOut_30 : decode cX8_goOut 30 = .ok (.iastore, 1) := by decide +kernel
theorem dX8_goOut_31 : decode cX8_goOut 31 = .ok (.return_, 1) := by decide +kernel
theorem dX8_goOut_32 : decode cX8_goOut 32 = .ok (.aload_n 0, 1) := by decide +kernel
theorem dX8_goOut_33 : decode cX8_goOut 33 = .ok (.getfield 19, 3) := by decide +kernel
theorem dX8_goOut_36 : decode cX8_goOut 36 = .ok (.getfield 69, 3) := by decide +kernel
theorem dX8_goOut_39 : decode cX8_goOut 39 = .ok (.iload_n 1, 1) := by decide +kernel
theorem dX8_goOut_40 : decode cX8_goOut 40 = .ok (.iaload, 1) := by decide +kernel
theorem dX8_goOut_41 : decode cX8_goOut 41 = .ok (.istore_n 3, 1) := by decide +kernel
theorem dX8_goOut_42 : decode cX8_goOut 42 = .ok (.aload_n 0, 1) := by decide +kernel
theorem dX8_goOut_43 : decode cX8_goOut 43 = .ok (.getfield 19, 3) := by decide +kernel
theorem dX8_goOut_46 : decode cX8_goOut 46 = .ok (.getfield 51, 3) := by decide +kernel
theorem dX8_goOut_49 : decode cX8_goOut 49 = .ok (.iload_n 1, 1) := by decide +kernel
theorem dX8_goOut_50 : decode cX8_goOut 50 = .ok (.iaload, 1) := by decide +kernel
theorem dX8_goOut_51 : decode cX8_goOut 51 = .ok (.istore 4, 2) := by decide +kernel
theorem dX8_goOut_53 : decode cX8_goOut 53 = .ok (.aload_n 0, 1) := by decide +kernel
theorem dX8_goOut_54 : decode cX8_goOut 54 = .ok (.getfield 19, 3) := by decide +kernel
theorem dX8_goOut_57 : decode cX8_goOut 57 = .ok (.getfield 72, 3) := by decide +kernel
theorem dX8_goOut_60 : decode cX8_goOut 60 = .ok (.iload_n 1, 1) := by decide +kernel
theorem dX8_goOut_61 : decode cX8_goOut 61 = .ok (.iaload, 1) := by decide +kernel
theorem dX8_goOut_62 : decode cX8_goOut 62 = .ok (.istore 5, 2) := by decide +kernel
theorem dX8_goOut_64 : decode cX8_goOut 64 = .ok (.aload_n 0, 1) := by decide +kernel
theorem dX8_goOut_65 : decode cX8_goOut 65 = .ok (.sipush 25173, 3) := by decide +kernel
theorem dX8_goOut_68 : decode cX8_goOut 68 = .ok (.aload_n 0, 1) := by decide +kernel
theorem dX8_goOut_69 : decode cX8_goOut 69 = .ok (.getfield 39, 3) := by decide +kernel
theorem dX8_goOut_72 : decode cX8_goOut 72 = .ok (.imul, 1) := by decide +kernel
theorem dX8_goOut_73 : decode cX8_goOut 73 = .ok (.sipush 13849, 3) := by decide +kernel
theorem dX8_goOut_76 : decode cX8_goOut 76 = .ok (.iadd, 1) := by decide +kernel
theorem dX8_goOut_77 : decode cX8_goOut 77 = .ok (.ldc 75, 2) := by decide +kernel
theorem dX8_goOut_79 : decode cX8_goOut 79 = .ok (.irem, 1) := by decide +kernel
theorem dX8_goOut_80 : decode cX8_goOut 80 = .ok (.putfield 39, 3) := by decide +kernel
theorem dX8_goOut_83 : decode cX8_goOut 83 = .ok (.aload_n 0, 1) := by decide +kernel
theorem dX8_goOut_84 : decode cX8_goOut 84 = .ok (.getfield 39, 3) := by decide +kernel
theorem dX8_goOut_87 : decode cX8_goOut 87 = .ok (.bipush 10, 2) := by decide +kernel
theorem dX8_goOut_89 : decode cX8_goOut 89 = .ok (.irem, 1) := by decide +kernel
theorem dX8_goOut_90 : decode cX8_goOut 90 = .ok (.aload_n 0, 1) := by decide +kernel
theorem dX8_goOut_91 : decode cX8_goOut 91 = .ok (.getfield 23, 3) := by decide +kernel
theorem dX8_goOut_94 : decode cX8_goOut 94 = .ok (.iload_n 3, 1) := by decide +kernel
theorem dX8_goOut_95 : decode cX8_goOut 95 = .ok (.iload 4, 2) := by decide +kernel
theorem dX8_goOut_97 : decode cX8_goOut 97 = .ok (.iload 5, 2) := by decide +kernel
theorem dX8_goOut_99 : decode cX8_goOut 99 = .ok (.iload_n 2, 1) := by decide +kernel
theorem dX8_goOut_100 : decode cX8_goOut 100 = .ok (.invokevirtual 76, 3) := by decide +kernel
theorem dX8_goOut_103 : decode cX8_goOut 103 = .ok (.if_icmp .ge 14, 3) := by decide +kernel
theorem dX8_goOut_106 : decode cX8_goOut 106 = .ok (.aload_n 0, 1) := by decide +kernel
theorem dX8_goOut_107 : decode cX8_goOut 107 = .ok (.getfield 9, 3) := by decide +kernel
theorem dX8_goOut_110 : decode cX8_goOut 110 = .ok (.iconst 3, 1) := by decide +kernel
theorem dX8_goOut_111 : decode cX8_goOut 111 = .ok (.dup2, 1) := by decide +kernel
theorem dX8_goOut_112 : decode cX8_goOut 112 = .ok (.iaload, 1) := by decide +kernel
theorem dX8_goOut_113 : decode cX8_goOut 113 = .ok (.iconst 1, 1) := by decide +kernel
theorem dX8_goOut_114 : decode cX8_goOut 114 = .ok (.iadd, 1) := by decide +kernel
theorem dX8_goOut_115 : decode cX8_goOut 115 = .ok (.iastore, 1) := by decide +kernel
theorem dX8_goOut_116 : decode cX8_goOut 116 = .ok (.return_, 1) := by decide +kernel
theorem dX8_goOut_117 : decode cX8_goOut 117 = .ok (.iconst 0, 1) := by decide +kernel
theorem dX8_goOut_118 : decode cX8_goOut 118 = .ok (.istore 6, 2) := by decide +kernel
theorem dX8_goOut_120 : decode cX8_goOut 120 = .ok (.iload 6, 2) := by decide +kernel
theorem dX8_goOut_122 : decode cX8_goOut 122 = .ok (.bipush 10, 2) := by decide +kernel
theorem dX8_goOut_124 : decode cX8_goOut 124 = .ok (.if_icmp .ge 114, 3) := by decide +kernel
theorem dX8_goOut_127 : decode cX8_goOut 127 = .ok (.aload_n 0, 1) := by decide +kernel
theorem dX8_goOut_128 : decode cX8_goOut 128 = .ok (.getfield 15, 3) := by decide +kernel
theorem dX8_goOut_131 : decode cX8_goOut 131 = .ok (.iload 6, 2) := by decide +kernel
theorem dX8_goOut_133 : decode cX8_goOut 133 = .ok (.invokevirtual 82, 3) := by decide +kernel
theorem dX8_goOut_136 : decode cX8_goOut 136 = .ok (.ifCond .eq 21, 3) := by decide +kernel
theorem dX8_goOut_139 : decode cX8_goOut 139 = .ok (.aload_n 0, 1) := by decide +kernel
theorem dX8_goOut_140 : decode cX8_goOut 140 = .ok (.getfield 23, 3) := by decide +kernel
theorem dX8_goOut_143 : decode cX8_goOut 143 = .ok (.iload_n 3, 1) := by decide +kernel
theorem dX8_goOut_144 : decode cX8_goOut 144 = .ok (.iload 6, 2) := by decide +kernel
theorem dX8_goOut_146 : decode cX8_goOut 146 = .ok (.iload 4, 2) := by decide +kernel
theorem dX8_goOut_148 : decode cX8_goOut 148 = .ok (.iload 5, 2) := by decide +kernel
theorem dX8_goOut_150 : decode cX8_goOut 150 = .ok (.iload_n 2, 1) := by decide +kernel
theorem dX8_goOut_151 : decode cX8_goOut 151 = .ok (.invokevirtual 86, 3) := by decide +kernel
theorem dX8_goOut_154 : decode cX8_goOut 154 = .ok (.goto 5, 3) := by decide +kernel
theorem dX8_goOut_157 : decode cX8_goOut 157 = .ok (.bipush (-2), 2) := by decide +kernel
theorem dX8_goOut_159 : decode cX8_goOut 159 = .ok (.istore 7, 2) := by decide +kernel
theorem dX8_goOut_161 : decode cX8_goOut 161 = .ok (.iload 7, 2) := by decide +kernel
theorem dX8_goOut_163 : decode cX8_goOut 163 = .ok (.bipush (-2), 2) := by decide +kernel
theorem dX8_goOut_165 : decode cX8_goOut 165 = .ok (.if_icmp .eq 67, 3) := by decide +kernel
theorem dX8_goOut_168 : decode cX8_goOut 168 = .ok (.aload_n 0, 1) := by decide +kernel
theorem dX8_goOut_169 : decode cX8_goOut 169 = .ok (.getfield 9, 3) := by decide +kernel
theorem dX8_goOut_172 : decode cX8_goOut 172 = .ok (.iconst 0, 1) := by decide +kernel
theorem dX8_goOut_173 : decode cX8_goOut 173 = .ok (.dup2, 1) := by decide +kernel
theorem dX8_goOut_174 : decode cX8_goOut 174 = .ok (.iaload, 1) := by decide +kernel
theorem dX8_goOut_175 : decode cX8_goOut 175 = .ok (.iload 7, 2) := by decide +kernel
theorem dX8_goOut_177 : decode cX8_goOut 177 = .ok (.iadd, 1) := by decide +kernel
theorem dX8_goOut_178 : decode cX8_goOut 178 = .ok (.iastore, 1) := by decide +kernel
theorem dX8_goOut_179 : decode cX8_goOut 179 = .ok (.aload_n 0, 1) := by decide +kernel
theorem dX8_goOut_180 : decode cX8_goOut 180 = .ok (.getfield 9, 3) := by decide +kernel
theorem dX8_goOut_183 : decode cX8_goOut 183 = .ok (.bipush 10, 2) := by decide +kernel
theorem dX8_goOut_185 : decode cX8_goOut 185 = .ok (.iload 6, 2) := by decide +kernel
theorem dX8_goOut_187 : decode cX8_goOut 187 = .ok (.iadd, 1) := by decide +kernel
theorem dX8_goOut_188 : decode cX8_goOut 188 = .ok (.dup2, 1) := by decide +kernel
theorem dX8_goOut_189 : decode cX8_goOut 189 = .ok (.iaload, 1) := by decide +kernel
theorem dX8_goOut_190 : decode cX8_goOut 190 = .ok (.iload 7, 2) := by decide +kernel
theorem dX8_goOut_192 : decode cX8_goOut 192 = .ok (.iadd, 1) := by decide +kernel
theorem dX8_goOut_193 : decode cX8_goOut 193 = .ok (.iastore, 1) := by decide +kernel
theorem dX8_goOut_194 : decode cX8_goOut 194 = .ok (.aload_n 0, 1) := by decide +kernel
theorem dX8_goOut_195 : decode cX8_goOut 195 = .ok (.getfield 9, 3) := by decide +kernel
theorem dX8_goOut_198 : decode cX8_goOut 198 = .ok (.bipush 40, 2) := by decide +kernel
theorem dX8_goOut_200 : decode cX8_goOut 200 = .ok (.iload 4, 2) := by decide +kernel
theorem dX8_goOut_202 : decode cX8_goOut 202 = .ok (.iadd, 1) := by decide +kernel
theorem dX8_goOut_203 : decode cX8_goOut 203 = .ok (.dup2, 1) := by decide +kernel
theorem dX8_goOut_204 : decode cX8_goOut 204 = .ok (.iaload, 1) := by decide +kernel
theorem dX8_goOut_205 : decode cX8_goOut 205 = .ok (.iload 7, 2) := by decide +kernel
theorem dX8_goOut_207 : decode cX8_goOut 207 = .ok (.iadd, 1) := by decide +kernel
theorem dX8_goOut_208 : decode cX8_goOut 208 = .ok (.iastore, 1) := by decide +kernel
theorem dX8_goOut_209 : decode cX8_goOut 209 = .ok (.aload_n 0, 1) := by decide +kernel
theorem dX8_goOut_210 : decode cX8_goOut 210 = .ok (.getfield 9, 3) := by decide +kernel
theorem dX8_goOut_213 : decode cX8_goOut 213 = .ok (.iconst 2, 1) := by decide +kernel
theorem dX8_goOut_214 : decode cX8_goOut 214 = .ok (.dup2, 1) := by decide +kernel
theorem dX8_goOut_215 : decode cX8_goOut 215 = .ok (.iaload, 1) := by decide +kernel
theorem dX8_goOut_216 : decode cX8_goOut 216 = .ok (.iconst 1, 1) := by decide +kernel
theorem dX8_goOut_217 : decode cX8_goOut 217 = .ok (.iadd, 1) := by decide +kernel
theorem dX8_goOut_218 : decode cX8_goOut 218 = .ok (.iastore, 1) := by decide +kernel
theorem dX8_goOut_219 : decode cX8_goOut 219 = .ok (.aload_n 0, 1) := by decide +kernel
theorem dX8_goOut_220 : decode cX8_goOut 220 = .ok (.getfield 9, 3) := by decide +kernel
theorem dX8_goOut_223 : decode cX8_goOut 223 = .ok (.bipush 20, 2) := by decide +kernel
theorem dX8_goOut_225 : decode cX8_goOut 225 = .ok (.iload_n 3, 1) := by decide +kernel
theorem dX8_goOut_226 : decode cX8_goOut 226 = .ok (.iadd, 1) := by decide +kernel
theorem dX8_goOut_227 : decode cX8_goOut 227 = .ok (.dup2, 1) := by decide +kernel
theorem dX8_goOut_228 : decode cX8_goOut 228 = .ok (.iaload, 1) := by decide +kernel
theorem dX8_goOut_229 : decode cX8_goOut 229 = .ok (.iconst 1, 1) := by decide +kernel
theorem dX8_goOut_230 : decode cX8_goOut 230 = .ok (.iadd, 1) := by decide +kernel
theorem dX8_goOut_231 : decode cX8_goOut 231 = .ok (.iastore, 1) := by decide +kernel
theorem dX8_goOut_232 : decode cX8_goOut 232 = .ok (.iinc 6 1, 3) := by decide +kernel
theorem dX8_goOut_235 : decode cX8_goOut 235 = .ok (.goto (-115), 3) := by decide +kernel
theorem dX8_goOut_238 : decode cX8_goOut 238 = .ok (.aload_n 0, 1) := by decide +kernel
theorem dX8_goOut_239 : decode cX8_goOut 239 = .ok (.getfield 23, 3) := by decide +kernel
theorem dX8_goOut_242 : decode cX8_goOut 242 = .ok (.iload_n 3, 1) := by decide +kernel
theorem dX8_goOut_243 : decode cX8_goOut 243 = .ok (.iload 4, 2) := by decide +kernel
theorem dX8_goOut_245 : decode cX8_goOut 245 = .ok (.iload 5, 2) := by decide +kernel
theorem dX8_goOut_247 : decode cX8_goOut 247 = .ok (.iload_n 2, 1) := by decide +kernel
theorem dX8_goOut_248 : decode cX8_goOut 248 = .ok (.invokevirtual 90, 3) := by decide +kernel
theorem dX8_goOut_251 : decode cX8_goOut 251 = .ok (.iload 4, 2) := by decide +kernel
theorem dX8_goOut_253 : decode cX8_goOut 253 = .ok (.aload_n 0, 1) := by decide +kernel
theorem dX8_goOut_254 : decode cX8_goOut 254 = .ok (.getfield 15, 3) := by decide +kernel
theorem dX8_goOut_257 : decode cX8_goOut 257 = .ok (.getfield 93, 3) := by decide +kernel
theorem dX8_goOut_260 : decode cX8_goOut 260 = .ok (.if_icmp .ne 7, 3) := by decide +kernel
theorem dX8_goOut_263 : decode cX8_goOut 263 = .ok (.iconst 2, 1) := by decide +kernel
theorem dX8_goOut_264 : decode cX8_goOut 264 = .ok (.goto 4, 3) := by decide +kernel
theorem dX8_goOut_267 : decode cX8_goOut 267 = .ok (.iconst 1, 1) := by decide +kernel
theorem dX8_goOut_268 : decode cX8_goOut 268 = .ok (.imul, 1) := by decide +kernel
theorem dX8_goOut_269 : decode cX8_goOut 269 = .ok (.istore 6, 2) := by decide +kernel
theorem dX8_goOut_271 : decode cX8_goOut 271 = .ok (.aload_n 0, 1) := by decide +kernel
theorem dX8_goOut_272 : decode cX8_goOut 272 = .ok (.getfield 9, 3) := by decide +kernel
theorem dX8_goOut_275 : decode cX8_goOut 275 = .ok (.iconst 1, 1) := by decide +kernel
theorem dX8_goOut_276 : decode cX8_goOut 276 = .ok (.dup2, 1) := by decide +kernel
theorem dX8_goOut_277 : decode cX8_goOut 277 = .ok (.iaload, 1) := by decide +kernel
theorem dX8_goOut_278 : decode cX8_goOut 278 = .ok (.iload 6, 2) := by decide +kernel
theorem dX8_goOut_280 : decode cX8_goOut 280 = .ok (.iadd, 1) := by decide +kernel
theorem dX8_goOut_281 : decode cX8_goOut 281 = .ok (.iastore, 1) := by decide +kernel
theorem dX8_goOut_282 : decode cX8_goOut 282 = .ok (.aload_n 0, 1) := by decide +kernel
theorem dX8_goOut_283 : decode cX8_goOut 283 = .ok (.getfield 9, 3) := by decide +kernel
theorem dX8_goOut_286 : decode cX8_goOut 286 = .ok (.bipush 30, 2) := by decide +kernel
theorem dX8_goOut_288 : decode cX8_goOut 288 = .ok (.iload_n 3, 1) := by decide +kernel
theorem dX8_goOut_289 : decode cX8_goOut 289 = .ok (.iadd, 1) := by decide +kernel
theorem dX8_goOut_290 : decode cX8_goOut 290 = .ok (.dup2, 1) := by decide +kernel
theorem dX8_goOut_291 : decode cX8_goOut 291 = .ok (.iaload, 1) := by decide +kernel
theorem dX8_goOut_292 : decode cX8_goOut 292 = .ok (.iload 6, 2) := by decide +kernel
theorem dX8_goOut_294 : decode cX8_goOut 294 = .ok (.iadd, 1) := by decide +kernel
theorem dX8_goOut_295 : decode cX8_goOut 295 = .ok (.iastore, 1) := by decide +kernel
theorem dX8_goOut_296 : decode cX8_goOut 296 = .ok (.return_, 1) := by decide +kernel
theorem dX8_chainFor_0 : decode cX8_chainFor 0 = .ok (.aload_n 0, 1) := by decide +kernel
theorem dX8_chainFor_1 : decode cX8_chainFor 1 = .ok (.getfield 19, 3) := by decide +kernel
theorem dX8_chainFor_4 : decode cX8_chainFor 4 = .ok (.getfield 96, 3) := by decide +kernel
theorem dX8_chainFor_7 : decode cX8_chainFor 7 = .ok (.iload_n 1, 1) := by decide +kernel
theorem dX8_chainFor_8 : decode cX8_chainFor 8 = .ok (.iaload, 1) := by decide +kernel
theorem dX8_chainFor_9 : decode cX8_chainFor 9 = .ok (.ifCond .eq 10, 3) := by decide +kernel
theorem dX8_chainFor_12 : decode cX8_chainFor 12 = .ok (.aload_n 0, 1) := by decide +kernel
theorem dX8_chainFor_13 : decode cX8_chainFor 13 = .ok (.getfield 43, 3) := by decide +kernel
theorem dX8_chainFor_16 : decode cX8_chainFor 16 = .ok (.ifCond .ne 5, 3) := by decide +kernel
theorem dX8_chainFor_19 : decode cX8_chainFor 19 = .ok (.iconst 0, 1) := by decide +kernel
theorem dX8_chainFor_20 : decode cX8_chainFor 20 = .ok (.ireturn, 1) := by decide +kernel
theorem dX8_chainFor_21 : decode cX8_chainFor 21 = .ok (.aload_n 0, 1) := by decide +kernel
theorem dX8_chainFor_22 : decode cX8_chainFor 22 = .ok (.dup, 1) := by decide +kernel
theorem dX8_chainFor_23 : decode cX8_chainFor 23 = .ok (.getfield 43, 3) := by decide +kernel
theorem dX8_chainFor_26 : decode cX8_chainFor 26 = .ok (.iconst 1, 1) := by decide +kernel
theorem dX8_chainFor_27 : decode cX8_chainFor 27 = .ok (.isub, 1) := by decide +kernel
theorem dX8_chainFor_28 : decode cX8_chainFor 28 = .ok (.putfield 43, 3) := by decide +kernel
theorem dX8_chainFor_31 : decode cX8_chainFor 31 = .ok (.iconst 1, 1) := by decide +kernel
theorem dX8_chainFor_32 : decode cX8_chainFor 32 = .ok (.ireturn, 1) := by decide +kernel
theorem dX8_oddsOf_0 : decode cX8_oddsOf 0 = .ok (.iconst 0, 1) := by decide +kernel
theorem dX8_oddsOf_1 : decode cX8_oddsOf 1 = .ok (.istore 4, 2) := by decide +kernel
theorem dX8_oddsOf_3 : decode cX8_oddsOf 3 = .ok (.iconst 1, 1) := by decide +kernel
theorem dX8_oddsOf_4 : decode cX8_oddsOf 4 = .ok (.istore 5, 2) := by decide +kernel
theorem dX8_oddsOf_6 : decode cX8_oddsOf 6 = .ok (.iconst 1, 1) := by decide +kernel
theorem dX8_oddsOf_7 : decode cX8_oddsOf 7 = .ok (.istore 6, 2) := by decide +kernel
theorem dX8_oddsOf_9 : decode cX8_oddsOf 9 = .ok (.aload_n 0, 1) := by decide +kernel
theorem dX8_oddsOf_10 : decode cX8_oddsOf 10 = .ok (.aload_n 0, 1) := by decide +kernel
theorem dX8_oddsOf_11 : decode cX8_oddsOf 11 = .ok (.getfield 15, 3) := by decide +kernel
theorem dX8_oddsOf_14 : decode cX8_oddsOf 14 = .ok (.getfield 40, 3) := by decide +kernel
theorem dX8_oddsOf_17 : decode cX8_oddsOf 17 = .ok (.putfield 43, 3) := by decide +kernel
theorem dX8_oddsOf_20 : decode cX8_oddsOf 20 = .ok (.iconst 0, 1) := by decide +kernel
theorem dX8_oddsOf_21 : decode cX8_oddsOf 21 = .ok (.istore 7, 2) := by decide +kernel
theorem dX8_oddsOf_23 : decode cX8_oddsOf 23 = .ok (.iload 7, 2) := by decide +kernel
theorem dX8_oddsOf_25 : decode cX8_oddsOf 25 = .ok (.aload_n 0, 1) := by decide +kernel
theorem dX8_oddsOf_26 : decode cX8_oddsOf 26 = .ok (.getfield 19, 3) := by decide +kernel
theorem dX8_oddsOf_29 : decode cX8_oddsOf 29 = .ok (.getfield 46, 3) := by decide +kernel
theorem dX8_oddsOf_32 : decode cX8_oddsOf 32 = .ok (.if_icmp .ge 176, 3) := by decide +kernel
theorem dX8_oddsOf_35 : decode cX8_oddsOf 35 = .ok (.aload_n 0, 1) := by decide +kernel
theorem dX8_oddsOf_36 : decode cX8_oddsOf 36 = .ok (.getfield 19, 3) := by decide +kernel
theorem dX8_oddsOf_39 : decode cX8_oddsOf 39 = .ok (.getfield 51, 3) := by decide +kernel
theorem dX8_oddsOf_42 : decode cX8_oddsOf 42 = .ok (.iload 7, 2) := by decide +kernel
theorem dX8_oddsOf_44 : decode cX8_oddsOf 44 = .ok (.iaload, 1) := by decide +kernel
theorem dX8_oddsOf_45 : decode cX8_oddsOf 45 = .ok (.iload_n 1, 1) := by decide +kernel
theorem dX8_oddsOf_46 : decode cX8_oddsOf 46 = .ok (.if_icmp .ne 156, 3) := by decide +kernel
theorem dX8_oddsOf_49 : decode cX8_oddsOf 49 = .ok (.aload_n 0, 1) := by decide +kernel
theorem dX8_oddsOf_50 : decode cX8_oddsOf 50 = .ok (.getfield 19, 3) := by decide +kernel
theorem dX8_oddsOf_53 : decode cX8_oddsOf 53 = .ok (.iload 7, 2) := by decide +kernel
theorem dX8_oddsOf_55 : decode cX8_oddsOf 55 = .ok (.aload_n 0, 1) := by decide +kernel
theorem dX8_oddsOf_56 : decode cX8_oddsOf 56 = .ok (.getfield 15, 3) := by decide +kernel
theorem dX8_oddsOf_59 : decode cX8_oddsOf 59 = .ok (.invokevirtual 54, 3) := by decide +kernel
theorem dX8_oddsOf_62 : decode cX8_oddsOf 62 = .ok (.ifCond .ne 6, 3) := by decide +kernel
theorem dX8_oddsOf_65 : decode cX8_oddsOf 65 = .ok (.goto 137, 3) := by decide +kernel
theorem dX8_oddsOf_68 : decode cX8_oddsOf 68 = .ok (.aload_n 0, 1) := by decide +kernel
theorem dX8_oddsOf_69 : decode cX8_oddsOf 69 = .ok (.iload 7, 2) := by decide +kernel
theorem dX8_oddsOf_71 : decode cX8_oddsOf 71 = .ok (.invokevirtual 62, 3) := by decide +kernel
theorem dX8_oddsOf_74 : decode cX8_oddsOf 74 = .ok (.istore 8, 2) := by decide +kernel
theorem dX8_oddsOf_76 : decode cX8_oddsOf 76 = .ok (.aload_n 0, 1) := by decide +kernel
theorem dX8_oddsOf_77 : decode cX8_oddsOf 77 = .ok (.getfield 19, 3) := by decide +kernel
theorem dX8_oddsOf_80 : decode cX8_oddsOf 80 = .ok (.iload 7, 2) := by decide +kernel
theorem dX8_oddsOf_82 : decode cX8_oddsOf 82 = .ok (.aload_n 0, 1) := by decide +kernel
theorem dX8_oddsOf_83 : decode cX8_oddsOf 83 = .ok (.getfield 15, 3) := by decide +kernel
theorem dX8_oddsOf_86 : decode cX8_oddsOf 86 = .ok (.invokevirtual 66, 3) := by decide +kernel
theorem dX8_oddsOf_89 : decode cX8_oddsOf 89 = .ok (.ifCond .eq 6, 3) := by decide +kernel
theorem dX8_oddsOf_92 : decode cX8_oddsOf 92 = .ok (.goto 110, 3) := by decide +kernel
theorem dX8_oddsOf_95 : decode cX8_oddsOf 95 = .ok (.iinc 4 1, 3) := by decide +kernel
theorem dX8_oddsOf_98 : decode cX8_oddsOf 98 = .ok (.iload 4, 2) := by decide +kernel
theorem dX8_oddsOf_100 : decode cX8_oddsOf 100 = .ok (.iconst 4, 1) := by decide +kernel
theorem dX8_oddsOf_101 : decode cX8_oddsOf 101 = .ok (.if_icmp .le 6, 3) := by decide +kernel
theorem dX8_oddsOf_104 : decode cX8_oddsOf 104 = .ok (.bipush (-2), 2) := by decide +kernel
theorem dX8_oddsOf_106 : decode cX8_oddsOf 106 = .ok (.ireturn, 1) := by decide +kernel
theorem dX8_oddsOf_107 : decode cX8_oddsOf 107 = .ok (.aload_n 0, 1) := by decide +kernel
theorem dX8_oddsOf_108 : decode cX8_oddsOf 108 = .ok (.getfield 23, 3) := by decide +kernel
theorem dX8_oddsOf_111 : decode cX8_oddsOf 111 = .ok (.aload_n 0, 1) := by decide +kernel
theorem dX8_oddsOf_112 : decode cX8_oddsOf 112 = .ok (.getfield 19, 3) := by decide +kernel
theorem dX8_oddsOf_115 : decode cX8_oddsOf 115 = .ok (.getfield 69, 3) := by decide +kernel
theorem dX8_oddsOf_118 : decode cX8_oddsOf 118 = .ok (.iload 7, 2) := by decide +kernel
theorem dX8_oddsOf_120 : decode cX8_oddsOf 120 = .ok (.iaload, 1) := by decide +kernel
theorem dX8_oddsOf_121 : decode cX8_oddsOf 121 = .ok (.iload_n 2, 1) := by decide +kernel
theorem dX8_oddsOf_122 : decode cX8_oddsOf 122 = .ok (.iload_n 1, 1) := by decide +kernel
theorem dX8_oddsOf_123 : decode cX8_oddsOf 123 = .ok (.aload_n 0, 1) := by decide +kernel
theorem dX8_oddsOf_124 : decode cX8_oddsOf 124 = .ok (.getfield 19, 3) := by decide +kernel
theorem dX8_oddsOf_127 : decode cX8_oddsOf 127 = .ok (.getfield 72, 3) := by decide +kernel
theorem dX8_oddsOf_130 : decode cX8_oddsOf 130 = .ok (.iload 7, 2) := by decide +kernel
theorem dX8_oddsOf_132 : decode cX8_oddsOf 132 = .ok (.iaload, 1) := by decide +kernel
theorem dX8_oddsOf_133 : decode cX8_oddsOf 133 = .ok (.iload 8, 2) := by decide +kernel
theorem dX8_oddsOf_135 : decode cX8_oddsOf 135 = .ok (.invokevirtual 86, 3) := by decide +kernel
theorem dX8_oddsOf_138 : decode cX8_oddsOf 138 = .ok (.bipush (-2), 2) := by decide +kernel
theorem dX8_oddsOf_140 : decode cX8_oddsOf 140 = .ok (.if_icmp .eq 7, 3) := by decide +kernel
theorem dX8_oddsOf_143 : decode cX8_oddsOf 143 = .ok (.iconst 1, 1) := by decide +kernel
theorem dX8_oddsOf_144 : decode cX8_oddsOf 144 = .ok (.goto 4, 3) := by decide +kernel
theorem dX8_oddsOf_147 : decode cX8_oddsOf 147 = .ok (.iconst 0, 1) := by decide +kernel
theorem dX8_oddsOf_148 : decode cX8_oddsOf 148 = .ok (.istore 9, 2) := by decide +kernel
theorem dX8_oddsOf_150 : decode cX8_oddsOf 150 = .ok (.iload 6, 2) := by decide +kernel
theorem dX8_oddsOf_152 : decode cX8_oddsOf 152 = .ok (.bipush 10, 2) := by decide +kernel
theorem dX8_oddsOf_154 : decode cX8_oddsOf 154 = .ok (.imul, 1) := by decide +kernel
theorem dX8_oddsOf_155 : decode cX8_oddsOf 155 = .ok (.istore 6, 2) := by decide +kernel
theorem dX8_oddsOf_157 : decode cX8_oddsOf 157 = .ok (.iload 5, 2) := by decide +kernel
theorem dX8_oddsOf_159 : decode cX8_oddsOf 159 = .ok (.iload 9, 2) := by decide +kernel
theorem dX8_oddsOf_161 : decode cX8_oddsOf 161 = .ok (.ifCond .eq 36, 3) := by decide +kernel
theorem dX8_oddsOf_164 : decode cX8_oddsOf 164 = .ok (.aload_n 0, 1) := by decide +kernel
theorem dX8_oddsOf_165 : decode cX8_oddsOf 165 = .ok (.getfield 23, 3) := by decide +kernel
theorem dX8_oddsOf_168 : decode cX8_oddsOf 168 = .ok (.aload_n 0, 1) := by decide +kernel
theorem dX8_oddsOf_169 : decode cX8_oddsOf 169 = .ok (.getfield 19, 3) := by decide +kernel
theorem dX8_oddsOf_172 : decode cX8_oddsOf 172 = .ok (.getfield 69, 3) := by decide +kernel
theorem dX8_oddsOf_175 : decode cX8_oddsOf 175 = .ok (.iload 7, 2) := by decide +kernel
theorem dX8_oddsOf_177 : decode cX8_oddsOf 177 = .ok (.iaload, 1) := by decide +kernel
theorem dX8_oddsOf_178 : decode cX8_oddsOf 178 = .ok (.iload_n 1, 1) := by decide +kernel
theorem dX8_oddsOf_179 : decode cX8_oddsOf 179 = .ok (.aload_n 0, 1) := by decide +kernel
theorem dX8_oddsOf_180 : decode cX8_oddsOf 180 = .ok (.getfield 19, 3) := by decide +kernel
theorem dX8_oddsOf_183 : decode cX8_oddsOf 183 = .ok (.getfield 72, 3) := by decide +kernel
theorem dX8_oddsOf_186 : decode cX8_oddsOf 186 = .ok (.iload 7, 2) := by decide +kernel
theorem dX8_oddsOf_188 : decode cX8_oddsOf 188 = .ok (.iaload, 1) := by decide +kernel
theorem dX8_oddsOf_189 : decode cX8_oddsOf 189 = .ok (.iload 8, 2) := by decide +kernel
theorem dX8_oddsOf_191 : decode cX8_oddsOf 191 = .ok (.invokevirtual 76, 3) := by decide +kernel
theorem dX8_oddsOf_194 : decode cX8_oddsOf 194 = .ok (.goto 5, 3) := by decide +kernel
theorem dX8_oddsOf_197 : decode cX8_oddsOf 197 = .ok (.bipush 10, 2) := by decide +kernel
theorem dX8_oddsOf_199 : decode cX8_oddsOf 199 = .ok (.imul, 1) := by decide +kernel
theorem dX8_oddsOf_200 : decode cX8_oddsOf 200 = .ok (.istore 5, 2) := by decide +kernel
theorem dX8_oddsOf_202 : decode cX8_oddsOf 202 = .ok (.iinc 7 1, 3) := by decide +kernel
theorem dX8_oddsOf_205 : decode cX8_oddsOf 205 = .ok (.goto (-182), 3) := by decide +kernel
theorem dX8_oddsOf_208 : decode cX8_oddsOf 208 = .ok (.iload 6, 2) := by decide +kernel
theorem dX8_oddsOf_210 : decode cX8_oddsOf 210 = .ok (.iload 5, 2) := by decide +kernel
theorem dX8_oddsOf_212 : decode cX8_oddsOf 212 = .ok (.isub, 1) := by decide +kernel
theorem dX8_oddsOf_213 : decode cX8_oddsOf 213 = .ok (.iload 6, 2) := by decide +kernel
theorem dX8_oddsOf_215 : decode cX8_oddsOf 215 = .ok (.iload_n 3, 1) := by decide +kernel
theorem dX8_oddsOf_216 : decode cX8_oddsOf 216 = .ok (.invokestatic 99, 3) := by decide +kernel
theorem dX8_oddsOf_219 : decode cX8_oddsOf 219 = .ok (.ireturn, 1) := by decide +kernel
theorem dX8_reduced_0 : decode cX8_reduced 0 = .ok (.iload_n 1, 1) := by decide +kernel
theorem dX8_reduced_1 : decode cX8_reduced 1 = .ok (.istore_n 3, 1) := by decide +kernel
theorem dX8_reduced_2 : decode cX8_reduced 2 = .ok (.iload_n 0, 1) := by decide +kernel
theorem dX8_reduced_3 : decode cX8_reduced 3 = .ok (.istore 4, 2) := by decide +kernel
theorem dX8_reduced_5 : decode cX8_reduced 5 = .ok (.iconst 0, 1) := by decide +kernel
theorem dX8_reduced_6 : decode cX8_reduced 6 = .ok (.istore 5, 2) := by decide +kernel
theorem dX8_reduced_8 : decode cX8_reduced 8 = .ok (.iload 5, 2) := by decide +kernel
theorem dX8_reduced_10 : decode cX8_reduced 10 = .ok (.bipush 64, 2) := by decide +kernel
theorem dX8_reduced_12 : decode cX8_reduced 12 = .ok (.if_icmp .ge 27, 3) := by decide +kernel
theorem dX8_reduced_15 : decode cX8_reduced 15 = .ok (.iload 4, 2) := by decide +kernel
theorem dX8_reduced_17 : decode cX8_reduced 17 = .ok (.ifCond .le 22, 3) := by decide +kernel
theorem dX8_reduced_20 : decode cX8_reduced 20 = .ok (.iload_n 3, 1) := by decide +kernel
theorem dX8_reduced_21 : decode cX8_reduced 21 = .ok (.iload 4, 2) := by decide +kernel
theorem dX8_reduced_23 : decode cX8_reduced 23 = .ok (.irem, 1) := by decide +kernel
theorem dX8_reduced_24 : decode cX8_reduced 24 = .ok (.istore 6, 2) := by decide +kernel
theorem dX8_reduced_26 : decode cX8_reduced 26 = .ok (.iload 4, 2) := by decide +kernel
theorem dX8_reduced_28 : decode cX8_reduced 28 = .ok (.istore_n 3, 1) := by decide +kernel
theorem dX8_reduced_29 : decode cX8_reduced 29 = .ok (.iload 6, 2) := by decide +kernel
theorem dX8_reduced_31 : decode cX8_reduced 31 = .ok (.istore 4, 2) := by decide +kernel
theorem dX8_reduced_33 : decode cX8_reduced 33 = .ok (.iinc 5 1, 3) := by decide +kernel
theorem dX8_reduced_36 : decode cX8_reduced 36 = .ok (.goto (-28), 3) := by decide +kernel
theorem dX8_reduced_39 : decode cX8_reduced 39 = .ok (.iload_n 3, 1) := by decide +kernel
theorem dX8_reduced_40 : decode cX8_reduced 40 = .ok (.ifCond .gt 5, 3) := by decide +kernel
theorem dX8_reduced_43 : decode cX8_reduced 43 = .ok (.iconst (-1), 1) := by decide +kernel
theorem dX8_reduced_44 : decode cX8_reduced 44 = .ok (.ireturn, 1) := by decide +kernel
theorem dX8_reduced_45 : decode cX8_reduced 45 = .ok (.iload_n 2, 1) := by decide +kernel
theorem dX8_reduced_46 : decode cX8_reduced 46 = .ok (.ifCond .ne 7, 3) := by decide +kernel
theorem dX8_reduced_49 : decode cX8_reduced 49 = .ok (.iload_n 0, 1) := by decide +kernel
theorem dX8_reduced_50 : decode cX8_reduced 50 = .ok (.goto 4, 3) := by decide +kernel
theorem dX8_reduced_53 : decode cX8_reduced 53 = .ok (.iload_n 1, 1) := by decide +kernel
theorem dX8_reduced_54 : decode cX8_reduced 54 = .ok (.iload_n 3, 1) := by decide +kernel
theorem dX8_reduced_55 : decode cX8_reduced 55 = .ok (.idiv, 1) := by decide +kernel
theorem dX8_reduced_56 : decode cX8_reduced 56 = .ok (.ireturn, 1) := by decide +kernel
theorem dX9_init_0 : decode cX9_init 0 = .ok (.aload_n 0, 1) := by decide +kernel
theorem dX9_init_1 : decode cX9_init 1 = .ok (.invokespecial 3, 3) := by decide +kernel
theorem dX9_init_4 : decode cX9_init 4 = .ok (.aload_n 0, 1) := by decide +kernel
theorem dX9_init_5 : decode cX9_init 5 = .ok (.new 9, 3) := by decide +kernel
theorem dX9_init_8 : decode cX9_init 8 = .ok (.dup, 1) := by decide +kernel
theorem dX9_init_9 : decode cX9_init 9 = .ok (.invokespecial 11, 3) := by decide +kernel
theorem dX9_init_12 : decode cX9_init 12 = .ok (.putfield 12, 3) := by decide +kernel
theorem dX9_init_15 : decode cX9_init 15 = .ok (.aload_n 0, 1) := by decide +kernel
theorem dX9_init_16 : decode cX9_init 16 = .ok (.new 9, 3) := by decide +kernel
theorem dX9_init_19 : decode cX9_init 19 = .ok (.dup, 1) := by decide +kernel
theorem dX9_init_20 : decode cX9_init 20 = .ok (.invokespecial 11, 3) := by decide +kernel
theorem dX9_init_23 : decode cX9_init 23 = .ok (.putfield 16, 3) := by decide +kernel
theorem dX9_init_26 : decode cX9_init 26 = .ok (.aload_n 0, 1) := by decide +kernel
theorem dX9_init_27 : decode cX9_init 27 = .ok (.new 19, 3) := by decide +kernel
theorem dX9_init_30 : decode cX9_init 30 = .ok (.dup, 1) := by decide +kernel
theorem dX9_init_31 : decode cX9_init 31 = .ok (.invokespecial 21, 3) := by decide +kernel
theorem dX9_init_34 : decode cX9_init 34 = .ok (.putfield 22, 3) := by decide +kernel
theorem dX9_init_37 : decode cX9_init 37 = .ok (.aload_n 0, 1) := by decide +kernel
theorem dX9_init_38 : decode cX9_init 38 = .ok (.new 26, 3) := by decide +kernel
theorem dX9_init_41 : decode cX9_init 41 = .ok (.dup, 1) := by decide +kernel
theorem dX9_init_42 : decode cX9_init 42 = .ok (.invokespecial 28, 3) := by decide +kernel
theorem dX9_init_45 : decode cX9_init 45 = .ok (.putfield 29, 3) := by decide +kernel
theorem dX9_init_48 : decode cX9_init 48 = .ok (.aload_n 0, 1) := by decide +kernel
theorem dX9_init_49 : decode cX9_init 49 = .ok (.new 26, 3) := by decide +kernel
theorem dX9_init_52 : decode cX9_init 52 = .ok (.dup, 1) := by decide +kernel
theorem dX9_init_53 : decode cX9_init 53 = .ok (.invokespecial 28, 3) := by decide +kernel
theorem dX9_init_56 : decode cX9_init 56 = .ok (.putfield 33, 3) := by decide +kernel
theorem dX9_init_59 : decode cX9_init 59 = .ok (.aload_n 0, 1) := by decide +kernel
theorem dX9_init_60 : decode cX9_init 60 = .ok (.new 36, 3) := by decide +kernel
theorem dX9_init_63 : decode cX9_init 63 = .ok (.dup, 1) := by decide +kernel
theorem dX9_init_64 : decode cX9_init 64 = .ok (.invokespecial 38, 3) := by decide +kernel
theorem dX9_init_67 : decode cX9_init 67 = .ok (.putfield 39, 3) := by decide +kernel
theorem dX9_init_70 : decode cX9_init 70 = .ok (.aload_n 0, 1) := by decide +kernel
theorem dX9_init_71 : decode cX9_init 71 = .ok (.new 36, 3) := by decide +kernel
theorem dX9_init_74 : decode cX9_init 74 = .ok (.dup, 1) := by decide +kernel
theorem dX9_init_75 : decode cX9_init 75 = .ok (.invokespecial 38, 3) := by decide +kernel
theorem dX9_init_78 : decode cX9_init 78 = .ok (.putfield 43, 3) := by decide +kernel
theorem dX9_init_81 : decode cX9_init 81 = .ok (.aload_n 0, 1) := by decide +kernel
theorem dX9_init_82 : decode cX9_init 82 = .ok (.new 46, 3) := by decide +kernel
theorem dX9_init_85 : decode cX9_init 85 = .ok (.dup, 1) := by decide +kernel
theorem dX9_init_86 : decode cX9_init 86 = .ok (.aload_n 0, 1) := by decide +kernel
theorem dX9_init_87 : decode cX9_init 87 = .ok (.getfield 22, 3) := by decide +kernel
theorem dX9_init_90 : decode cX9_init 90 = .ok (.aload_n 0, 1) := by decide +kernel
theorem dX9_init_91 : decode cX9_init 91 = .ok (.getfield 43, 3) := by decide +kernel
theorem dX9_init_94 : decode cX9_init 94 = .ok (.invokespecial 48, 3) := by decide +kernel
theorem dX9_init_97 : decode cX9_init 97 = .ok (.putfield 51, 3) := by decide +kernel
theorem dX9_init_100 : decode cX9_init 100 = .ok (.aload_n 0, 1) := by decide +kernel
theorem dX9_init_101 : decode cX9_init 101 = .ok (.new 55, 3) := by decide +kernel
theorem dX9_init_104 : decode cX9_init 104 = .ok (.dup, 1) := by decide +kernel
theorem dX9_init_105 : decode cX9_init 105 = .ok (.aload_n 0, 1) := by decide +kernel
theorem dX9_init_106 : decode cX9_init 106 = .ok (.getfield 12, 3) := by decide +kernel
theorem dX9_init_109 : decode cX9_init 109 = .ok (.aload_n 0, 1) := by decide +kernel
theorem dX9_init_110 : decode cX9_init 110 = .ok (.getfield 39, 3) := by decide +kernel
theorem dX9_init_113 : decode cX9_init 113 = .ok (.invokespecial 57, 3) := by decide +kernel
theorem dX9_init_116 : decode cX9_init 116 = .ok (.putfield 60, 3) := by decide +kernel
theorem dX9_init_119 : decode cX9_init 119 = .ok (.aload_n 0, 1) := by decide +kernel
theorem dX9_init_120 : decode cX9_init 120 = .ok (.new 64, 3) := by decide +kernel
theorem dX9_init_123 : decode cX9_init 123 = .ok (.dup, 1) := by decide +kernel
theorem dX9_init_124 : decode cX9_init 124 = .ok (.aload_n 0, 1) := by decide +kernel
theorem dX9_init_125 : decode cX9_init 125 = .ok (.getfield 12, 3) := by decide +kernel
theorem dX9_init_128 : decode cX9_init 128 = .ok (.aload_n 0, 1) := by decide +kernel
theorem dX9_init_129 : decode cX9_init 129 = .ok (.getfield 29, 3) := by decide +kernel
theorem dX9_init_132 : decode cX9_init 132 = .ok (.aload_n 0, 1) := by decide +kernel
theorem dX9_init_133 : decode cX9_init 133 = .ok (.getfield 60, 3) := by decide +kernel
theorem dX9_init_136 : decode cX9_init 136 = .ok (.invokespecial 66, 3) := by decide +kernel
theorem dX9_init_139 : decode cX9_init 139 = .ok (.putfield 69, 3) := by decide +kernel
theorem dX9_init_142 : decode cX9_init 142 = .ok (.aload_n 0, 1) := by decide +kernel
theorem dX9_init_143 : decode cX9_init 143 = .ok (.new 73, 3) := by decide +kernel
theorem dX9_init_146 : decode cX9_init 146 = .ok (.dup, 1) := by decide +kernel
theorem dX9_init_147 : decode cX9_init 147 = .ok (.aload_n 0, 1) := by decide +kernel
theorem dX9_init_148 : decode cX9_init 148 = .ok (.getfield 12, 3) := by decide +kernel
theorem dX9_init_151 : decode cX9_init 151 = .ok (.aload_n 0, 1) := by decide +kernel
theorem dX9_init_152 : decode cX9_init 152 = .ok (.getfield 60, 3) := by decide +kernel
theorem dX9_init_155 : decode cX9_init 155 = .ok (.invokespecial 75, 3) := by decide +kernel
theorem dX9_init_158 : decode cX9_init 158 = .ok (.putfield 78, 3) := by decide +kernel
theorem dX9_init_161 : decode cX9_init 161 = .ok (.aload_n 0, 1) := by decide +kernel
theorem dX9_init_162 : decode cX9_init 162 = .ok (.new 82, 3) := by decide +kernel
theorem dX9_init_165 : decode cX9_init 165 = .ok (.dup, 1) := by decide +kernel
theorem dX9_init_166 : decode cX9_init 166 = .ok (.invokespecial 84, 3) := by decide +kernel
theorem dX9_init_169 : decode cX9_init 169 = .ok (.putfield 85, 3) := by decide +kernel
theorem dX9_init_172 : decode cX9_init 172 = .ok (.aload_n 0, 1) := by decide +kernel
theorem dX9_init_173 : decode cX9_init 173 = .ok (.bipush 10, 2) := by decide +kernel
theorem dX9_init_175 : decode cX9_init 175 = .ok (.newarray .int, 2) := by decide +kernel
theorem dX9_init_177 : decode cX9_init 177 = .ok (.putfield 89, 3) := by decide +kernel
theorem dX9_init_180 : decode cX9_init 180 = .ok (.return_, 1) := by decide +kernel
theorem dX9_cats_0 : decode cX9_cats 0 = .ok (.iload_n 1, 1) := by decide +kernel
theorem dX9_cats_1 : decode cX9_cats 1 = .ok (.invokestatic 93, 3) := by decide +kernel
theorem dX9_cats_4 : decode cX9_cats 4 = .ok (.ifCond .eq 10, 3) := by decide +kernel
theorem dX9_cats_7 : decode cX9_cats 7 = .ok (.iload_n 2, 1) := by decide +kernel
theorem dX9_cats_8 : decode cX9_cats 8 = .ok (.invokestatic 97, 3) := by decide +kernel
theorem dX9_cats_11 : decode cX9_cats 11 = .ok (.ifCond .ne 5, 3) := by decide +kernel
theorem dX9_cats_14 : decode cX9_cats 14 = .ok (.iconst 0, 1) := by decide +kernel
theorem dX9_cats_15 : decode cX9_cats 15 = .ok (.ireturn, 1) := by decide +kernel
theorem dX9_cats_16 : decode cX9_cats 16 = .ok (.aload_n 0, 1) := by decide +kernel
theorem dX9_cats_17 : decode cX9_cats 17 = .ok (.getfield 12, 3) := by decide +kernel
theorem dX9_cats_20 : decode cX9_cats 20 = .ok (.getfield 100, 3) := by decide +kernel
theorem dX9_cats_23 : decode cX9_cats 23 = .ok (.iload_n 1, 1) := by decide +kernel
theorem dX9_cats_24 : decode cX9_cats 24 = .ok (.iload_n 2, 1) := by decide +kernel
theorem dX9_cats_25 : decode cX9_cats 25 = .ok (.iastore, 1) := by decide +kernel
theorem dX9_cats_26 : decode cX9_cats 26 = .ok (.iconst 1, 1) := by decide +kernel
theorem dX9_cats_27 : decode cX9_cats 27 = .ok (.ireturn, 1) := by decide +kernel
theorem dX9_allSouls_0 : decode cX9_allSouls 0 = .ok (.iload_n 1, 1) := by decide +kernel
theorem dX9_allSouls_1 : decode cX9_allSouls 1 = .ok (.iconst (-1), 1) := by decide +kernel
theorem dX9_allSouls_2 : decode cX9_allSouls 2 = .ok (.if_icmp .eq 12, 3) := by decide +kernel
theorem dX9_allSouls_5 : decode cX9_allSouls 5 = .ok (.iload_n 1, 1) := by decide +kernel
theorem dX9_allSouls_6 : decode cX9_allSouls 6 = .ok (.invokestatic 103, 3) := by decide +kernel
theorem dX9_allSouls_9 : decode cX9_allSouls 9 = .ok (.ifCond .ne 5, 3) := by decide +kernel
theorem dX9_allSouls_12 : decode cX9_allSouls 12 = .ok (.iconst 0, 1) := by decide +kernel
theorem dX9_allSouls_13 : decode cX9_allSouls 13 = .ok (.ireturn, 1) := by decide +kernel
theorem dX9_allSouls_14 : decode cX9_allSouls 14 = .ok (.aload_n 0, 1) := by decide +kernel
theorem dX9_allSouls_15 : decode cX9_allSouls 15 = .ok (.getfield 12, 3) := by decide +kernel
theorem dX9_allSouls_18 : decode cX9_allSouls 18 = .ok (.iload_n 1, 1) := by decide +kernel
theorem dX9_allSouls_19 : decode cX9_allSouls 19 = .ok (.putfield 106, 3) := by decide +kernel
theorem dX9_allSouls_22 : decode cX9_allSouls 22 = .ok (.iconst 1, 1) := by decide +kernel
theorem dX9_allSouls_23 : decode cX9_allSouls 23 = .ok (.ireturn, 1) := by decide +kernel
theorem dX9_chains_0 : decode cX9_chains 0 = .ok (.iload_n 1, 1) := by decide +kernel
theorem dX9_chains_1 : decode cX9_chains 1 = .ok (.invokestatic 97, 3) := by decide +kernel
theorem dX9_chains_4 : decode cX9_chains 4 = .ok (.ifCond .ne 5, 3) := by decide +kernel
theorem dX9_chains_7 : decode cX9_chains 7 = .ok (.iconst 0, 1) := by decide +kernel
theorem dX9_chains_8 : decode cX9_chains 8 = .ok (.ireturn, 1) := by decide +kernel
theorem dX9_chains_9 : decode cX9_chains 9 = .ok (.aload_n 0, 1) := by decide +kernel
theorem dX9_chains_10 : decode cX9_chains 10 = .ok (.getfield 12, 3) := by decide +kernel
theorem dX9_chains_13 : decode cX9_chains 13 = .ok (.iload_n 1, 1) := by decide +kernel
theorem dX9_chains_14 : decode cX9_chains 14 = .ok (.putfield 110, 3) := by decide +kernel
theorem dX9_chains_17 : decode cX9_chains 17 = .ok (.iconst 1, 1) := by decide +kernel
theorem dX9_chains_18 : decode cX9_chains 18 = .ok (.ireturn, 1) := by decide +kernel
theorem dX9_sleeper_0 : decode cX9_sleeper 0 = .ok (.iload_n 1, 1) := by decide +kernel
theorem dX9_sleeper_1 : decode cX9_sleeper 1 = .ok (.ifCond .lt 16, 3) := by decide +kernel
theorem dX9_sleeper_4 : decode cX9_sleeper 4 = .ok (.iload_n 1, 1) := by decide +kernel
theorem dX9_sleeper_5 : decode cX9_sleeper 5 = .ok (.bipush 10, 2) := by decide +kernel
