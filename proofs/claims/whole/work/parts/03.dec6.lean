theorem dX10_mendedBy_5 : decode cX10_mendedBy 5 = .ok (.iaload, 1) := by decide +kernel
theorem dX10_mendedBy_6 : decode cX10_mendedBy 6 = .ok (.bipush 9, 2) := by decide +kernel
theorem dX10_mendedBy_8 : decode cX10_mendedBy 8 = .ok (.if_icmp .ne 5, 3) := by decide +kernel
theorem dX10_mendedBy_11 : decode cX10_mendedBy 11 = .ok (.iconst 0, 1) := by decide +kernel
theorem dX10_mendedBy_12 : decode cX10_mendedBy 12 = .ok (.ireturn, 1) := by decide +kernel
theorem dX10_mendedBy_13 : decode cX10_mendedBy 13 = .ok (.aload_n 0, 1) := by decide +kernel
theorem dX10_mendedBy_14 : decode cX10_mendedBy 14 = .ok (.invokevirtual 360, 3) := by decide +kernel
theorem dX10_mendedBy_17 : decode cX10_mendedBy 17 = .ok (.aload_n 0, 1) := by decide +kernel
theorem dX10_mendedBy_18 : decode cX10_mendedBy 18 = .ok (.getfield 102, 3) := by decide +kernel
theorem dX10_mendedBy_21 : decode cX10_mendedBy 21 = .ok (.iconst 0, 1) := by decide +kernel
theorem dX10_mendedBy_22 : decode cX10_mendedBy 22 = .ok (.iaload, 1) := by decide +kernel
theorem dX10_mendedBy_23 : decode cX10_mendedBy 23 = .ok (.istore_n 2, 1) := by decide +kernel
theorem dX10_mendedBy_24 : decode cX10_mendedBy 24 = .ok (.aload_n 0, 1) := by decide +kernel
theorem dX10_mendedBy_25 : decode cX10_mendedBy 25 = .ok (.getfield 22, 3) := by decide +kernel
theorem dX10_mendedBy_28 : decode cX10_mendedBy 28 = .ok (.iload_n 1, 1) := by decide +kernel
theorem dX10_mendedBy_29 : decode cX10_mendedBy 29 = .ok (.aload_n 0, 1) := by decide +kernel
theorem dX10_mendedBy_30 : decode cX10_mendedBy 30 = .ok (.getfield 22, 3) := by decide +kernel
theorem dX10_mendedBy_33 : decode cX10_mendedBy 33 = .ok (.iload_n 1, 1) := by decide +kernel
theorem dX10_mendedBy_34 : decode cX10_mendedBy 34 = .ok (.iaload, 1) := by decide +kernel
theorem dX10_mendedBy_35 : decode cX10_mendedBy 35 = .ok (.iconst 1, 1) := by decide +kernel
theorem dX10_mendedBy_36 : decode cX10_mendedBy 36 = .ok (.iadd, 1) := by decide +kernel
theorem dX10_mendedBy_37 : decode cX10_mendedBy 37 = .ok (.iastore, 1) := by decide +kernel
theorem dX10_mendedBy_38 : decode cX10_mendedBy 38 = .ok (.aload_n 0, 1) := by decide +kernel
theorem dX10_mendedBy_39 : decode cX10_mendedBy 39 = .ok (.invokevirtual 360, 3) := by decide +kernel
theorem dX10_mendedBy_42 : decode cX10_mendedBy 42 = .ok (.aload_n 0, 1) := by decide +kernel
theorem dX10_mendedBy_43 : decode cX10_mendedBy 43 = .ok (.getfield 22, 3) := by decide +kernel
theorem dX10_mendedBy_46 : decode cX10_mendedBy 46 = .ok (.iload_n 1, 1) := by decide +kernel
theorem dX10_mendedBy_47 : decode cX10_mendedBy 47 = .ok (.aload_n 0, 1) := by decide +kernel
theorem dX10_mendedBy_48 : decode cX10_mendedBy 48 = .ok (.getfield 22, 3) := by decide +kernel
theorem dX10_mendedBy_51 : decode cX10_mendedBy 51 = .ok (.iload_n 1, 1) := by decide +kernel
theorem dX10_mendedBy_52 : decode cX10_mendedBy 52 = .ok (.iaload, 1) := by decide +kernel
theorem dX10_mendedBy_53 : decode cX10_mendedBy 53 = .ok (.iconst 1, 1) := by decide +kernel
theorem dX10_mendedBy_54 : decode cX10_mendedBy 54 = .ok (.isub, 1) := by decide +kernel
theorem dX10_mendedBy_55 : decode cX10_mendedBy 55 = .ok (.iastore, 1) := by decide +kernel
theorem dX10_mendedBy_56 : decode cX10_mendedBy 56 = .ok (.aload_n 0, 1) := by decide +kernel
theorem dX10_mendedBy_57 : decode cX10_mendedBy 57 = .ok (.getfield 102, 3) := by decide +kernel
theorem dX10_mendedBy_60 : decode cX10_mendedBy 60 = .ok (.iconst 0, 1) := by decide +kernel
theorem dX10_mendedBy_61 : decode cX10_mendedBy 61 = .ok (.iaload, 1) := by decide +kernel
theorem dX10_mendedBy_62 : decode cX10_mendedBy 62 = .ok (.iload_n 2, 1) := by decide +kernel
theorem dX10_mendedBy_63 : decode cX10_mendedBy 63 = .ok (.isub, 1) := by decide +kernel
theorem dX10_mendedBy_64 : decode cX10_mendedBy 64 = .ok (.ireturn, 1) := by decide +kernel
theorem dX10_mended_0 : decode cX10_mended 0 = .ok (.iload_n 2, 1) := by decide +kernel
theorem dX10_mended_1 : decode cX10_mended 1 = .ok (.ifCond .ne 23, 3) := by decide +kernel
theorem dX10_mended_4 : decode cX10_mended 4 = .ok (.aload_n 0, 1) := by decide +kernel
theorem dX10_mended_5 : decode cX10_mended 5 = .ok (.iload_n 1, 1) := by decide +kernel
theorem dX10_mended_6 : decode cX10_mended 6 = .ok (.invokevirtual 236, 3) := by decide +kernel
theorem dX10_mended_9 : decode cX10_mended 9 = .ok (.ifCond .eq 11, 3) := by decide +kernel
theorem dX10_mended_12 : decode cX10_mended 12 = .ok (.aload_n 0, 1) := by decide +kernel
theorem dX10_mended_13 : decode cX10_mended 13 = .ok (.iload_n 1, 1) := by decide +kernel
theorem dX10_mended_14 : decode cX10_mended 14 = .ok (.invokevirtual 383, 3) := by decide +kernel
theorem dX10_mended_17 : decode cX10_mended 17 = .ok (.goto 6, 3) := by decide +kernel
theorem dX10_mended_20 : decode cX10_mended 20 = .ok (.ldc_w 386, 3) := by decide +kernel
theorem dX10_mended_23 : decode cX10_mended 23 = .ok (.ireturn, 1) := by decide +kernel
theorem dX10_mended_24 : decode cX10_mended 24 = .ok (.iload_n 2, 1) := by decide +kernel
theorem dX10_mended_25 : decode cX10_mended 25 = .ok (.iconst 1, 1) := by decide +kernel
theorem dX10_mended_26 : decode cX10_mended 26 = .ok (.iconst 2, 1) := by decide +kernel
theorem dX10_mended_27 : decode cX10_mended 27 = .ok (.invokestatic 175, 3) := by decide +kernel
theorem dX10_mended_30 : decode cX10_mended 30 = .ok (.ifCond .eq 10, 3) := by decide +kernel
theorem dX10_mended_33 : decode cX10_mended 33 = .ok (.aload_n 0, 1) := by decide +kernel
theorem dX10_mended_34 : decode cX10_mended 34 = .ok (.getfield 168, 3) := by decide +kernel
theorem dX10_mended_37 : decode cX10_mended 37 = .ok (.ifCond .ne 7, 3) := by decide +kernel
theorem dX10_mended_40 : decode cX10_mended 40 = .ok (.ldc_w 386, 3) := by decide +kernel
theorem dX10_mended_43 : decode cX10_mended 43 = .ok (.ireturn, 1) := by decide +kernel
theorem dX10_mended_44 : decode cX10_mended 44 = .ok (.iconst (-1), 1) := by decide +kernel
theorem dX10_mended_45 : decode cX10_mended 45 = .ok (.istore_n 3, 1) := by decide +kernel
theorem dX10_mended_46 : decode cX10_mended 46 = .ok (.iconst 0, 1) := by decide +kernel
theorem dX10_mended_47 : decode cX10_mended 47 = .ok (.istore 4, 2) := by decide +kernel
theorem dX10_mended_49 : decode cX10_mended 49 = .ok (.iconst 0, 1) := by decide +kernel
theorem dX10_mended_50 : decode cX10_mended 50 = .ok (.istore 5, 2) := by decide +kernel
theorem dX10_mended_52 : decode cX10_mended 52 = .ok (.iload 5, 2) := by decide +kernel
theorem dX10_mended_54 : decode cX10_mended 54 = .ok (.bipush 10, 2) := by decide +kernel
theorem dX10_mended_56 : decode cX10_mended 56 = .ok (.if_icmp .ge 51, 3) := by decide +kernel
theorem dX10_mended_59 : decode cX10_mended 59 = .ok (.aload_n 0, 1) := by decide +kernel
theorem dX10_mended_60 : decode cX10_mended 60 = .ok (.iload 5, 2) := by decide +kernel
theorem dX10_mended_62 : decode cX10_mended 62 = .ok (.invokevirtual 236, 3) := by decide +kernel
theorem dX10_mended_65 : decode cX10_mended 65 = .ok (.ifCond .ne 6, 3) := by decide +kernel
theorem dX10_mended_68 : decode cX10_mended 68 = .ok (.goto 33, 3) := by decide +kernel
theorem dX10_mended_71 : decode cX10_mended 71 = .ok (.aload_n 0, 1) := by decide +kernel
theorem dX10_mended_72 : decode cX10_mended 72 = .ok (.iload 5, 2) := by decide +kernel
theorem dX10_mended_74 : decode cX10_mended 74 = .ok (.invokevirtual 383, 3) := by decide +kernel
theorem dX10_mended_77 : decode cX10_mended 77 = .ok (.istore 6, 2) := by decide +kernel
theorem dX10_mended_79 : decode cX10_mended 79 = .ok (.iload_n 3, 1) := by decide +kernel
theorem dX10_mended_80 : decode cX10_mended 80 = .ok (.iconst (-1), 1) := by decide +kernel
theorem dX10_mended_81 : decode cX10_mended 81 = .ok (.if_icmp .eq 13, 3) := by decide +kernel
theorem dX10_mended_84 : decode cX10_mended 84 = .ok (.iload 6, 2) := by decide +kernel
theorem dX10_mended_86 : decode cX10_mended 86 = .ok (.iload 4, 2) := by decide +kernel
theorem dX10_mended_88 : decode cX10_mended 88 = .ok (.if_icmp .gt 6, 3) := by decide +kernel
theorem dX10_mended_91 : decode cX10_mended 91 = .ok (.goto 10, 3) := by decide +kernel
theorem dX10_mended_94 : decode cX10_mended 94 = .ok (.iload 5, 2) := by decide +kernel
theorem dX10_mended_96 : decode cX10_mended 96 = .ok (.istore_n 3, 1) := by decide +kernel
theorem dX10_mended_97 : decode cX10_mended 97 = .ok (.iload 6, 2) := by decide +kernel
theorem dX10_mended_99 : decode cX10_mended 99 = .ok (.istore 4, 2) := by decide +kernel
theorem dX10_mended_101 : decode cX10_mended 101 = .ok (.iinc 5 1, 3) := by decide +kernel
theorem dX10_mended_104 : decode cX10_mended 104 = .ok (.goto (-52), 3) := by decide +kernel
theorem dX10_mended_107 : decode cX10_mended 107 = .ok (.iload_n 2, 1) := by decide +kernel
theorem dX10_mended_108 : decode cX10_mended 108 = .ok (.iconst 1, 1) := by decide +kernel
theorem dX10_mended_109 : decode cX10_mended 109 = .ok (.if_icmp .ne 7, 3) := by decide +kernel
theorem dX10_mended_112 : decode cX10_mended 112 = .ok (.iload_n 3, 1) := by decide +kernel
theorem dX10_mended_113 : decode cX10_mended 113 = .ok (.goto 5, 3) := by decide +kernel
theorem dX10_mended_116 : decode cX10_mended 116 = .ok (.iload 4, 2) := by decide +kernel
theorem dX10_mended_118 : decode cX10_mended 118 = .ok (.ireturn, 1) := by decide +kernel
theorem dX10_mend_0 : decode cX10_mend 0 = .ok (.aload_n 0, 1) := by decide +kernel
theorem dX10_mend_1 : decode cX10_mend 1 = .ok (.iload_n 1, 1) := by decide +kernel
theorem dX10_mend_2 : decode cX10_mend 2 = .ok (.invokevirtual 236, 3) := by decide +kernel
theorem dX10_mend_5 : decode cX10_mend 5 = .ok (.ifCond .eq 14, 3) := by decide +kernel
theorem dX10_mend_8 : decode cX10_mend 8 = .ok (.aload_n 0, 1) := by decide +kernel
theorem dX10_mend_9 : decode cX10_mend 9 = .ok (.getfield 22, 3) := by decide +kernel
theorem dX10_mend_12 : decode cX10_mend 12 = .ok (.iload_n 1, 1) := by decide +kernel
theorem dX10_mend_13 : decode cX10_mend 13 = .ok (.iaload, 1) := by decide +kernel
theorem dX10_mend_14 : decode cX10_mend 14 = .ok (.bipush 9, 2) := by decide +kernel
theorem dX10_mend_16 : decode cX10_mend 16 = .ok (.if_icmp .ne 5, 3) := by decide +kernel
theorem dX10_mend_19 : decode cX10_mend 19 = .ok (.iconst (-1), 1) := by decide +kernel
theorem dX10_mend_20 : decode cX10_mend 20 = .ok (.ireturn, 1) := by decide +kernel
theorem dX10_mend_21 : decode cX10_mend 21 = .ok (.aload_n 0, 1) := by decide +kernel
theorem dX10_mend_22 : decode cX10_mend 22 = .ok (.getfield 22, 3) := by decide +kernel
theorem dX10_mend_25 : decode cX10_mend 25 = .ok (.iload_n 1, 1) := by decide +kernel
theorem dX10_mend_26 : decode cX10_mend 26 = .ok (.aload_n 0, 1) := by decide +kernel
theorem dX10_mend_27 : decode cX10_mend 27 = .ok (.getfield 22, 3) := by decide +kernel
theorem dX10_mend_30 : decode cX10_mend 30 = .ok (.iload_n 1, 1) := by decide +kernel
theorem dX10_mend_31 : decode cX10_mend 31 = .ok (.iaload, 1) := by decide +kernel
theorem dX10_mend_32 : decode cX10_mend 32 = .ok (.iconst 1, 1) := by decide +kernel
theorem dX10_mend_33 : decode cX10_mend 33 = .ok (.iadd, 1) := by decide +kernel
theorem dX10_mend_34 : decode cX10_mend 34 = .ok (.iastore, 1) := by decide +kernel
theorem dX10_mend_35 : decode cX10_mend 35 = .ok (.aload_n 0, 1) := by decide +kernel
theorem dX10_mend_36 : decode cX10_mend 36 = .ok (.getfield 22, 3) := by decide +kernel
theorem dX10_mend_39 : decode cX10_mend 39 = .ok (.iload_n 1, 1) := by decide +kernel
theorem dX10_mend_40 : decode cX10_mend 40 = .ok (.iaload, 1) := by decide +kernel
theorem dX10_mend_41 : decode cX10_mend 41 = .ok (.ireturn, 1) := by decide +kernel
theorem dX10_shared_0 : decode cX10_shared 0 = .ok (.iload_n 1, 1) := by decide +kernel
theorem dX10_shared_1 : decode cX10_shared 1 = .ok (.invokestatic 179, 3) := by decide +kernel
theorem dX10_shared_4 : decode cX10_shared 4 = .ok (.ifCond .eq 12, 3) := by decide +kernel
theorem dX10_shared_7 : decode cX10_shared 7 = .ok (.iload_n 2, 1) := by decide +kernel
theorem dX10_shared_8 : decode cX10_shared 8 = .ok (.iconst 0, 1) := by decide +kernel
theorem dX10_shared_9 : decode cX10_shared 9 = .ok (.iconst 1, 1) := by decide +kernel
theorem dX10_shared_10 : decode cX10_shared 10 = .ok (.invokestatic 175, 3) := by decide +kernel
theorem dX10_shared_13 : decode cX10_shared 13 = .ok (.ifCond .ne 5, 3) := by decide +kernel
theorem dX10_shared_16 : decode cX10_shared 16 = .ok (.iconst (-1), 1) := by decide +kernel
theorem dX10_shared_17 : decode cX10_shared 17 = .ok (.ireturn, 1) := by decide +kernel
theorem dX10_shared_18 : decode cX10_shared 18 = .ok (.iconst 0, 1) := by decide +kernel
theorem dX10_shared_19 : decode cX10_shared 19 = .ok (.istore_n 3, 1) := by decide +kernel
theorem dX10_shared_20 : decode cX10_shared 20 = .ok (.iconst 0, 1) := by decide +kernel
theorem dX10_shared_21 : decode cX10_shared 21 = .ok (.istore 4, 2) := by decide +kernel
theorem dX10_shared_23 : decode cX10_shared 23 = .ok (.iload 4, 2) := by decide +kernel
theorem dX10_shared_25 : decode cX10_shared 25 = .ok (.aload_n 0, 1) := by decide +kernel
theorem dX10_shared_26 : decode cX10_shared 26 = .ok (.getfield 233, 3) := by decide +kernel
theorem dX10_shared_29 : decode cX10_shared 29 = .ok (.if_icmp .ge 92, 3) := by decide +kernel
theorem dX10_shared_32 : decode cX10_shared 32 = .ok (.aload_n 0, 1) := by decide +kernel
theorem dX10_shared_33 : decode cX10_shared 33 = .ok (.getfield 41, 3) := by decide +kernel
theorem dX10_shared_36 : decode cX10_shared 36 = .ok (.iload 4, 2) := by decide +kernel
theorem dX10_shared_38 : decode cX10_shared 38 = .ok (.iaload, 1) := by decide +kernel
theorem dX10_shared_39 : decode cX10_shared 39 = .ok (.iload_n 1, 1) := by decide +kernel
theorem dX10_shared_40 : decode cX10_shared 40 = .ok (.if_icmp .ne 75, 3) := by decide +kernel
theorem dX10_shared_43 : decode cX10_shared 43 = .ok (.aload_n 0, 1) := by decide +kernel
theorem dX10_shared_44 : decode cX10_shared 44 = .ok (.iload 4, 2) := by decide +kernel
theorem dX10_shared_46 : decode cX10_shared 46 = .ok (.invokevirtual 239, 3) := by decide +kernel
theorem dX10_shared_49 : decode cX10_shared 49 = .ok (.ifCond .ne 6, 3) := by decide +kernel
theorem dX10_shared_52 : decode cX10_shared 52 = .ok (.goto 63, 3) := by decide +kernel
theorem dX10_shared_55 : decode cX10_shared 55 = .ok (.aload_n 0, 1) := by decide +kernel
theorem dX10_shared_56 : decode cX10_shared 56 = .ok (.getfield 38, 3) := by decide +kernel
theorem dX10_shared_59 : decode cX10_shared 59 = .ok (.iload 4, 2) := by decide +kernel
theorem dX10_shared_61 : decode cX10_shared 61 = .ok (.iaload, 1) := by decide +kernel
theorem dX10_shared_62 : decode cX10_shared 62 = .ok (.istore 5, 2) := by decide +kernel
theorem dX10_shared_64 : decode cX10_shared 64 = .ok (.iload_n 3, 1) := by decide +kernel
theorem dX10_shared_65 : decode cX10_shared 65 = .ok (.iconst 1, 1) := by decide +kernel
theorem dX10_shared_66 : decode cX10_shared 66 = .ok (.iload 5, 2) := by decide +kernel
theorem dX10_shared_68 : decode cX10_shared 68 = .ok (.ishl, 1) := by decide +kernel
theorem dX10_shared_69 : decode cX10_shared 69 = .ok (.ior, 1) := by decide +kernel
theorem dX10_shared_70 : decode cX10_shared 70 = .ok (.istore_n 3, 1) := by decide +kernel
theorem dX10_shared_71 : decode cX10_shared 71 = .ok (.aload_n 0, 1) := by decide +kernel
theorem dX10_shared_72 : decode cX10_shared 72 = .ok (.getfield 111, 3) := by decide +kernel
theorem dX10_shared_75 : decode cX10_shared 75 = .ok (.iload 5, 2) := by decide +kernel
theorem dX10_shared_77 : decode cX10_shared 77 = .ok (.aload_n 0, 1) := by decide +kernel
theorem dX10_shared_78 : decode cX10_shared 78 = .ok (.iload 5, 2) := by decide +kernel
theorem dX10_shared_80 : decode cX10_shared 80 = .ok (.iload_n 1, 1) := by decide +kernel
theorem dX10_shared_81 : decode cX10_shared 81 = .ok (.aload_n 0, 1) := by decide +kernel
theorem dX10_shared_82 : decode cX10_shared 82 = .ok (.getfield 44, 3) := by decide +kernel
theorem dX10_shared_85 : decode cX10_shared 85 = .ok (.iload 4, 2) := by decide +kernel
theorem dX10_shared_87 : decode cX10_shared 87 = .ok (.iaload, 1) := by decide +kernel
theorem dX10_shared_88 : decode cX10_shared 88 = .ok (.iconst 0, 1) := by decide +kernel
theorem dX10_shared_89 : decode cX10_shared 89 = .ok (.invokevirtual 379, 3) := by decide +kernel
theorem dX10_shared_92 : decode cX10_shared 92 = .ok (.iastore, 1) := by decide +kernel
theorem dX10_shared_93 : decode cX10_shared 93 = .ok (.aload_n 0, 1) := by decide +kernel
theorem dX10_shared_94 : decode cX10_shared 94 = .ok (.getfield 114, 3) := by decide +kernel
theorem dX10_shared_97 : decode cX10_shared 97 = .ok (.iload 5, 2) := by decide +kernel
theorem dX10_shared_99 : decode cX10_shared 99 = .ok (.aload_n 0, 1) := by decide +kernel
theorem dX10_shared_100 : decode cX10_shared 100 = .ok (.iload 5, 2) := by decide +kernel
theorem dX10_shared_102 : decode cX10_shared 102 = .ok (.iload_n 1, 1) := by decide +kernel
theorem dX10_shared_103 : decode cX10_shared 103 = .ok (.aload_n 0, 1) := by decide +kernel
theorem dX10_shared_104 : decode cX10_shared 104 = .ok (.getfield 44, 3) := by decide +kernel
theorem dX10_shared_107 : decode cX10_shared 107 = .ok (.iload 4, 2) := by decide +kernel
theorem dX10_shared_109 : decode cX10_shared 109 = .ok (.iaload, 1) := by decide +kernel
theorem dX10_shared_110 : decode cX10_shared 110 = .ok (.iconst 1, 1) := by decide +kernel
theorem dX10_shared_111 : decode cX10_shared 111 = .ok (.invokevirtual 379, 3) := by decide +kernel
theorem dX10_shared_114 : decode cX10_shared 114 = .ok (.iastore, 1) := by decide +kernel
theorem dX10_shared_115 : decode cX10_shared 115 = .ok (.iinc 4 1, 3) := by decide +kernel
theorem dX10_shared_118 : decode cX10_shared 118 = .ok (.goto (-95), 3) := by decide +kernel
theorem dX10_shared_121 : decode cX10_shared 121 = .ok (.iconst 0, 1) := by decide +kernel
theorem dX10_shared_122 : decode cX10_shared 122 = .ok (.istore 4, 2) := by decide +kernel
theorem dX10_shared_124 : decode cX10_shared 124 = .ok (.iconst (-1), 1) := by decide +kernel
theorem dX10_shared_125 : decode cX10_shared 125 = .ok (.istore 5, 2) := by decide +kernel
theorem dX10_shared_127 : decode cX10_shared 127 = .ok (.iconst 0, 1) := by decide +kernel
theorem dX10_shared_128 : decode cX10_shared 128 = .ok (.istore 6, 2) := by decide +kernel
theorem dX10_shared_130 : decode cX10_shared 130 = .ok (.iload 6, 2) := by decide +kernel
theorem dX10_shared_132 : decode cX10_shared 132 = .ok (.sipush 1024, 3) := by decide +kernel
theorem dX10_shared_135 : decode cX10_shared 135 = .ok (.if_icmp .ge 135, 3) := by decide +kernel
theorem dX10_shared_138 : decode cX10_shared 138 = .ok (.iload 6, 2) := by decide +kernel
theorem dX10_shared_140 : decode cX10_shared 140 = .ok (.iload_n 3, 1) := by decide +kernel
theorem dX10_shared_141 : decode cX10_shared 141 = .ok (.iconst (-1), 1) := by decide +kernel
theorem dX10_shared_142 : decode cX10_shared 142 = .ok (.ixor, 1) := by decide +kernel
theorem dX10_shared_143 : decode cX10_shared 143 = .ok (.iand, 1) := by decide +kernel
theorem dX10_shared_144 : decode cX10_shared 144 = .ok (.ifCond .ne 120, 3) := by decide +kernel
theorem dX10_shared_147 : decode cX10_shared 147 = .ok (.iload 6, 2) := by decide +kernel
theorem dX10_shared_149 : decode cX10_shared 149 = .ok (.invokestatic 387, 3) := by decide +kernel
theorem dX10_shared_152 : decode cX10_shared 152 = .ok (.aload_n 0, 1) := by decide +kernel
theorem dX10_shared_153 : decode cX10_shared 153 = .ok (.getfield 182, 3) := by decide +kernel
theorem dX10_shared_156 : decode cX10_shared 156 = .ok (.if_icmp .le 6, 3) := by decide +kernel
theorem dX10_shared_159 : decode cX10_shared 159 = .ok (.goto 105, 3) := by decide +kernel
theorem dX10_shared_162 : decode cX10_shared 162 = .ok (.iconst 0, 1) := by decide +kernel
theorem dX10_shared_163 : decode cX10_shared 163 = .ok (.istore 7, 2) := by decide +kernel
theorem dX10_shared_165 : decode cX10_shared 165 = .ok (.iconst 0, 1) := by decide +kernel
theorem dX10_shared_166 : decode cX10_shared 166 = .ok (.istore 8, 2) := by decide +kernel
theorem dX10_shared_168 : decode cX10_shared 168 = .ok (.iload 8, 2) := by decide +kernel
theorem dX10_shared_170 : decode cX10_shared 170 = .ok (.bipush 10, 2) := by decide +kernel
theorem dX10_shared_172 : decode cX10_shared 172 = .ok (.if_icmp .ge 54, 3) := by decide +kernel
theorem dX10_shared_175 : decode cX10_shared 175 = .ok (.iload 7, 2) := by decide +kernel
theorem dX10_shared_177 : decode cX10_shared 177 = .ok (.iload_n 3, 1) := by decide +kernel
theorem dX10_shared_178 : decode cX10_shared 178 = .ok (.iload 8, 2) := by decide +kernel
theorem dX10_shared_180 : decode cX10_shared 180 = .ok (.invokestatic 164, 3) := by decide +kernel
theorem dX10_shared_183 : decode cX10_shared 183 = .ok (.ifCond .ne 7, 3) := by decide +kernel
theorem dX10_shared_186 : decode cX10_shared 186 = .ok (.iconst 0, 1) := by decide +kernel
theorem dX10_shared_187 : decode cX10_shared 187 = .ok (.goto 30, 3) := by decide +kernel
theorem dX10_shared_190 : decode cX10_shared 190 = .ok (.iload 6, 2) := by decide +kernel
theorem dX10_shared_192 : decode cX10_shared 192 = .ok (.iload 8, 2) := by decide +kernel
theorem dX10_shared_194 : decode cX10_shared 194 = .ok (.invokestatic 164, 3) := by decide +kernel
theorem dX10_shared_197 : decode cX10_shared 197 = .ok (.ifCond .eq 13, 3) := by decide +kernel
theorem dX10_shared_200 : decode cX10_shared 200 = .ok (.aload_n 0, 1) := by decide +kernel
theorem dX10_shared_201 : decode cX10_shared 201 = .ok (.getfield 114, 3) := by decide +kernel
theorem dX10_shared_204 : decode cX10_shared 204 = .ok (.iload 8, 2) := by decide +kernel
theorem dX10_shared_206 : decode cX10_shared 206 = .ok (.iaload, 1) := by decide +kernel
theorem dX10_shared_207 : decode cX10_shared 207 = .ok (.goto 10, 3) := by decide +kernel
theorem dX10_shared_210 : decode cX10_shared 210 = .ok (.aload_n 0, 1) := by decide +kernel
theorem dX10_shared_211 : decode cX10_shared 211 = .ok (.getfield 111, 3) := by decide +kernel
theorem dX10_shared_214 : decode cX10_shared 214 = .ok (.iload 8, 2) := by decide +kernel
theorem dX10_shared_216 : decode cX10_shared 216 = .ok (.iaload, 1) := by decide +kernel
theorem dX10_shared_217 : decode cX10_shared 217 = .ok (.iadd, 1) := by decide +kernel
theorem dX10_shared_218 : decode cX10_shared 218 = .ok (.istore 7, 2) := by decide +kernel
theorem dX10_shared_220 : decode cX10_shared 220 = .ok (.iinc 8 1, 3) := by decide +kernel
theorem dX10_shared_223 : decode cX10_shared 223 = .ok (.goto (-55), 3) := by decide +kernel
theorem dX10_shared_226 : decode cX10_shared 226 = .ok (.iload 7, 2) := by decide +kernel
theorem dX10_shared_228 : decode cX10_shared 228 = .ok (.iload 5, 2) := by decide +kernel
theorem dX10_shared_230 : decode cX10_shared 230 = .ok (.if_icmp .lt 34, 3) := by decide +kernel
theorem dX10_shared_233 : decode cX10_shared 233 = .ok (.iload 7, 2) := by decide +kernel
theorem dX10_shared_235 : decode cX10_shared 235 = .ok (.iload 5, 2) := by decide +kernel
theorem dX10_shared_237 : decode cX10_shared 237 = .ok (.if_icmp .ne 19, 3) := by decide +kernel
theorem dX10_shared_240 : decode cX10_shared 240 = .ok (.iload 6, 2) := by decide +kernel
theorem dX10_shared_242 : decode cX10_shared 242 = .ok (.invokestatic 387, 3) := by decide +kernel
theorem dX10_shared_245 : decode cX10_shared 245 = .ok (.iload 4, 2) := by decide +kernel
theorem dX10_shared_247 : decode cX10_shared 247 = .ok (.invokestatic 387, 3) := by decide +kernel
theorem dX10_shared_250 : decode cX10_shared 250 = .ok (.if_icmp .lt 6, 3) := by decide +kernel
theorem dX10_shared_253 : decode cX10_shared 253 = .ok (.goto 11, 3) := by decide +kernel
theorem dX10_shared_256 : decode cX10_shared 256 = .ok (.iload 7, 2) := by decide +kernel
theorem dX10_shared_258 : decode cX10_shared 258 = .ok (.istore 5, 2) := by decide +kernel
theorem dX10_shared_260 : decode cX10_shared 260 = .ok (.iload 6, 2) := by decide +kernel
theorem dX10_shared_262 : decode cX10_shared 262 = .ok (.istore 4, 2) := by decide +kernel
theorem dX10_shared_264 : decode cX10_shared 264 = .ok (.iinc 6 1, 3) := by decide +kernel
theorem dX10_shared_267 : decode cX10_shared 267 = .ok (.goto (-137), 3) := by decide +kernel
theorem dX10_shared_270 : decode cX10_shared 270 = .ok (.iload_n 2, 1) := by decide +kernel
theorem dX10_shared_271 : decode cX10_shared 271 = .ok (.ifCond .ne 8, 3) := by decide +kernel
theorem dX10_shared_274 : decode cX10_shared 274 = .ok (.iload 4, 2) := by decide +kernel
theorem dX10_shared_276 : decode cX10_shared 276 = .ok (.goto 5, 3) := by decide +kernel
theorem dX10_shared_279 : decode cX10_shared 279 = .ok (.iload 5, 2) := by decide +kernel
theorem dX10_shared_281 : decode cX10_shared 281 = .ok (.ireturn, 1) := by decide +kernel
theorem dX10_coldIn_0 : decode cX10_coldIn 0 = .ok (.iconst 0, 1) := by decide +kernel
theorem dX10_coldIn_1 : decode cX10_coldIn 1 = .ok (.istore_n 2, 1) := by decide +kernel
theorem dX10_coldIn_2 : decode cX10_coldIn 2 = .ok (.iconst 0, 1) := by decide +kernel
theorem dX10_coldIn_3 : decode cX10_coldIn 3 = .ok (.istore_n 3, 1) := by decide +kernel
theorem dX10_coldIn_4 : decode cX10_coldIn 4 = .ok (.iload_n 3, 1) := by decide +kernel
theorem dX10_coldIn_5 : decode cX10_coldIn 5 = .ok (.aload_n 0, 1) := by decide +kernel
theorem dX10_coldIn_6 : decode cX10_coldIn 6 = .ok (.getfield 233, 3) := by decide +kernel
theorem dX10_coldIn_9 : decode cX10_coldIn 9 = .ok (.if_icmp .ge 38, 3) := by decide +kernel
theorem dX10_coldIn_12 : decode cX10_coldIn 12 = .ok (.aload_n 0, 1) := by decide +kernel
theorem dX10_coldIn_13 : decode cX10_coldIn 13 = .ok (.getfield 44, 3) := by decide +kernel
theorem dX10_coldIn_16 : decode cX10_coldIn 16 = .ok (.iload_n 3, 1) := by decide +kernel
theorem dX10_coldIn_17 : decode cX10_coldIn 17 = .ok (.iaload, 1) := by decide +kernel
theorem dX10_coldIn_18 : decode cX10_coldIn 18 = .ok (.iload_n 1, 1) := by decide +kernel
theorem dX10_coldIn_19 : decode cX10_coldIn 19 = .ok (.if_icmp .ne 22, 3) := by decide +kernel
theorem dX10_coldIn_22 : decode cX10_coldIn 22 = .ok (.aload_n 0, 1) := by decide +kernel
theorem dX10_coldIn_23 : decode cX10_coldIn 23 = .ok (.iload_n 3, 1) := by decide +kernel
theorem dX10_coldIn_24 : decode cX10_coldIn 24 = .ok (.invokevirtual 239, 3) := by decide +kernel
theorem dX10_coldIn_27 : decode cX10_coldIn 27 = .ok (.ifCond .eq 14, 3) := by decide +kernel
theorem dX10_coldIn_30 : decode cX10_coldIn 30 = .ok (.iload_n 2, 1) := by decide +kernel
theorem dX10_coldIn_31 : decode cX10_coldIn 31 = .ok (.iconst 1, 1) := by decide +kernel
theorem dX10_coldIn_32 : decode cX10_coldIn 32 = .ok (.aload_n 0, 1) := by decide +kernel
theorem dX10_coldIn_33 : decode cX10_coldIn 33 = .ok (.getfield 38, 3) := by decide +kernel
theorem dX10_coldIn_36 : decode cX10_coldIn 36 = .ok (.iload_n 3, 1) := by decide +kernel
theorem dX10_coldIn_37 : decode cX10_coldIn 37 = .ok (.iaload, 1) := by decide +kernel
theorem dX10_coldIn_38 : decode cX10_coldIn 38 = .ok (.ishl, 1) := by decide +kernel
theorem dX10_coldIn_39 : decode cX10_coldIn 39 = .ok (.ior, 1) := by decide +kernel
theorem dX10_coldIn_40 : decode cX10_coldIn 40 = .ok (.istore_n 2, 1) := by decide +kernel
theorem dX10_coldIn_41 : decode cX10_coldIn 41 = .ok (.iinc 3 1, 3) := by decide +kernel
theorem dX10_coldIn_44 : decode cX10_coldIn 44 = .ok (.goto (-40), 3) := by decide +kernel
theorem dX10_coldIn_47 : decode cX10_coldIn 47 = .ok (.iconst 0, 1) := by decide +kernel
theorem dX10_coldIn_48 : decode cX10_coldIn 48 = .ok (.istore_n 3, 1) := by decide +kernel
theorem dX10_coldIn_49 : decode cX10_coldIn 49 = .ok (.iconst 0, 1) := by decide +kernel
theorem dX10_coldIn_50 : decode cX10_coldIn 50 = .ok (.istore 4, 2) := by decide +kernel
theorem dX10_coldIn_52 : decode cX10_coldIn 52 = .ok (.iload 4, 2) := by decide +kernel
theorem dX10_coldIn_54 : decode cX10_coldIn 54 = .ok (.bipush 10, 2) := by decide +kernel
theorem dX10_coldIn_56 : decode cX10_coldIn 56 = .ok (.if_icmp .ge 32, 3) := by decide +kernel
theorem dX10_coldIn_59 : decode cX10_coldIn 59 = .ok (.iload_n 3, 1) := by decide +kernel
theorem dX10_coldIn_60 : decode cX10_coldIn 60 = .ok (.iload_n 2, 1) := by decide +kernel
theorem dX10_coldIn_61 : decode cX10_coldIn 61 = .ok (.iload 4, 2) := by decide +kernel
theorem dX10_coldIn_63 : decode cX10_coldIn 63 = .ok (.invokestatic 164, 3) := by decide +kernel
theorem dX10_coldIn_66 : decode cX10_coldIn 66 = .ok (.ifCond .eq 13, 3) := by decide +kernel
theorem dX10_coldIn_69 : decode cX10_coldIn 69 = .ok (.aload_n 0, 1) := by decide +kernel
theorem dX10_coldIn_70 : decode cX10_coldIn 70 = .ok (.getfield 25, 3) := by decide +kernel
theorem dX10_coldIn_73 : decode cX10_coldIn 73 = .ok (.iload 4, 2) := by decide +kernel
theorem dX10_coldIn_75 : decode cX10_coldIn 75 = .ok (.iaload, 1) := by decide +kernel
theorem dX10_coldIn_76 : decode cX10_coldIn 76 = .ok (.goto 4, 3) := by decide +kernel
theorem dX10_coldIn_79 : decode cX10_coldIn 79 = .ok (.iconst 0, 1) := by decide +kernel
theorem dX10_coldIn_80 : decode cX10_coldIn 80 = .ok (.iadd, 1) := by decide +kernel
theorem dX10_coldIn_81 : decode cX10_coldIn 81 = .ok (.istore_n 3, 1) := by decide +kernel
theorem dX10_coldIn_82 : decode cX10_coldIn 82 = .ok (.iinc 4 1, 3) := by decide +kernel
theorem dX10_coldIn_85 : decode cX10_coldIn 85 = .ok (.goto (-33), 3) := by decide +kernel
theorem dX10_coldIn_88 : decode cX10_coldIn 88 = .ok (.iload_n 3, 1) := by decide +kernel
theorem dX10_coldIn_89 : decode cX10_coldIn 89 = .ok (.ireturn, 1) := by decide +kernel
theorem dX10_laysWorths_0 : decode cX10_laysWorths 0 = .ok (.iconst 0, 1) := by decide +kernel
theorem dX10_laysWorths_1 : decode cX10_laysWorths 1 = .ok (.istore_n 2, 1) := by decide +kernel
theorem dX10_laysWorths_2 : decode cX10_laysWorths 2 = .ok (.iload_n 2, 1) := by decide +kernel
theorem dX10_laysWorths_3 : decode cX10_laysWorths 3 = .ok (.bipush 12, 2) := by decide +kernel
theorem dX10_laysWorths_5 : decode cX10_laysWorths 5 = .ok (.if_icmp .ge 110, 3) := by decide +kernel
theorem dX10_laysWorths_8 : decode cX10_laysWorths 8 = .ok (.aload_n 0, 1) := by decide +kernel
theorem dX10_laysWorths_9 : decode cX10_laysWorths 9 = .ok (.iload_n 2, 1) := by decide +kernel
theorem dX10_laysWorths_10 : decode cX10_laysWorths 10 = .ok (.invokevirtual 390, 3) := by decide +kernel
theorem dX10_laysWorths_13 : decode cX10_laysWorths 13 = .ok (.istore_n 3, 1) := by decide +kernel
theorem dX10_laysWorths_14 : decode cX10_laysWorths 14 = .ok (.iconst 0, 1) := by decide +kernel
theorem dX10_laysWorths_15 : decode cX10_laysWorths 15 = .ok (.istore 4, 2) := by decide +kernel
theorem dX10_laysWorths_17 : decode cX10_laysWorths 17 = .ok (.iload 4, 2) := by decide +kernel
theorem dX10_laysWorths_19 : decode cX10_laysWorths 19 = .ok (.iload_n 1, 1) := by decide +kernel
theorem dX10_laysWorths_20 : decode cX10_laysWorths 20 = .ok (.if_icmp .ge 89, 3) := by decide +kernel
theorem dX10_laysWorths_23 : decode cX10_laysWorths 23 = .ok (.iconst 0, 1) := by decide +kernel
theorem dX10_laysWorths_24 : decode cX10_laysWorths 24 = .ok (.istore 5, 2) := by decide +kernel
theorem dX10_laysWorths_26 : decode cX10_laysWorths 26 = .ok (.iload 5, 2) := by decide +kernel
theorem dX10_laysWorths_28 : decode cX10_laysWorths 28 = .ok (.bipush 12, 2) := by decide +kernel
theorem dX10_laysWorths_30 : decode cX10_laysWorths 30 = .ok (.if_icmp .ge 17, 3) := by decide +kernel
theorem dX10_laysWorths_33 : decode cX10_laysWorths 33 = .ok (.aload_n 0, 1) := by decide +kernel
theorem dX10_laysWorths_34 : decode cX10_laysWorths 34 = .ok (.getfield 99, 3) := by decide +kernel
theorem dX10_laysWorths_37 : decode cX10_laysWorths 37 = .ok (.iload 5, 2) := by decide +kernel
theorem dX10_laysWorths_39 : decode cX10_laysWorths 39 = .ok (.iconst 0, 1) := by decide +kernel
theorem dX10_laysWorths_40 : decode cX10_laysWorths 40 = .ok (.iastore, 1) := by decide +kernel
theorem dX10_laysWorths_41 : decode cX10_laysWorths 41 = .ok (.iinc 5 1, 3) := by decide +kernel
theorem dX10_laysWorths_44 : decode cX10_laysWorths 44 = .ok (.goto (-18), 3) := by decide +kernel
theorem dX10_laysWorths_47 : decode cX10_laysWorths 47 = .ok (.aload_n 0, 1) := by decide +kernel
theorem dX10_laysWorths_48 : decode cX10_laysWorths 48 = .ok (.getfield 99, 3) := by decide +kernel
theorem dX10_laysWorths_51 : decode cX10_laysWorths 51 = .ok (.iconst 0, 1) := by decide +kernel
theorem dX10_laysWorths_52 : decode cX10_laysWorths 52 = .ok (.iload_n 2, 1) := by decide +kernel
theorem dX10_laysWorths_53 : decode cX10_laysWorths 53 = .ok (.iastore, 1) := by decide +kernel
theorem dX10_laysWorths_54 : decode cX10_laysWorths 54 = .ok (.aload_n 0, 1) := by decide +kernel
theorem dX10_laysWorths_55 : decode cX10_laysWorths 55 = .ok (.getfield 99, 3) := by decide +kernel
theorem dX10_laysWorths_58 : decode cX10_laysWorths 58 = .ok (.iconst 2, 1) := by decide +kernel
theorem dX10_laysWorths_59 : decode cX10_laysWorths 59 = .ok (.aload_n 0, 1) := by decide +kernel
theorem dX10_laysWorths_60 : decode cX10_laysWorths 60 = .ok (.getfield 7, 3) := by decide +kernel
theorem dX10_laysWorths_63 : decode cX10_laysWorths 63 = .ok (.iload_n 2, 1) := by decide +kernel
theorem dX10_laysWorths_64 : decode cX10_laysWorths 64 = .ok (.iaload, 1) := by decide +kernel
theorem dX10_laysWorths_65 : decode cX10_laysWorths 65 = .ok (.iastore, 1) := by decide +kernel
theorem dX10_laysWorths_66 : decode cX10_laysWorths 66 = .ok (.aload_n 0, 1) := by decide +kernel
theorem dX10_laysWorths_67 : decode cX10_laysWorths 67 = .ok (.getfield 99, 3) := by decide +kernel
theorem dX10_laysWorths_70 : decode cX10_laysWorths 70 = .ok (.iconst 5, 1) := by decide +kernel
theorem dX10_laysWorths_71 : decode cX10_laysWorths 71 = .ok (.iload_n 3, 1) := by decide +kernel
theorem dX10_laysWorths_72 : decode cX10_laysWorths 72 = .ok (.iastore, 1) := by decide +kernel
theorem dX10_laysWorths_73 : decode cX10_laysWorths 73 = .ok (.aload_n 0, 1) := by decide +kernel
theorem dX10_laysWorths_74 : decode cX10_laysWorths 74 = .ok (.getfield 99, 3) := by decide +kernel
theorem dX10_laysWorths_77 : decode cX10_laysWorths 77 = .ok (.bipush 11, 2) := by decide +kernel
theorem dX10_laysWorths_79 : decode cX10_laysWorths 79 = .ok (.iload 4, 2) := by decide +kernel
theorem dX10_laysWorths_81 : decode cX10_laysWorths 81 = .ok (.iastore, 1) := by decide +kernel
theorem dX10_laysWorths_82 : decode cX10_laysWorths 82 = .ok (.aload_n 0, 1) := by decide +kernel
theorem dX10_laysWorths_83 : decode cX10_laysWorths 83 = .ok (.getfield 117, 3) := by decide +kernel
theorem dX10_laysWorths_86 : decode cX10_laysWorths 86 = .ok (.bipush 12, 2) := by decide +kernel
theorem dX10_laysWorths_88 : decode cX10_laysWorths 88 = .ok (.iload 4, 2) := by decide +kernel
theorem dX10_laysWorths_90 : decode cX10_laysWorths 90 = .ok (.imul, 1) := by decide +kernel
theorem dX10_laysWorths_91 : decode cX10_laysWorths 91 = .ok (.iload_n 2, 1) := by decide +kernel
theorem dX10_laysWorths_92 : decode cX10_laysWorths 92 = .ok (.iadd, 1) := by decide +kernel
theorem dX10_laysWorths_93 : decode cX10_laysWorths 93 = .ok (.aload_n 0, 1) := by decide +kernel
theorem dX10_laysWorths_94 : decode cX10_laysWorths 94 = .ok (.bipush 113, 2) := by decide +kernel
theorem dX10_laysWorths_96 : decode cX10_laysWorths 96 = .ok (.sipush 999, 3) := by decide +kernel
theorem dX10_laysWorths_99 : decode cX10_laysWorths 99 = .ok (.invokevirtual 333, 3) := by decide +kernel
theorem dX10_laysWorths_102 : decode cX10_laysWorths 102 = .ok (.iastore, 1) := by decide +kernel
theorem dX10_laysWorths_103 : decode cX10_laysWorths 103 = .ok (.iinc 4 1, 3) := by decide +kernel
theorem dX10_laysWorths_106 : decode cX10_laysWorths 106 = .ok (.goto (-89), 3) := by decide +kernel
theorem dX10_laysWorths_109 : decode cX10_laysWorths 109 = .ok (.iinc 2 1, 3) := by decide +kernel
theorem dX10_laysWorths_112 : decode cX10_laysWorths 112 = .ok (.goto (-110), 3) := by decide +kernel
theorem dX10_laysWorths_115 : decode cX10_laysWorths 115 = .ok (.return_, 1) := by decide +kernel
theorem dX10_lodgeBy_0 : decode cX10_lodgeBy 0 = .ok (.iload_n 2, 1) := by decide +kernel
theorem dX10_lodgeBy_1 : decode cX10_lodgeBy 1 = .ok (.bipush 12, 2) := by decide +kernel
theorem dX10_lodgeBy_3 : decode cX10_lodgeBy 3 = .ok (.if_icmp .ne 20, 3) := by decide +kernel
theorem dX10_lodgeBy_6 : decode cX10_lodgeBy 6 = .ok (.aload_n 0, 1) := by decide +kernel
theorem dX10_lodgeBy_7 : decode cX10_lodgeBy 7 = .ok (.getfield 121, 3) := by decide +kernel
theorem dX10_lodgeBy_10 : decode cX10_lodgeBy 10 = .ok (.sipush 4096, 3) := by decide +kernel
theorem dX10_lodgeBy_13 : decode cX10_lodgeBy 13 = .ok (.iload_n 1, 1) := by decide +kernel
theorem dX10_lodgeBy_14 : decode cX10_lodgeBy 14 = .ok (.iconst 1, 1) := by decide +kernel
theorem dX10_lodgeBy_15 : decode cX10_lodgeBy 15 = .ok (.iadd, 1) := by decide +kernel
theorem dX10_lodgeBy_16 : decode cX10_lodgeBy 16 = .ok (.imul, 1) := by decide +kernel
theorem dX10_lodgeBy_17 : decode cX10_lodgeBy 17 = .ok (.iload_n 3, 1) := by decide +kernel
theorem dX10_lodgeBy_18 : decode cX10_lodgeBy 18 = .ok (.iadd, 1) := by decide +kernel
theorem dX10_lodgeBy_19 : decode cX10_lodgeBy 19 = .ok (.iaload, 1) := by decide +kernel
theorem dX10_lodgeBy_20 : decode cX10_lodgeBy 20 = .ok (.goto 45, 3) := by decide +kernel
theorem dX10_lodgeBy_23 : decode cX10_lodgeBy 23 = .ok (.iload_n 3, 1) := by decide +kernel
theorem dX10_lodgeBy_24 : decode cX10_lodgeBy 24 = .ok (.iload_n 2, 1) := by decide +kernel
theorem dX10_lodgeBy_25 : decode cX10_lodgeBy 25 = .ok (.invokestatic 164, 3) := by decide +kernel
theorem dX10_lodgeBy_28 : decode cX10_lodgeBy 28 = .ok (.ifCond .eq 7, 3) := by decide +kernel
theorem dX10_lodgeBy_31 : decode cX10_lodgeBy 31 = .ok (.iconst (-1), 1) := by decide +kernel
theorem dX10_lodgeBy_32 : decode cX10_lodgeBy 32 = .ok (.goto 33, 3) := by decide +kernel
theorem dX10_lodgeBy_35 : decode cX10_lodgeBy 35 = .ok (.aload_n 0, 1) := by decide +kernel
theorem dX10_lodgeBy_36 : decode cX10_lodgeBy 36 = .ok (.getfield 117, 3) := by decide +kernel
theorem dX10_lodgeBy_39 : decode cX10_lodgeBy 39 = .ok (.bipush 12, 2) := by decide +kernel
theorem dX10_lodgeBy_41 : decode cX10_lodgeBy 41 = .ok (.iload_n 1, 1) := by decide +kernel
theorem dX10_lodgeBy_42 : decode cX10_lodgeBy 42 = .ok (.imul, 1) := by decide +kernel
theorem dX10_lodgeBy_43 : decode cX10_lodgeBy 43 = .ok (.iload_n 2, 1) := by decide +kernel
theorem dX10_lodgeBy_44 : decode cX10_lodgeBy 44 = .ok (.iadd, 1) := by decide +kernel
theorem dX10_lodgeBy_45 : decode cX10_lodgeBy 45 = .ok (.iaload, 1) := by decide +kernel
theorem dX10_lodgeBy_46 : decode cX10_lodgeBy 46 = .ok (.aload_n 0, 1) := by decide +kernel
theorem dX10_lodgeBy_47 : decode cX10_lodgeBy 47 = .ok (.getfield 121, 3) := by decide +kernel
theorem dX10_lodgeBy_50 : decode cX10_lodgeBy 50 = .ok (.sipush 4096, 3) := by decide +kernel
theorem dX10_lodgeBy_53 : decode cX10_lodgeBy 53 = .ok (.iload_n 1, 1) := by decide +kernel
theorem dX10_lodgeBy_54 : decode cX10_lodgeBy 54 = .ok (.iconst 1, 1) := by decide +kernel
theorem dX10_lodgeBy_55 : decode cX10_lodgeBy 55 = .ok (.iadd, 1) := by decide +kernel
theorem dX10_lodgeBy_56 : decode cX10_lodgeBy 56 = .ok (.imul, 1) := by decide +kernel
theorem dX10_lodgeBy_57 : decode cX10_lodgeBy 57 = .ok (.iload_n 3, 1) := by decide +kernel
theorem dX10_lodgeBy_58 : decode cX10_lodgeBy 58 = .ok (.iconst 1, 1) := by decide +kernel
theorem dX10_lodgeBy_59 : decode cX10_lodgeBy 59 = .ok (.iload_n 2, 1) := by decide +kernel
theorem dX10_lodgeBy_60 : decode cX10_lodgeBy 60 = .ok (.ishl, 1) := by decide +kernel
theorem dX10_lodgeBy_61 : decode cX10_lodgeBy 61 = .ok (.ior, 1) := by decide +kernel
theorem dX10_lodgeBy_62 : decode cX10_lodgeBy 62 = .ok (.iadd, 1) := by decide +kernel
theorem dX10_lodgeBy_63 : decode cX10_lodgeBy 63 = .ok (.iaload, 1) := by decide +kernel
theorem dX10_lodgeBy_64 : decode cX10_lodgeBy 64 = .ok (.iadd, 1) := by decide +kernel
theorem dX10_lodgeBy_65 : decode cX10_lodgeBy 65 = .ok (.ireturn, 1) := by decide +kernel
theorem dX10_laysJuly_0 : decode cX10_laysJuly 0 = .ok (.iconst 0, 1) := by decide +kernel
theorem dX10_laysJuly_1 : decode cX10_laysJuly 1 = .ok (.istore_n 2, 1) := by decide +kernel
theorem dX10_laysJuly_2 : decode cX10_laysJuly 2 = .ok (.iload_n 2, 1) := by decide +kernel
theorem dX10_laysJuly_3 : decode cX10_laysJuly 3 = .ok (.sipush 4096, 3) := by decide +kernel
theorem dX10_laysJuly_6 : decode cX10_laysJuly 6 = .ok (.if_icmp .ge 22, 3) := by decide +kernel
theorem dX10_laysJuly_9 : decode cX10_laysJuly 9 = .ok (.aload_n 0, 1) := by decide +kernel
theorem dX10_laysJuly_10 : decode cX10_laysJuly 10 = .ok (.getfield 121, 3) := by decide +kernel
theorem dX10_laysJuly_13 : decode cX10_laysJuly 13 = .ok (.sipush 4096, 3) := by decide +kernel
theorem dX10_laysJuly_16 : decode cX10_laysJuly 16 = .ok (.iload_n 1, 1) := by decide +kernel
theorem dX10_laysJuly_17 : decode cX10_laysJuly 17 = .ok (.imul, 1) := by decide +kernel
theorem dX10_laysJuly_18 : decode cX10_laysJuly 18 = .ok (.iload_n 2, 1) := by decide +kernel
theorem dX10_laysJuly_19 : decode cX10_laysJuly 19 = .ok (.iadd, 1) := by decide +kernel
theorem dX10_laysJuly_20 : decode cX10_laysJuly 20 = .ok (.iconst 0, 1) := by decide +kernel
theorem dX10_laysJuly_21 : decode cX10_laysJuly 21 = .ok (.iastore, 1) := by decide +kernel
theorem dX10_laysJuly_22 : decode cX10_laysJuly 22 = .ok (.iinc 2 1, 3) := by decide +kernel
theorem dX10_laysJuly_25 : decode cX10_laysJuly 25 = .ok (.goto (-23), 3) := by decide +kernel
theorem dX10_laysJuly_28 : decode cX10_laysJuly 28 = .ok (.iload_n 1, 1) := by decide +kernel
theorem dX10_laysJuly_29 : decode cX10_laysJuly 29 = .ok (.iconst 1, 1) := by decide +kernel
theorem dX10_laysJuly_30 : decode cX10_laysJuly 30 = .ok (.isub, 1) := by decide +kernel
theorem dX10_laysJuly_31 : decode cX10_laysJuly 31 = .ok (.istore_n 2, 1) := by decide +kernel
theorem dX10_laysJuly_32 : decode cX10_laysJuly 32 = .ok (.iload_n 2, 1) := by decide +kernel
theorem dX10_laysJuly_33 : decode cX10_laysJuly 33 = .ok (.ifCond .lt 85, 3) := by decide +kernel
theorem dX10_laysJuly_36 : decode cX10_laysJuly 36 = .ok (.iconst 0, 1) := by decide +kernel
theorem dX10_laysJuly_37 : decode cX10_laysJuly 37 = .ok (.istore_n 3, 1) := by decide +kernel
theorem dX10_laysJuly_38 : decode cX10_laysJuly 38 = .ok (.iload_n 3, 1) := by decide +kernel
theorem dX10_laysJuly_39 : decode cX10_laysJuly 39 = .ok (.sipush 4096, 3) := by decide +kernel
theorem dX10_laysJuly_42 : decode cX10_laysJuly 42 = .ok (.if_icmp .ge 70, 3) := by decide +kernel
theorem dX10_laysJuly_45 : decode cX10_laysJuly 45 = .ok (.iconst (-1), 1) := by decide +kernel
theorem dX10_laysJuly_46 : decode cX10_laysJuly 46 = .ok (.istore 4, 2) := by decide +kernel
theorem dX10_laysJuly_48 : decode cX10_laysJuly 48 = .ok (.iconst 0, 1) := by decide +kernel
theorem dX10_laysJuly_49 : decode cX10_laysJuly 49 = .ok (.istore 5, 2) := by decide +kernel
theorem dX10_laysJuly_51 : decode cX10_laysJuly 51 = .ok (.iload 5, 2) := by decide +kernel
theorem dX10_laysJuly_53 : decode cX10_laysJuly 53 = .ok (.bipush 12, 2) := by decide +kernel
theorem dX10_laysJuly_55 : decode cX10_laysJuly 55 = .ok (.if_icmp .gt 37, 3) := by decide +kernel
theorem dX10_laysJuly_58 : decode cX10_laysJuly 58 = .ok (.iload 4, 2) := by decide +kernel
theorem dX10_laysJuly_60 : decode cX10_laysJuly 60 = .ok (.aload_n 0, 1) := by decide +kernel
theorem dX10_laysJuly_61 : decode cX10_laysJuly 61 = .ok (.iload_n 2, 1) := by decide +kernel
theorem dX10_laysJuly_62 : decode cX10_laysJuly 62 = .ok (.iload 5, 2) := by decide +kernel
theorem dX10_laysJuly_64 : decode cX10_laysJuly 64 = .ok (.iload_n 3, 1) := by decide +kernel
theorem dX10_laysJuly_65 : decode cX10_laysJuly 65 = .ok (.invokevirtual 393, 3) := by decide +kernel
theorem dX10_laysJuly_68 : decode cX10_laysJuly 68 = .ok (.if_icmp .le 8, 3) := by decide +kernel
theorem dX10_laysJuly_71 : decode cX10_laysJuly 71 = .ok (.iload 4, 2) := by decide +kernel
theorem dX10_laysJuly_73 : decode cX10_laysJuly 73 = .ok (.goto 11, 3) := by decide +kernel
theorem dX10_laysJuly_76 : decode cX10_laysJuly 76 = .ok (.aload_n 0, 1) := by decide +kernel
theorem dX10_laysJuly_77 : decode cX10_laysJuly 77 = .ok (.iload_n 2, 1) := by decide +kernel
theorem dX10_laysJuly_78 : decode cX10_laysJuly 78 = .ok (.iload 5, 2) := by decide +kernel
theorem dX10_laysJuly_80 : decode cX10_laysJuly 80 = .ok (.iload_n 3, 1) := by decide +kernel
theorem dX10_laysJuly_81 : decode cX10_laysJuly 81 = .ok (.invokevirtual 393, 3) := by decide +kernel
theorem dX10_laysJuly_84 : decode cX10_laysJuly 84 = .ok (.istore 4, 2) := by decide +kernel
theorem dX10_laysJuly_86 : decode cX10_laysJuly 86 = .ok (.iinc 5 1, 3) := by decide +kernel
theorem dX10_laysJuly_89 : decode cX10_laysJuly 89 = .ok (.goto (-38), 3) := by decide +kernel
theorem dX10_laysJuly_92 : decode cX10_laysJuly 92 = .ok (.aload_n 0, 1) := by decide +kernel
theorem dX10_laysJuly_93 : decode cX10_laysJuly 93 = .ok (.getfield 121, 3) := by decide +kernel
theorem dX10_laysJuly_96 : decode cX10_laysJuly 96 = .ok (.sipush 4096, 3) := by decide +kernel
theorem dX10_laysJuly_99 : decode cX10_laysJuly 99 = .ok (.iload_n 2, 1) := by decide +kernel
theorem dX10_laysJuly_100 : decode cX10_laysJuly 100 = .ok (.imul, 1) := by decide +kernel
theorem dX10_laysJuly_101 : decode cX10_laysJuly 101 = .ok (.iload_n 3, 1) := by decide +kernel
theorem dX10_laysJuly_102 : decode cX10_laysJuly 102 = .ok (.iadd, 1) := by decide +kernel
theorem dX10_laysJuly_103 : decode cX10_laysJuly 103 = .ok (.iload 4, 2) := by decide +kernel
theorem dX10_laysJuly_105 : decode cX10_laysJuly 105 = .ok (.iastore, 1) := by decide +kernel
theorem dX10_laysJuly_106 : decode cX10_laysJuly 106 = .ok (.iinc 3 1, 3) := by decide +kernel
theorem dX10_laysJuly_109 : decode cX10_laysJuly 109 = .ok (.goto (-71), 3) := by decide +kernel
theorem dX10_laysJuly_112 : decode cX10_laysJuly 112 = .ok (.iinc 2 (-1), 3) := by decide +kernel
theorem dX10_laysJuly_115 : decode cX10_laysJuly 115 = .ok (.goto (-83), 3) := by decide +kernel
theorem dX10_laysJuly_118 : decode cX10_laysJuly 118 = .ok (.return_, 1) := by decide +kernel
theorem dX10_july_0 : decode cX10_july 0 = .ok (.iload_n 1, 1) := by decide +kernel
theorem dX10_july_1 : decode cX10_july 1 = .ok (.iconst 1, 1) := by decide +kernel
theorem dX10_july_2 : decode cX10_july 2 = .ok (.bipush 8, 2) := by decide +kernel
theorem dX10_july_4 : decode cX10_july 4 = .ok (.invokestatic 175, 3) := by decide +kernel
theorem dX10_july_7 : decode cX10_july 7 = .ok (.ifCond .ne 5, 3) := by decide +kernel
theorem dX10_july_10 : decode cX10_july 10 = .ok (.iconst (-1), 1) := by decide +kernel
theorem dX10_july_11 : decode cX10_july 11 = .ok (.ireturn, 1) := by decide +kernel
theorem dX10_july_12 : decode cX10_july 12 = .ok (.iload_n 2, 1) := by decide +kernel
theorem dX10_july_13 : decode cX10_july 13 = .ok (.iconst (-1), 1) := by decide +kernel
theorem dX10_july_14 : decode cX10_july 14 = .ok (.iload_n 1, 1) := by decide +kernel
theorem dX10_july_15 : decode cX10_july 15 = .ok (.iconst 1, 1) := by decide +kernel
theorem dX10_july_16 : decode cX10_july 16 = .ok (.isub, 1) := by decide +kernel
theorem dX10_july_17 : decode cX10_july 17 = .ok (.invokestatic 175, 3) := by decide +kernel
theorem dX10_july_20 : decode cX10_july 20 = .ok (.ifCond .ne 6, 3) := by decide +kernel
theorem dX10_july_23 : decode cX10_july 23 = .ok (.bipush (-2), 2) := by decide +kernel
theorem dX10_july_25 : decode cX10_july 25 = .ok (.ireturn, 1) := by decide +kernel
theorem dX10_july_26 : decode cX10_july 26 = .ok (.aload_n 0, 1) := by decide +kernel
theorem dX10_july_27 : decode cX10_july 27 = .ok (.iload_n 1, 1) := by decide +kernel
theorem dX10_july_28 : decode cX10_july 28 = .ok (.invokevirtual 396, 3) := by decide +kernel
theorem dX10_july_31 : decode cX10_july 31 = .ok (.aload_n 0, 1) := by decide +kernel
theorem dX10_july_32 : decode cX10_july 32 = .ok (.iload_n 1, 1) := by decide +kernel
theorem dX10_july_33 : decode cX10_july 33 = .ok (.invokevirtual 399, 3) := by decide +kernel
theorem dX10_july_36 : decode cX10_july 36 = .ok (.iload_n 2, 1) := by decide +kernel
theorem dX10_july_37 : decode cX10_july 37 = .ok (.iconst (-1), 1) := by decide +kernel
theorem dX10_july_38 : decode cX10_july 38 = .ok (.if_icmp .ne 10, 3) := by decide +kernel
theorem dX10_july_41 : decode cX10_july 41 = .ok (.aload_n 0, 1) := by decide +kernel
theorem dX10_july_42 : decode cX10_july 42 = .ok (.getfield 121, 3) := by decide +kernel
theorem dX10_july_45 : decode cX10_july 45 = .ok (.iconst 0, 1) := by decide +kernel
theorem dX10_july_46 : decode cX10_july 46 = .ok (.iaload, 1) := by decide +kernel
theorem dX10_july_47 : decode cX10_july 47 = .ok (.ireturn, 1) := by decide +kernel
theorem dX10_july_48 : decode cX10_july 48 = .ok (.iconst 0, 1) := by decide +kernel
theorem dX10_july_49 : decode cX10_july 49 = .ok (.istore_n 3, 1) := by decide +kernel
theorem dX10_july_50 : decode cX10_july 50 = .ok (.iconst 0, 1) := by decide +kernel
theorem dX10_july_51 : decode cX10_july 51 = .ok (.istore 4, 2) := by decide +kernel
theorem dX10_july_53 : decode cX10_july 53 = .ok (.iconst 0, 1) := by decide +kernel
theorem dX10_july_54 : decode cX10_july 54 = .ok (.istore 5, 2) := by decide +kernel
theorem dX10_july_56 : decode cX10_july 56 = .ok (.iload 5, 2) := by decide +kernel
theorem dX10_july_58 : decode cX10_july 58 = .ok (.iload_n 2, 1) := by decide +kernel
theorem dX10_july_59 : decode cX10_july 59 = .ok (.if_icmp .gt 64, 3) := by decide +kernel
theorem dX10_july_62 : decode cX10_july 62 = .ok (.iconst 0, 1) := by decide +kernel
theorem dX10_july_63 : decode cX10_july 63 = .ok (.istore 4, 2) := by decide +kernel
theorem dX10_july_65 : decode cX10_july 65 = .ok (.aload_n 0, 1) := by decide +kernel
theorem dX10_july_66 : decode cX10_july 66 = .ok (.iload 5, 2) := by decide +kernel
theorem dX10_july_68 : decode cX10_july 68 = .ok (.iload 4, 2) := by decide +kernel
theorem dX10_july_70 : decode cX10_july 70 = .ok (.iload_n 3, 1) := by decide +kernel
theorem dX10_july_71 : decode cX10_july 71 = .ok (.invokevirtual 393, 3) := by decide +kernel
theorem dX10_july_74 : decode cX10_july 74 = .ok (.aload_n 0, 1) := by decide +kernel
theorem dX10_july_75 : decode cX10_july 75 = .ok (.getfield 121, 3) := by decide +kernel
theorem dX10_july_78 : decode cX10_july 78 = .ok (.sipush 4096, 3) := by decide +kernel
theorem dX10_july_81 : decode cX10_july 81 = .ok (.iload 5, 2) := by decide +kernel
theorem dX10_july_83 : decode cX10_july 83 = .ok (.imul, 1) := by decide +kernel
theorem dX10_july_84 : decode cX10_july 84 = .ok (.iload_n 3, 1) := by decide +kernel
theorem dX10_july_85 : decode cX10_july 85 = .ok (.iadd, 1) := by decide +kernel
theorem dX10_july_86 : decode cX10_july 86 = .ok (.iaload, 1) := by decide +kernel
theorem dX10_july_87 : decode cX10_july 87 = .ok (.if_icmp .eq 12, 3) := by decide +kernel
theorem dX10_july_90 : decode cX10_july 90 = .ok (.iload 4, 2) := by decide +kernel
theorem dX10_july_92 : decode cX10_july 92 = .ok (.iconst 1, 1) := by decide +kernel
theorem dX10_july_93 : decode cX10_july 93 = .ok (.iadd, 1) := by decide +kernel
theorem dX10_july_94 : decode cX10_july 94 = .ok (.istore 4, 2) := by decide +kernel
theorem dX10_july_96 : decode cX10_july 96 = .ok (.goto (-31), 3) := by decide +kernel
theorem dX10_july_99 : decode cX10_july 99 = .ok (.iload 4, 2) := by decide +kernel
theorem dX10_july_101 : decode cX10_july 101 = .ok (.bipush 12, 2) := by decide +kernel
theorem dX10_july_103 : decode cX10_july 103 = .ok (.if_icmp .ne 7, 3) := by decide +kernel
theorem dX10_july_106 : decode cX10_july 106 = .ok (.iload_n 3, 1) := by decide +kernel
theorem dX10_july_107 : decode cX10_july 107 = .ok (.goto 9, 3) := by decide +kernel
theorem dX10_july_110 : decode cX10_july 110 = .ok (.iload_n 3, 1) := by decide +kernel
theorem dX10_july_111 : decode cX10_july 111 = .ok (.iconst 1, 1) := by decide +kernel
theorem dX10_july_112 : decode cX10_july 112 = .ok (.iload 4, 2) := by decide +kernel
theorem dX10_july_114 : decode cX10_july 114 = .ok (.ishl, 1) := by decide +kernel
theorem dX10_july_115 : decode cX10_july 115 = .ok (.ior, 1) := by decide +kernel
theorem dX10_july_116 : decode cX10_july 116 = .ok (.istore_n 3, 1) := by decide +kernel
theorem dX10_july_117 : decode cX10_july 117 = .ok (.iinc 5 1, 3) := by decide +kernel
theorem dX10_july_120 : decode cX10_july 120 = .ok (.goto (-64), 3) := by decide +kernel
theorem dX10_july_123 : decode cX10_july 123 = .ok (.iload 4, 2) := by decide +kernel
theorem dX10_july_125 : decode cX10_july 125 = .ok (.ireturn, 1) := by decide +kernel
theorem dX10_off_0 : decode cX10_off 0 = .ok (.aload_n 0, 1) := by decide +kernel
theorem dX10_off_1 : decode cX10_off 1 = .ok (.getfield 168, 3) := by decide +kernel
theorem dX10_off_4 : decode cX10_off 4 = .ok (.invokestatic 387, 3) := by decide +kernel
theorem dX10_off_7 : decode cX10_off 7 = .ok (.istore 4, 2) := by decide +kernel
theorem dX10_off_9 : decode cX10_off 9 = .ok (.iload_n 1, 1) := by decide +kernel
theorem dX10_off_10 : decode cX10_off 10 = .ok (.iconst 1, 1) := by decide +kernel
theorem dX10_off_11 : decode cX10_off 11 = .ok (.iload 4, 2) := by decide +kernel
theorem dX10_off_13 : decode cX10_off 13 = .ok (.invokestatic 175, 3) := by decide +kernel
theorem dX10_off_16 : decode cX10_off 16 = .ok (.ifCond .eq 22, 3) := by decide +kernel
theorem dX10_off_19 : decode cX10_off 19 = .ok (.iload_n 2, 1) := by decide +kernel
theorem dX10_off_20 : decode cX10_off 20 = .ok (.iconst 1, 1) := by decide +kernel
theorem dX10_off_21 : decode cX10_off 21 = .ok (.sipush 366, 3) := by decide +kernel
theorem dX10_off_24 : decode cX10_off 24 = .ok (.invokestatic 175, 3) := by decide +kernel
theorem dX10_off_27 : decode cX10_off 27 = .ok (.ifCond .eq 11, 3) := by decide +kernel
theorem dX10_off_30 : decode cX10_off 30 = .ok (.aload_n 0, 1) := by decide +kernel
theorem dX10_off_31 : decode cX10_off 31 = .ok (.iload_n 3, 1) := by decide +kernel
theorem dX10_off_32 : decode cX10_off 32 = .ok (.invokevirtual 236, 3) := by decide +kernel
theorem dX10_off_35 : decode cX10_off 35 = .ok (.ifCond .ne 5, 3) := by decide +kernel
theorem dX10_off_38 : decode cX10_off 38 = .ok (.iconst (-1), 1) := by decide +kernel
theorem dX10_off_39 : decode cX10_off 39 = .ok (.ireturn, 1) := by decide +kernel
theorem dX10_off_40 : decode cX10_off 40 = .ok (.iconst 0, 1) := by decide +kernel
theorem dX10_off_41 : decode cX10_off 41 = .ok (.istore 5, 2) := by decide +kernel
theorem dX10_off_43 : decode cX10_off 43 = .ok (.iconst 0, 1) := by decide +kernel
theorem dX10_off_44 : decode cX10_off 44 = .ok (.istore 6, 2) := by decide +kernel
theorem dX10_off_46 : decode cX10_off 46 = .ok (.iconst 0, 1) := by decide +kernel
theorem dX10_off_47 : decode cX10_off 47 = .ok (.istore 7, 2) := by decide +kernel
theorem dX10_off_49 : decode cX10_off 49 = .ok (.iload 7, 2) := by decide +kernel
theorem dX10_off_51 : decode cX10_off 51 = .ok (.bipush 10, 2) := by decide +kernel
theorem dX10_off_53 : decode cX10_off 53 = .ok (.if_icmp .ge 68, 3) := by decide +kernel
theorem dX10_off_56 : decode cX10_off 56 = .ok (.iload 5, 2) := by decide +kernel
theorem dX10_off_58 : decode cX10_off 58 = .ok (.iload_n 1, 1) := by decide +kernel
theorem dX10_off_59 : decode cX10_off 59 = .ok (.if_icmp .ge 62, 3) := by decide +kernel
theorem dX10_off_62 : decode cX10_off 62 = .ok (.aload_n 0, 1) := by decide +kernel
theorem dX10_off_63 : decode cX10_off 63 = .ok (.iload 7, 2) := by decide +kernel
theorem dX10_off_65 : decode cX10_off 65 = .ok (.invokevirtual 236, 3) := by decide +kernel
theorem dX10_off_68 : decode cX10_off 68 = .ok (.ifCond .ne 6, 3) := by decide +kernel
theorem dX10_off_71 : decode cX10_off 71 = .ok (.goto 44, 3) := by decide +kernel
theorem dX10_off_74 : decode cX10_off 74 = .ok (.aload_n 0, 1) := by decide +kernel
theorem dX10_off_75 : decode cX10_off 75 = .ok (.getfield 127, 3) := by decide +kernel
theorem dX10_off_78 : decode cX10_off 78 = .ok (.iload 5, 2) := by decide +kernel
theorem dX10_off_80 : decode cX10_off 80 = .ok (.iload 7, 2) := by decide +kernel
theorem dX10_off_82 : decode cX10_off 82 = .ok (.iastore, 1) := by decide +kernel
theorem dX10_off_83 : decode cX10_off 83 = .ok (.aload_n 0, 1) := by decide +kernel
theorem dX10_off_84 : decode cX10_off 84 = .ok (.getfield 124, 3) := by decide +kernel
theorem dX10_off_87 : decode cX10_off 87 = .ok (.iload 5, 2) := by decide +kernel
theorem dX10_off_89 : decode cX10_off 89 = .ok (.iconst 0, 1) := by decide +kernel
theorem dX10_off_90 : decode cX10_off 90 = .ok (.iastore, 1) := by decide +kernel
theorem dX10_off_91 : decode cX10_off 91 = .ok (.iload 6, 2) := by decide +kernel
theorem dX10_off_93 : decode cX10_off 93 = .ok (.ifCond .ne 9, 3) := by decide +kernel
theorem dX10_off_96 : decode cX10_off 96 = .ok (.iload 7, 2) := by decide +kernel
theorem dX10_off_98 : decode cX10_off 98 = .ok (.iload_n 3, 1) := by decide +kernel
theorem dX10_off_99 : decode cX10_off 99 = .ok (.if_icmp .ne 7, 3) := by decide +kernel
theorem dX10_off_102 : decode cX10_off 102 = .ok (.iconst 1, 1) := by decide +kernel
theorem dX10_off_103 : decode cX10_off 103 = .ok (.goto 4, 3) := by decide +kernel
theorem dX10_off_106 : decode cX10_off 106 = .ok (.iconst 0, 1) := by decide +kernel
theorem dX10_off_107 : decode cX10_off 107 = .ok (.istore 6, 2) := by decide +kernel
theorem dX10_off_109 : decode cX10_off 109 = .ok (.iload 5, 2) := by decide +kernel
theorem dX10_off_111 : decode cX10_off 111 = .ok (.iconst 1, 1) := by decide +kernel
theorem dX10_off_112 : decode cX10_off 112 = .ok (.iadd, 1) := by decide +kernel
theorem dX10_off_113 : decode cX10_off 113 = .ok (.istore 5, 2) := by decide +kernel
theorem dX10_off_115 : decode cX10_off 115 = .ok (.iinc 7 1, 3) := by decide +kernel
theorem dX10_off_118 : decode cX10_off 118 = .ok (.goto (-69), 3) := by decide +kernel
theorem dX10_off_121 : decode cX10_off 121 = .ok (.iload 6, 2) := by decide +kernel
theorem dX10_off_123 : decode cX10_off 123 = .ok (.ifCond .ne 6, 3) := by decide +kernel
theorem dX10_off_126 : decode cX10_off 126 = .ok (.bipush (-2), 2) := by decide +kernel
theorem dX10_off_128 : decode cX10_off 128 = .ok (.ireturn, 1) := by decide +kernel
theorem dX10_off_129 : decode cX10_off 129 = .ok (.iconst 0, 1) := by decide +kernel
theorem dX10_off_130 : decode cX10_off 130 = .ok (.istore 7, 2) := by decide +kernel
theorem dX10_off_132 : decode cX10_off 132 = .ok (.iload 7, 2) := by decide +kernel
theorem dX10_off_134 : decode cX10_off 134 = .ok (.iload_n 2, 1) := by decide +kernel
theorem dX10_off_135 : decode cX10_off 135 = .ok (.if_icmp .ge 94, 3) := by decide +kernel
theorem dX10_off_138 : decode cX10_off 138 = .ok (.iconst 0, 1) := by decide +kernel
theorem dX10_off_139 : decode cX10_off 139 = .ok (.istore 8, 2) := by decide +kernel
theorem dX10_off_141 : decode cX10_off 141 = .ok (.iconst 1, 1) := by decide +kernel
theorem dX10_off_142 : decode cX10_off 142 = .ok (.istore 9, 2) := by decide +kernel
theorem dX10_off_144 : decode cX10_off 144 = .ok (.iload 9, 2) := by decide +kernel
theorem dX10_off_146 : decode cX10_off 146 = .ok (.iload_n 1, 1) := by decide +kernel
theorem dX10_off_147 : decode cX10_off 147 = .ok (.if_icmp .ge 60, 3) := by decide +kernel
theorem dX10_off_150 : decode cX10_off 150 = .ok (.aload_n 0, 1) := by decide +kernel
theorem dX10_off_151 : decode cX10_off 151 = .ok (.getfield 28, 3) := by decide +kernel
theorem dX10_off_154 : decode cX10_off 154 = .ok (.aload_n 0, 1) := by decide +kernel
theorem dX10_off_155 : decode cX10_off 155 = .ok (.getfield 127, 3) := by decide +kernel
theorem dX10_off_158 : decode cX10_off 158 = .ok (.iload 9, 2) := by decide +kernel
theorem dX10_off_160 : decode cX10_off 160 = .ok (.iaload, 1) := by decide +kernel
theorem dX10_off_161 : decode cX10_off 161 = .ok (.iaload, 1) := by decide +kernel
theorem dX10_off_162 : decode cX10_off 162 = .ok (.aload_n 0, 1) := by decide +kernel
theorem dX10_off_163 : decode cX10_off 163 = .ok (.getfield 124, 3) := by decide +kernel
theorem dX10_off_166 : decode cX10_off 166 = .ok (.iload 8, 2) := by decide +kernel
theorem dX10_off_168 : decode cX10_off 168 = .ok (.iaload, 1) := by decide +kernel
theorem dX10_off_169 : decode cX10_off 169 = .ok (.iconst 1, 1) := by decide +kernel
theorem dX10_off_170 : decode cX10_off 170 = .ok (.iadd, 1) := by decide +kernel
theorem dX10_off_171 : decode cX10_off 171 = .ok (.imul, 1) := by decide +kernel
theorem dX10_off_172 : decode cX10_off 172 = .ok (.aload_n 0, 1) := by decide +kernel
theorem dX10_off_173 : decode cX10_off 173 = .ok (.getfield 28, 3) := by decide +kernel
theorem dX10_off_176 : decode cX10_off 176 = .ok (.aload_n 0, 1) := by decide +kernel
theorem dX10_off_177 : decode cX10_off 177 = .ok (.getfield 127, 3) := by decide +kernel
theorem dX10_off_180 : decode cX10_off 180 = .ok (.iload 8, 2) := by decide +kernel
theorem dX10_off_182 : decode cX10_off 182 = .ok (.iaload, 1) := by decide +kernel
theorem dX10_off_183 : decode cX10_off 183 = .ok (.iaload, 1) := by decide +kernel
theorem dX10_off_184 : decode cX10_off 184 = .ok (.aload_n 0, 1) := by decide +kernel
theorem dX10_off_185 : decode cX10_off 185 = .ok (.getfield 124, 3) := by decide +kernel
theorem dX10_off_188 : decode cX10_off 188 = .ok (.iload 9, 2) := by decide +kernel
theorem dX10_off_190 : decode cX10_off 190 = .ok (.iaload, 1) := by decide +kernel
theorem dX10_off_191 : decode cX10_off 191 = .ok (.iconst 1, 1) := by decide +kernel
theorem dX10_off_192 : decode cX10_off 192 = .ok (.iadd, 1) := by decide +kernel
theorem dX10_off_193 : decode cX10_off 193 = .ok (.imul, 1) := by decide +kernel
theorem dX10_off_194 : decode cX10_off 194 = .ok (.if_icmp .le 7, 3) := by decide +kernel
theorem dX10_off_197 : decode cX10_off 197 = .ok (.iload 9, 2) := by decide +kernel
theorem dX10_off_199 : decode cX10_off 199 = .ok (.istore 8, 2) := by decide +kernel
theorem dX10_off_201 : decode cX10_off 201 = .ok (.iinc 9 1, 3) := by decide +kernel
theorem dX10_off_204 : decode cX10_off 204 = .ok (.goto (-60), 3) := by decide +kernel
theorem dX10_off_207 : decode cX10_off 207 = .ok (.aload_n 0, 1) := by decide +kernel
theorem dX10_off_208 : decode cX10_off 208 = .ok (.getfield 124, 3) := by decide +kernel
theorem dX10_off_211 : decode cX10_off 211 = .ok (.iload 8, 2) := by decide +kernel
theorem dX10_off_213 : decode cX10_off 213 = .ok (.aload_n 0, 1) := by decide +kernel
theorem dX10_off_214 : decode cX10_off 214 = .ok (.getfield 124, 3) := by decide +kernel
theorem dX10_off_217 : decode cX10_off 217 = .ok (.iload 8, 2) := by decide +kernel
theorem dX10_off_219 : decode cX10_off 219 = .ok (.iaload, 1) := by decide +kernel
theorem dX10_off_220 : decode cX10_off 220 = .ok (.iconst 1, 1) := by decide +kernel
theorem dX10_off_221 : decode cX10_off 221 = .ok (.iadd, 1) := by decide +kernel
theorem dX10_off_222 : decode cX10_off 222 = .ok (.iastore, 1) := by decide +kernel
theorem dX10_off_223 : decode cX10_off 223 = .ok (.iinc 7 1, 3) := by decide +kernel
theorem dX10_off_226 : decode cX10_off 226 = .ok (.goto (-94), 3) := by decide +kernel
theorem dX10_off_229 : decode cX10_off 229 = .ok (.iconst 0, 1) := by decide +kernel
theorem dX10_off_230 : decode cX10_off 230 = .ok (.istore 7, 2) := by decide +kernel
theorem dX10_off_232 : decode cX10_off 232 = .ok (.iconst 0, 1) := by decide +kernel
theorem dX10_off_233 : decode cX10_off 233 = .ok (.istore 8, 2) := by decide +kernel
theorem dX10_off_235 : decode cX10_off 235 = .ok (.iload 8, 2) := by decide +kernel
theorem dX10_off_237 : decode cX10_off 237 = .ok (.iload_n 1, 1) := by decide +kernel
theorem dX10_off_238 : decode cX10_off 238 = .ok (.if_icmp .ge 29, 3) := by decide +kernel
theorem dX10_off_241 : decode cX10_off 241 = .ok (.aload_n 0, 1) := by decide +kernel
theorem dX10_off_242 : decode cX10_off 242 = .ok (.getfield 127, 3) := by decide +kernel
theorem dX10_off_245 : decode cX10_off 245 = .ok (.iload 8, 2) := by decide +kernel
theorem dX10_off_247 : decode cX10_off 247 = .ok (.iaload, 1) := by decide +kernel
theorem dX10_off_248 : decode cX10_off 248 = .ok (.iload_n 3, 1) := by decide +kernel
theorem dX10_off_249 : decode cX10_off 249 = .ok (.if_icmp .ne 12, 3) := by decide +kernel
theorem dX10_off_252 : decode cX10_off 252 = .ok (.aload_n 0, 1) := by decide +kernel
theorem dX10_off_253 : decode cX10_off 253 = .ok (.getfield 124, 3) := by decide +kernel
theorem dX10_off_256 : decode cX10_off 256 = .ok (.iload 8, 2) := by decide +kernel
theorem dX10_off_258 : decode cX10_off 258 = .ok (.iaload, 1) := by decide +kernel
theorem dX10_off_259 : decode cX10_off 259 = .ok (.istore 7, 2) := by decide +kernel
theorem dX10_off_261 : decode cX10_off 261 = .ok (.iinc 8 1, 3) := by decide +kernel
theorem dX10_off_264 : decode cX10_off 264 = .ok (.goto (-29), 3) := by decide +kernel
theorem dX10_off_267 : decode cX10_off 267 = .ok (.iload 7, 2) := by decide +kernel
theorem dX10_off_269 : decode cX10_off 269 = .ok (.ireturn, 1) := by decide +kernel
theorem dX10_gain0_0 : decode cX10_gain0 0 = .ok (.iload_n 1, 1) := by decide +kernel
theorem dX10_gain0_1 : decode cX10_gain0 1 = .ok (.iload_n 2, 1) := by decide +kernel
theorem dX10_gain0_2 : decode cX10_gain0 2 = .ok (.if_icmp .lt 9, 3) := by decide +kernel
theorem dX10_gain0_5 : decode cX10_gain0 5 = .ok (.iload_n 0, 1) := by decide +kernel
theorem dX10_gain0_6 : decode cX10_gain0 6 = .ok (.iload_n 1, 1) := by decide +kernel
theorem dX10_gain0_7 : decode cX10_gain0 7 = .ok (.isub, 1) := by decide +kernel
theorem dX10_gain0_8 : decode cX10_gain0 8 = .ok (.goto 4, 3) := by decide +kernel
theorem dX10_gain0_11 : decode cX10_gain0 11 = .ok (.iconst 0, 1) := by decide +kernel
theorem dX10_gain0_12 : decode cX10_gain0 12 = .ok (.ireturn, 1) := by decide +kernel
theorem dX10_gain1_0 : decode cX10_gain1 0 = .ok (.iload_n 1, 1) := by decide +kernel
theorem dX10_gain1_1 : decode cX10_gain1 1 = .ok (.iload_n 2, 1) := by decide +kernel
theorem dX10_gain1_2 : decode cX10_gain1 2 = .ok (.if_icmp .lt 7, 3) := by decide +kernel
theorem dX10_gain1_5 : decode cX10_gain1 5 = .ok (.iconst 0, 1) := by decide +kernel
theorem dX10_gain1_6 : decode cX10_gain1 6 = .ok (.goto 6, 3) := by decide +kernel
theorem dX10_gain1_9 : decode cX10_gain1 9 = .ok (.iload_n 0, 1) := by decide +kernel
theorem dX10_gain1_10 : decode cX10_gain1 10 = .ok (.iload_n 2, 1) := by decide +kernel
theorem dX10_gain1_11 : decode cX10_gain1 11 = .ok (.isub, 1) := by decide +kernel
theorem dX10_gain1_12 : decode cX10_gain1 12 = .ok (.ireturn, 1) := by decide +kernel
theorem dX10_rests_0 : decode cX10_rests 0 = .ok (.iconst 1, 1) := by decide +kernel
theorem dX10_rests_1 : decode cX10_rests 1 = .ok (.istore 4, 2) := by decide +kernel
theorem dX10_rests_3 : decode cX10_rests 3 = .ok (.iload 4, 2) := by decide +kernel
theorem dX10_rests_5 : decode cX10_rests 5 = .ok (.bipush 10, 2) := by decide +kernel
theorem dX10_rests_7 : decode cX10_rests 7 = .ok (.if_icmp .ge 43, 3) := by decide +kernel
theorem dX10_rests_10 : decode cX10_rests 10 = .ok (.iload_n 0, 1) := by decide +kernel
theorem dX10_rests_11 : decode cX10_rests 11 = .ok (.iload 4, 2) := by decide +kernel
theorem dX10_rests_13 : decode cX10_rests 13 = .ok (.iload_n 3, 1) := by decide +kernel
theorem dX10_rests_14 : decode cX10_rests 14 = .ok (.invokestatic 402, 3) := by decide +kernel
theorem dX10_rests_17 : decode cX10_rests 17 = .ok (.iload_n 0, 1) := by decide +kernel
theorem dX10_rests_18 : decode cX10_rests 18 = .ok (.iload_n 2, 1) := by decide +kernel
theorem dX10_rests_19 : decode cX10_rests 19 = .ok (.iload_n 3, 1) := by decide +kernel
theorem dX10_rests_20 : decode cX10_rests 20 = .ok (.invokestatic 402, 3) := by decide +kernel
theorem dX10_rests_23 : decode cX10_rests 23 = .ok (.if_icmp .gt 19, 3) := by decide +kernel
theorem dX10_rests_26 : decode cX10_rests 26 = .ok (.iload_n 1, 1) := by decide +kernel
theorem dX10_rests_27 : decode cX10_rests 27 = .ok (.iload_n 2, 1) := by decide +kernel
theorem dX10_rests_28 : decode cX10_rests 28 = .ok (.iload 4, 2) := by decide +kernel
theorem dX10_rests_30 : decode cX10_rests 30 = .ok (.invokestatic 405, 3) := by decide +kernel
theorem dX10_rests_33 : decode cX10_rests 33 = .ok (.iload_n 1, 1) := by decide +kernel
theorem dX10_rests_34 : decode cX10_rests 34 = .ok (.iload_n 2, 1) := by decide +kernel
theorem dX10_rests_35 : decode cX10_rests 35 = .ok (.iload_n 3, 1) := by decide +kernel
theorem dX10_rests_36 : decode cX10_rests 36 = .ok (.invokestatic 405, 3) := by decide +kernel
theorem dX10_rests_39 : decode cX10_rests 39 = .ok (.if_icmp .le 5, 3) := by decide +kernel
theorem dX10_rests_42 : decode cX10_rests 42 = .ok (.iconst 0, 1) := by decide +kernel
theorem dX10_rests_43 : decode cX10_rests 43 = .ok (.ireturn, 1) := by decide +kernel
theorem dX10_rests_44 : decode cX10_rests 44 = .ok (.iinc 4 1, 3) := by decide +kernel
theorem dX10_rests_47 : decode cX10_rests 47 = .ok (.goto (-44), 3) := by decide +kernel
theorem dX10_rests_50 : decode cX10_rests 50 = .ok (.iconst 1, 1) := by decide +kernel
theorem dX10_rests_51 : decode cX10_rests 51 = .ok (.ireturn, 1) := by decide +kernel
theorem dX10_bids_0 : decode cX10_bids 0 = .ok (.iload_n 1, 1) := by decide +kernel
theorem dX10_bids_1 : decode cX10_bids 1 = .ok (.iconst 0, 1) := by decide +kernel
theorem dX10_bids_2 : decode cX10_bids 2 = .ok (.bipush 20, 2) := by decide +kernel
theorem dX10_bids_4 : decode cX10_bids 4 = .ok (.invokestatic 175, 3) := by decide +kernel
theorem dX10_bids_7 : decode cX10_bids 7 = .ok (.ifCond .eq 22, 3) := by decide +kernel
theorem dX10_bids_10 : decode cX10_bids 10 = .ok (.iload_n 2, 1) := by decide +kernel
theorem dX10_bids_11 : decode cX10_bids 11 = .ok (.iconst 0, 1) := by decide +kernel
theorem dX10_bids_12 : decode cX10_bids 12 = .ok (.bipush 20, 2) := by decide +kernel
theorem dX10_bids_14 : decode cX10_bids 14 = .ok (.invokestatic 175, 3) := by decide +kernel
theorem dX10_bids_17 : decode cX10_bids 17 = .ok (.ifCond .eq 12, 3) := by decide +kernel
theorem dX10_bids_20 : decode cX10_bids 20 = .ok (.iload_n 3, 1) := by decide +kernel
theorem dX10_bids_21 : decode cX10_bids 21 = .ok (.iconst 0, 1) := by decide +kernel
theorem dX10_bids_22 : decode cX10_bids 22 = .ok (.iconst 2, 1) := by decide +kernel
theorem dX10_bids_23 : decode cX10_bids 23 = .ok (.invokestatic 175, 3) := by decide +kernel
theorem dX10_bids_26 : decode cX10_bids 26 = .ok (.ifCond .ne 5, 3) := by decide +kernel
theorem dX10_bids_29 : decode cX10_bids 29 = .ok (.iconst (-1), 1) := by decide +kernel
theorem dX10_bids_30 : decode cX10_bids 30 = .ok (.ireturn, 1) := by decide +kernel
theorem dX10_bids_31 : decode cX10_bids 31 = .ok (.iconst 0, 1) := by decide +kernel
theorem dX10_bids_32 : decode cX10_bids 32 = .ok (.istore 4, 2) := by decide +kernel
theorem dX10_bids_34 : decode cX10_bids 34 = .ok (.iconst (-1), 1) := by decide +kernel
theorem dX10_bids_35 : decode cX10_bids 35 = .ok (.istore 5, 2) := by decide +kernel
theorem dX10_bids_37 : decode cX10_bids 37 = .ok (.iconst 0, 1) := by decide +kernel
theorem dX10_bids_38 : decode cX10_bids 38 = .ok (.istore 6, 2) := by decide +kernel
theorem dX10_bids_40 : decode cX10_bids 40 = .ok (.iload 6, 2) := by decide +kernel
theorem dX10_bids_42 : decode cX10_bids 42 = .ok (.bipush 81, 2) := by decide +kernel
theorem dX10_bids_44 : decode cX10_bids 44 = .ok (.if_icmp .ge 55, 3) := by decide +kernel
theorem dX10_bids_47 : decode cX10_bids 47 = .ok (.iload_n 1, 1) := by decide +kernel
theorem dX10_bids_48 : decode cX10_bids 48 = .ok (.iload_n 2, 1) := by decide +kernel
theorem dX10_bids_49 : decode cX10_bids 49 = .ok (.iload 6, 2) := by decide +kernel
theorem dX10_bids_51 : decode cX10_bids 51 = .ok (.bipush 9, 2) := by decide +kernel
theorem dX10_bids_53 : decode cX10_bids 53 = .ok (.idiv, 1) := by decide +kernel
theorem dX10_bids_54 : decode cX10_bids 54 = .ok (.iconst 1, 1) := by decide +kernel
theorem dX10_bids_55 : decode cX10_bids 55 = .ok (.iadd, 1) := by decide +kernel
theorem dX10_bids_56 : decode cX10_bids 56 = .ok (.iload 6, 2) := by decide +kernel
theorem dX10_bids_58 : decode cX10_bids 58 = .ok (.bipush 9, 2) := by decide +kernel
theorem dX10_bids_60 : decode cX10_bids 60 = .ok (.irem, 1) := by decide +kernel
theorem dX10_bids_61 : decode cX10_bids 61 = .ok (.iconst 1, 1) := by decide +kernel
theorem dX10_bids_62 : decode cX10_bids 62 = .ok (.iadd, 1) := by decide +kernel
theorem dX10_bids_63 : decode cX10_bids 63 = .ok (.invokestatic 408, 3) := by decide +kernel
theorem dX10_bids_66 : decode cX10_bids 66 = .ok (.ifCond .ne 6, 3) := by decide +kernel
theorem dX10_bids_69 : decode cX10_bids 69 = .ok (.goto 24, 3) := by decide +kernel
theorem dX10_bids_72 : decode cX10_bids 72 = .ok (.iload 5, 2) := by decide +kernel
theorem dX10_bids_74 : decode cX10_bids 74 = .ok (.iconst (-1), 1) := by decide +kernel
theorem dX10_bids_75 : decode cX10_bids 75 = .ok (.if_icmp .ne 8, 3) := by decide +kernel
theorem dX10_bids_78 : decode cX10_bids 78 = .ok (.iload 6, 2) := by decide +kernel
theorem dX10_bids_80 : decode cX10_bids 80 = .ok (.goto 5, 3) := by decide +kernel
theorem dX10_bids_83 : decode cX10_bids 83 = .ok (.iload 5, 2) := by decide +kernel
theorem dX10_bids_85 : decode cX10_bids 85 = .ok (.istore 5, 2) := by decide +kernel
theorem dX10_bids_87 : decode cX10_bids 87 = .ok (.iload 4, 2) := by decide +kernel
theorem dX10_bids_89 : decode cX10_bids 89 = .ok (.iconst 1, 1) := by decide +kernel
theorem dX10_bids_90 : decode cX10_bids 90 = .ok (.iadd, 1) := by decide +kernel
theorem dX10_bids_91 : decode cX10_bids 91 = .ok (.istore 4, 2) := by decide +kernel
theorem dX10_bids_93 : decode cX10_bids 93 = .ok (.iinc 6 1, 3) := by decide +kernel
theorem dX10_bids_96 : decode cX10_bids 96 = .ok (.goto (-56), 3) := by decide +kernel
theorem dX10_bids_99 : decode cX10_bids 99 = .ok (.iload_n 3, 1) := by decide +kernel
theorem dX10_bids_100 : decode cX10_bids 100 = .ok (.ifCond .ne 8, 3) := by decide +kernel
theorem dX10_bids_103 : decode cX10_bids 103 = .ok (.iload 4, 2) := by decide +kernel
theorem dX10_bids_105 : decode cX10_bids 105 = .ok (.goto 36, 3) := by decide +kernel
theorem dX10_bids_108 : decode cX10_bids 108 = .ok (.iload 5, 2) := by decide +kernel
theorem dX10_bids_110 : decode cX10_bids 110 = .ok (.iconst (-1), 1) := by decide +kernel
theorem dX10_bids_111 : decode cX10_bids 111 = .ok (.if_icmp .ne 8, 3) := by decide +kernel
theorem dX10_bids_114 : decode cX10_bids 114 = .ok (.bipush (-2), 2) := by decide +kernel
theorem dX10_bids_116 : decode cX10_bids 116 = .ok (.goto 25, 3) := by decide +kernel
theorem dX10_bids_119 : decode cX10_bids 119 = .ok (.iload_n 3, 1) := by decide +kernel
theorem dX10_bids_120 : decode cX10_bids 120 = .ok (.iconst 1, 1) := by decide +kernel
theorem dX10_bids_121 : decode cX10_bids 121 = .ok (.if_icmp .ne 13, 3) := by decide +kernel
theorem dX10_bids_124 : decode cX10_bids 124 = .ok (.iload 5, 2) := by decide +kernel
theorem dX10_bids_126 : decode cX10_bids 126 = .ok (.bipush 9, 2) := by decide +kernel
theorem dX10_bids_128 : decode cX10_bids 128 = .ok (.idiv, 1) := by decide +kernel
theorem dX10_bids_129 : decode cX10_bids 129 = .ok (.iconst 1, 1) := by decide +kernel
theorem dX10_bids_130 : decode cX10_bids 130 = .ok (.iadd, 1) := by decide +kernel
theorem dX10_bids_131 : decode cX10_bids 131 = .ok (.goto 10, 3) := by decide +kernel
theorem dX10_bids_134 : decode cX10_bids 134 = .ok (.iload 5, 2) := by decide +kernel
theorem dX10_bids_136 : decode cX10_bids 136 = .ok (.bipush 9, 2) := by decide +kernel
theorem dX10_bids_138 : decode cX10_bids 138 = .ok (.irem, 1) := by decide +kernel
theorem dX10_bids_139 : decode cX10_bids 139 = .ok (.iconst 1, 1) := by decide +kernel
theorem dX10_bids_140 : decode cX10_bids 140 = .ok (.iadd, 1) := by decide +kernel
theorem dX10_bids_141 : decode cX10_bids 141 = .ok (.ireturn, 1) := by decide +kernel
theorem dX10_gcd_0 : decode cX10_gcd 0 = .ok (.iload_n 0, 1) := by decide +kernel
theorem dX10_gcd_1 : decode cX10_gcd 1 = .ok (.istore_n 2, 1) := by decide +kernel
theorem dX10_gcd_2 : decode cX10_gcd 2 = .ok (.iload_n 1, 1) := by decide +kernel
theorem dX10_gcd_3 : decode cX10_gcd 3 = .ok (.istore_n 3, 1) := by decide +kernel
theorem dX10_gcd_4 : decode cX10_gcd 4 = .ok (.iload_n 3, 1) := by decide +kernel
theorem dX10_gcd_5 : decode cX10_gcd 5 = .ok (.ifCond .eq 16, 3) := by decide +kernel
theorem dX10_gcd_8 : decode cX10_gcd 8 = .ok (.iload_n 2, 1) := by decide +kernel
theorem dX10_gcd_9 : decode cX10_gcd 9 = .ok (.iload_n 3, 1) := by decide +kernel
theorem dX10_gcd_10 : decode cX10_gcd 10 = .ok (.irem, 1) := by decide +kernel
theorem dX10_gcd_11 : decode cX10_gcd 11 = .ok (.istore 4, 2) := by decide +kernel
theorem dX10_gcd_13 : decode cX10_gcd 13 = .ok (.iload_n 3, 1) := by decide +kernel
theorem dX10_gcd_14 : decode cX10_gcd 14 = .ok (.istore_n 2, 1) := by decide +kernel
theorem dX10_gcd_15 : decode cX10_gcd 15 = .ok (.iload 4, 2) := by decide +kernel
theorem dX10_gcd_17 : decode cX10_gcd 17 = .ok (.istore_n 3, 1) := by decide +kernel
theorem dX10_gcd_18 : decode cX10_gcd 18 = .ok (.goto (-14), 3) := by decide +kernel
theorem dX10_gcd_21 : decode cX10_gcd 21 = .ok (.iload_n 2, 1) := by decide +kernel
theorem dX10_gcd_22 : decode cX10_gcd 22 = .ok (.ireturn, 1) := by decide +kernel
theorem dX10_odds_0 : decode cX10_odds 0 = .ok (.iload_n 1, 1) := by decide +kernel
theorem dX10_odds_1 : decode cX10_odds 1 = .ok (.invokestatic 179, 3) := by decide +kernel
theorem dX10_odds_4 : decode cX10_odds 4 = .ok (.ifCond .eq 20, 3) := by decide +kernel
theorem dX10_odds_7 : decode cX10_odds 7 = .ok (.aload_n 0, 1) := by decide +kernel
theorem dX10_odds_8 : decode cX10_odds 8 = .ok (.iload_n 2, 1) := by decide +kernel
theorem dX10_odds_9 : decode cX10_odds 9 = .ok (.invokevirtual 185, 3) := by decide +kernel
theorem dX10_odds_12 : decode cX10_odds 12 = .ok (.ifCond .eq 12, 3) := by decide +kernel
theorem dX10_odds_15 : decode cX10_odds 15 = .ok (.iload_n 3, 1) := by decide +kernel
theorem dX10_odds_16 : decode cX10_odds 16 = .ok (.iconst 0, 1) := by decide +kernel
theorem dX10_odds_17 : decode cX10_odds 17 = .ok (.iconst 1, 1) := by decide +kernel
theorem dX10_odds_18 : decode cX10_odds 18 = .ok (.invokestatic 175, 3) := by decide +kernel
theorem dX10_odds_21 : decode cX10_odds 21 = .ok (.ifCond .ne 5, 3) := by decide +kernel
theorem dX10_odds_24 : decode cX10_odds 24 = .ok (.iconst (-1), 1) := by decide +kernel
theorem dX10_odds_25 : decode cX10_odds 25 = .ok (.ireturn, 1) := by decide +kernel
theorem dX10_odds_26 : decode cX10_odds 26 = .ok (.aload_n 0, 1) := by decide +kernel
theorem dX10_odds_27 : decode cX10_odds 27 = .ok (.getfield 182, 3) := by decide +kernel
theorem dX10_odds_30 : decode cX10_odds 30 = .ok (.istore 4, 2) := by decide +kernel
theorem dX10_odds_32 : decode cX10_odds 32 = .ok (.iconst 0, 1) := by decide +kernel
theorem dX10_odds_33 : decode cX10_odds 33 = .ok (.istore 5, 2) := by decide +kernel
theorem dX10_odds_35 : decode cX10_odds 35 = .ok (.iconst 1, 1) := by decide +kernel
theorem dX10_odds_36 : decode cX10_odds 36 = .ok (.istore 6, 2) := by decide +kernel
theorem dX10_odds_38 : decode cX10_odds 38 = .ok (.iconst 1, 1) := by decide +kernel
theorem dX10_odds_39 : decode cX10_odds 39 = .ok (.istore 7, 2) := by decide +kernel
theorem dX10_odds_41 : decode cX10_odds 41 = .ok (.iconst 0, 1) := by decide +kernel
theorem dX10_odds_42 : decode cX10_odds 42 = .ok (.istore 8, 2) := by decide +kernel
theorem dX10_odds_44 : decode cX10_odds 44 = .ok (.iload 8, 2) := by decide +kernel
theorem dX10_odds_46 : decode cX10_odds 46 = .ok (.aload_n 0, 1) := by decide +kernel
theorem dX10_odds_47 : decode cX10_odds 47 = .ok (.getfield 233, 3) := by decide +kernel
theorem dX10_odds_50 : decode cX10_odds 50 = .ok (.if_icmp .ge 173, 3) := by decide +kernel
theorem dX10_odds_53 : decode cX10_odds 53 = .ok (.aload_n 0, 1) := by decide +kernel
theorem dX10_odds_54 : decode cX10_odds 54 = .ok (.getfield 41, 3) := by decide +kernel
theorem dX10_odds_57 : decode cX10_odds 57 = .ok (.iload 8, 2) := by decide +kernel
theorem dX10_odds_59 : decode cX10_odds 59 = .ok (.iaload, 1) := by decide +kernel
theorem dX10_odds_60 : decode cX10_odds 60 = .ok (.iload_n 1, 1) := by decide +kernel
theorem dX10_odds_61 : decode cX10_odds 61 = .ok (.if_icmp .ne 156, 3) := by decide +kernel
theorem dX10_odds_64 : decode cX10_odds 64 = .ok (.aload_n 0, 1) := by decide +kernel
theorem dX10_odds_65 : decode cX10_odds 65 = .ok (.iload 8, 2) := by decide +kernel
theorem dX10_odds_67 : decode cX10_odds 67 = .ok (.invokevirtual 239, 3) := by decide +kernel
theorem dX10_odds_70 : decode cX10_odds 70 = .ok (.ifCond .ne 6, 3) := by decide +kernel
theorem dX10_odds_73 : decode cX10_odds 73 = .ok (.goto 144, 3) := by decide +kernel
theorem dX10_odds_76 : decode cX10_odds 76 = .ok (.aload_n 0, 1) := by decide +kernel
theorem dX10_odds_77 : decode cX10_odds 77 = .ok (.getfield 56, 3) := by decide +kernel
theorem dX10_odds_80 : decode cX10_odds 80 = .ok (.iload 8, 2) := by decide +kernel
theorem dX10_odds_82 : decode cX10_odds 82 = .ok (.baload, 1) := by decide +kernel
theorem dX10_odds_83 : decode cX10_odds 83 = .ok (.ifCond .eq 12, 3) := by decide +kernel
theorem dX10_odds_86 : decode cX10_odds 86 = .ok (.iload 4, 2) := by decide +kernel
theorem dX10_odds_88 : decode cX10_odds 88 = .ok (.ifCond .le 7, 3) := by decide +kernel
theorem dX10_odds_91 : decode cX10_odds 91 = .ok (.iconst 1, 1) := by decide +kernel
theorem dX10_odds_92 : decode cX10_odds 92 = .ok (.goto 4, 3) := by decide +kernel
theorem dX10_odds_95 : decode cX10_odds 95 = .ok (.iconst 0, 1) := by decide +kernel
theorem dX10_odds_96 : decode cX10_odds 96 = .ok (.istore 9, 2) := by decide +kernel
theorem dX10_odds_98 : decode cX10_odds 98 = .ok (.iload 4, 2) := by decide +kernel
theorem dX10_odds_100 : decode cX10_odds 100 = .ok (.iload 9, 2) := by decide +kernel
theorem dX10_odds_102 : decode cX10_odds 102 = .ok (.ifCond .eq 7, 3) := by decide +kernel
theorem dX10_odds_105 : decode cX10_odds 105 = .ok (.iconst 1, 1) := by decide +kernel
theorem dX10_odds_106 : decode cX10_odds 106 = .ok (.goto 4, 3) := by decide +kernel
theorem dX10_odds_109 : decode cX10_odds 109 = .ok (.iconst 0, 1) := by decide +kernel
theorem dX10_odds_110 : decode cX10_odds 110 = .ok (.isub, 1) := by decide +kernel
theorem dX10_odds_111 : decode cX10_odds 111 = .ok (.istore 4, 2) := by decide +kernel
theorem dX10_odds_113 : decode cX10_odds 113 = .ok (.aload_n 0, 1) := by decide +kernel
theorem dX10_odds_114 : decode cX10_odds 114 = .ok (.iload 8, 2) := by decide +kernel
theorem dX10_odds_116 : decode cX10_odds 116 = .ok (.invokevirtual 341, 3) := by decide +kernel
theorem dX10_odds_119 : decode cX10_odds 119 = .ok (.ifCond .eq 6, 3) := by decide +kernel
theorem dX10_odds_122 : decode cX10_odds 122 = .ok (.goto 95, 3) := by decide +kernel
theorem dX10_odds_125 : decode cX10_odds 125 = .ok (.iload 5, 2) := by decide +kernel
theorem dX10_odds_127 : decode cX10_odds 127 = .ok (.iconst 1, 1) := by decide +kernel
theorem dX10_odds_128 : decode cX10_odds 128 = .ok (.iadd, 1) := by decide +kernel
theorem dX10_odds_129 : decode cX10_odds 129 = .ok (.istore 5, 2) := by decide +kernel
theorem dX10_odds_131 : decode cX10_odds 131 = .ok (.iload 5, 2) := by decide +kernel
theorem dX10_odds_133 : decode cX10_odds 133 = .ok (.iconst 4, 1) := by decide +kernel
theorem dX10_odds_134 : decode cX10_odds 134 = .ok (.if_icmp .le 6, 3) := by decide +kernel
theorem dX10_odds_137 : decode cX10_odds 137 = .ok (.bipush (-2), 2) := by decide +kernel
theorem dX10_odds_139 : decode cX10_odds 139 = .ok (.ireturn, 1) := by decide +kernel
theorem dX10_odds_140 : decode cX10_odds 140 = .ok (.aload_n 0, 1) := by decide +kernel
theorem dX10_odds_141 : decode cX10_odds 141 = .ok (.aload_n 0, 1) := by decide +kernel
theorem dX10_odds_142 : decode cX10_odds 142 = .ok (.getfield 38, 3) := by decide +kernel
theorem dX10_odds_145 : decode cX10_odds 145 = .ok (.iload 8, 2) := by decide +kernel
theorem dX10_odds_147 : decode cX10_odds 147 = .ok (.iaload, 1) := by decide +kernel
theorem dX10_odds_148 : decode cX10_odds 148 = .ok (.iload_n 1, 1) := by decide +kernel
theorem dX10_odds_149 : decode cX10_odds 149 = .ok (.aload_n 0, 1) := by decide +kernel
theorem dX10_odds_150 : decode cX10_odds 150 = .ok (.getfield 44, 3) := by decide +kernel
theorem dX10_odds_153 : decode cX10_odds 153 = .ok (.iload 8, 2) := by decide +kernel
theorem dX10_odds_155 : decode cX10_odds 155 = .ok (.iaload, 1) := by decide +kernel
theorem dX10_odds_156 : decode cX10_odds 156 = .ok (.iload 9, 2) := by decide +kernel
theorem dX10_odds_158 : decode cX10_odds 158 = .ok (.invokevirtual 326, 3) := by decide +kernel
theorem dX10_odds_161 : decode cX10_odds 161 = .ok (.aload_n 0, 1) := by decide +kernel
theorem dX10_odds_162 : decode cX10_odds 162 = .ok (.bipush 122, 2) := by decide +kernel
theorem dX10_odds_164 : decode cX10_odds 164 = .ok (.bipush 10, 2) := by decide +kernel
theorem dX10_odds_166 : decode cX10_odds 166 = .ok (.invokevirtual 333, 3) := by decide +kernel
theorem dX10_odds_169 : decode cX10_odds 169 = .ok (.istore 10, 2) := by decide +kernel
theorem dX10_odds_171 : decode cX10_odds 171 = .ok (.iload 6, 2) := by decide +kernel
theorem dX10_odds_173 : decode cX10_odds 173 = .ok (.bipush 10, 2) := by decide +kernel
theorem dX10_odds_175 : decode cX10_odds 175 = .ok (.imul, 1) := by decide +kernel
theorem dX10_odds_176 : decode cX10_odds 176 = .ok (.istore 6, 2) := by decide +kernel
theorem dX10_odds_178 : decode cX10_odds 178 = .ok (.iload 7, 2) := by decide +kernel
theorem dX10_odds_180 : decode cX10_odds 180 = .ok (.aload_n 0, 1) := by decide +kernel
theorem dX10_odds_181 : decode cX10_odds 181 = .ok (.aload_n 0, 1) := by decide +kernel
theorem dX10_odds_182 : decode cX10_odds 182 = .ok (.getfield 38, 3) := by decide +kernel
theorem dX10_odds_185 : decode cX10_odds 185 = .ok (.iload 8, 2) := by decide +kernel
theorem dX10_odds_187 : decode cX10_odds 187 = .ok (.iaload, 1) := by decide +kernel
theorem dX10_odds_188 : decode cX10_odds 188 = .ok (.iload_n 2, 1) := by decide +kernel
theorem dX10_odds_189 : decode cX10_odds 189 = .ok (.iload_n 1, 1) := by decide +kernel
theorem dX10_odds_190 : decode cX10_odds 190 = .ok (.aload_n 0, 1) := by decide +kernel
theorem dX10_odds_191 : decode cX10_odds 191 = .ok (.getfield 44, 3) := by decide +kernel
theorem dX10_odds_194 : decode cX10_odds 194 = .ok (.iload 8, 2) := by decide +kernel
theorem dX10_odds_196 : decode cX10_odds 196 = .ok (.iaload, 1) := by decide +kernel
theorem dX10_odds_197 : decode cX10_odds 197 = .ok (.iload 9, 2) := by decide +kernel
theorem dX10_odds_199 : decode cX10_odds 199 = .ok (.invokevirtual 336, 3) := by decide +kernel
theorem dX10_odds_202 : decode cX10_odds 202 = .ok (.bipush (-2), 2) := by decide +kernel
theorem dX10_odds_204 : decode cX10_odds 204 = .ok (.if_icmp .ne 8, 3) := by decide +kernel
theorem dX10_odds_207 : decode cX10_odds 207 = .ok (.bipush 10, 2) := by decide +kernel
theorem dX10_odds_209 : decode cX10_odds 209 = .ok (.goto 5, 3) := by decide +kernel
theorem dX10_odds_212 : decode cX10_odds 212 = .ok (.iload 10, 2) := by decide +kernel
theorem dX10_odds_214 : decode cX10_odds 214 = .ok (.imul, 1) := by decide +kernel
theorem dX10_odds_215 : decode cX10_odds 215 = .ok (.istore 7, 2) := by decide +kernel
theorem dX10_odds_217 : decode cX10_odds 217 = .ok (.iinc 8 1, 3) := by decide +kernel
theorem dX10_odds_220 : decode cX10_odds 220 = .ok (.goto (-176), 3) := by decide +kernel
theorem dX10_odds_223 : decode cX10_odds 223 = .ok (.iload 6, 2) := by decide +kernel
theorem dX10_odds_225 : decode cX10_odds 225 = .ok (.iload 7, 2) := by decide +kernel
theorem dX10_odds_227 : decode cX10_odds 227 = .ok (.isub, 1) := by decide +kernel
theorem dX10_odds_228 : decode cX10_odds 228 = .ok (.iload 6, 2) := by decide +kernel
theorem dX10_odds_230 : decode cX10_odds 230 = .ok (.invokestatic 412, 3) := by decide +kernel
theorem dX10_odds_233 : decode cX10_odds 233 = .ok (.istore 8, 2) := by decide +kernel
theorem dX10_odds_235 : decode cX10_odds 235 = .ok (.iload_n 3, 1) := by decide +kernel
theorem dX10_odds_236 : decode cX10_odds 236 = .ok (.ifCond .ne 14, 3) := by decide +kernel
theorem dX10_odds_239 : decode cX10_odds 239 = .ok (.iload 6, 2) := by decide +kernel
theorem dX10_odds_241 : decode cX10_odds 241 = .ok (.iload 7, 2) := by decide +kernel
theorem dX10_odds_243 : decode cX10_odds 243 = .ok (.isub, 1) := by decide +kernel
theorem dX10_odds_244 : decode cX10_odds 244 = .ok (.iload 8, 2) := by decide +kernel
theorem dX10_odds_246 : decode cX10_odds 246 = .ok (.idiv, 1) := by decide +kernel
theorem dX10_odds_247 : decode cX10_odds 247 = .ok (.goto 8, 3) := by decide +kernel
theorem dX10_odds_250 : decode cX10_odds 250 = .ok (.iload 6, 2) := by decide +kernel
theorem dX10_odds_252 : decode cX10_odds 252 = .ok (.iload 8, 2) := by decide +kernel
theorem dX10_odds_254 : decode cX10_odds 254 = .ok (.idiv, 1) := by decide +kernel
theorem dX10_odds_255 : decode cX10_odds 255 = .ok (.ireturn, 1) := by decide +kernel
theorem dX10_seed_0 : decode cX10_seed 0 = .ok (.iload_n 1, 1) := by decide +kernel
theorem dX10_seed_1 : decode cX10_seed 1 = .ok (.iconst 0, 1) := by decide +kernel
theorem dX10_seed_2 : decode cX10_seed 2 = .ok (.ldc_w 415, 3) := by decide +kernel
theorem dX10_seed_5 : decode cX10_seed 5 = .ok (.invokestatic 175, 3) := by decide +kernel
theorem dX10_seed_8 : decode cX10_seed 8 = .ok (.ifCond .ne 5, 3) := by decide +kernel
theorem dX10_seed_11 : decode cX10_seed 11 = .ok (.iconst 0, 1) := by decide +kernel
theorem dX10_seed_12 : decode cX10_seed 12 = .ok (.ireturn, 1) := by decide +kernel
theorem dX10_seed_13 : decode cX10_seed 13 = .ok (.aload_n 0, 1) := by decide +kernel
theorem dX10_seed_14 : decode cX10_seed 14 = .ok (.iload_n 1, 1) := by decide +kernel
theorem dX10_seed_15 : decode cX10_seed 15 = .ok (.putfield 154, 3) := by decide +kernel
theorem dX10_seed_18 : decode cX10_seed 18 = .ok (.iconst 1, 1) := by decide +kernel
theorem dX10_seed_19 : decode cX10_seed 19 = .ok (.ireturn, 1) := by decide +kernel
theorem dX10_copies_0 : decode cX10_copies 0 = .ok (.iconst 0, 1) := by decide +kernel
theorem dX10_copies_1 : decode cX10_copies 1 = .ok (.istore_n 3, 1) := by decide +kernel
theorem dX10_copies_2 : decode cX10_copies 2 = .ok (.iload_n 3, 1) := by decide +kernel
theorem dX10_copies_3 : decode cX10_copies 3 = .ok (.iload_n 2, 1) := by decide +kernel
theorem dX10_copies_4 : decode cX10_copies 4 = .ok (.if_icmp .ge 15, 3) := by decide +kernel
theorem dX10_copies_7 : decode cX10_copies 7 = .ok (.aload_n 1, 1) := by decide +kernel
theorem dX10_copies_8 : decode cX10_copies 8 = .ok (.iload_n 3, 1) := by decide +kernel
theorem dX10_copies_9 : decode cX10_copies 9 = .ok (.aload_n 0, 1) := by decide +kernel
theorem dX10_copies_10 : decode cX10_copies 10 = .ok (.iload_n 3, 1) := by decide +kernel
theorem dX10_copies_11 : decode cX10_copies 11 = .ok (.iaload, 1) := by decide +kernel
theorem dX10_copies_12 : decode cX10_copies 12 = .ok (.iastore, 1) := by decide +kernel
theorem dX10_copies_13 : decode cX10_copies 13 = .ok (.iinc 3 1, 3) := by decide +kernel
theorem dX10_copies_16 : decode cX10_copies 16 = .ok (.goto (-14), 3) := by decide +kernel
theorem dX10_copies_19 : decode cX10_copies 19 = .ok (.return_, 1) := by decide +kernel
theorem dX10_keep_0 : decode cX10_keep 0 = .ok (.aload_n 0, 1) := by decide +kernel
theorem dX10_keep_1 : decode cX10_keep 1 = .ok (.iconst 1, 1) := by decide +kernel
theorem dX10_keep_2 : decode cX10_keep 2 = .ok (.putfield 416, 3) := by decide +kernel
theorem dX10_keep_5 : decode cX10_keep 5 = .ok (.aload_n 0, 1) := by decide +kernel
theorem dX10_keep_6 : decode cX10_keep 6 = .ok (.aload_n 0, 1) := by decide +kernel
theorem dX10_keep_7 : decode cX10_keep 7 = .ok (.getfield 154, 3) := by decide +kernel
theorem dX10_keep_10 : decode cX10_keep 10 = .ok (.putfield 420, 3) := by decide +kernel
theorem dX10_keep_13 : decode cX10_keep 13 = .ok (.aload_n 0, 1) := by decide +kernel
theorem dX10_keep_14 : decode cX10_keep 14 = .ok (.aload_n 0, 1) := by decide +kernel
theorem dX10_keep_15 : decode cX10_keep 15 = .ok (.getfield 158, 3) := by decide +kernel
theorem dX10_keep_18 : decode cX10_keep 18 = .ok (.putfield 423, 3) := by decide +kernel
theorem dX10_keep_21 : decode cX10_keep 21 = .ok (.aload_n 0, 1) := by decide +kernel
theorem dX10_keep_22 : decode cX10_keep 22 = .ok (.aload_n 0, 1) := by decide +kernel
theorem dX10_keep_23 : decode cX10_keep 23 = .ok (.getfield 182, 3) := by decide +kernel
theorem dX10_keep_26 : decode cX10_keep 26 = .ok (.putfield 426, 3) := by decide +kernel
theorem dX10_keep_29 : decode cX10_keep 29 = .ok (.aload_n 0, 1) := by decide +kernel
theorem dX10_keep_30 : decode cX10_keep 30 = .ok (.aload_n 0, 1) := by decide +kernel
theorem dX10_keep_31 : decode cX10_keep 31 = .ok (.getfield 161, 3) := by decide +kernel
theorem dX10_keep_34 : decode cX10_keep 34 = .ok (.putfield 429, 3) := by decide +kernel
theorem dX10_keep_37 : decode cX10_keep 37 = .ok (.aload_n 0, 1) := by decide +kernel
theorem dX10_keep_38 : decode cX10_keep 38 = .ok (.aload_n 0, 1) := by decide +kernel
theorem dX10_keep_39 : decode cX10_keep 39 = .ok (.getfield 168, 3) := by decide +kernel
theorem dX10_keep_42 : decode cX10_keep 42 = .ok (.putfield 432, 3) := by decide +kernel
theorem dX10_keep_45 : decode cX10_keep 45 = .ok (.aload_n 0, 1) := by decide +kernel
theorem dX10_keep_46 : decode cX10_keep 46 = .ok (.getfield 7, 3) := by decide +kernel
theorem dX10_keep_49 : decode cX10_keep 49 = .ok (.aload_n 0, 1) := by decide +kernel
theorem dX10_keep_50 : decode cX10_keep 50 = .ok (.getfield 130, 3) := by decide +kernel
theorem dX10_keep_53 : decode cX10_keep 53 = .ok (.bipush 12, 2) := by decide +kernel
theorem dX10_keep_55 : decode cX10_keep 55 = .ok (.invokestatic 435, 3) := by decide +kernel
theorem dX10_keep_58 : decode cX10_keep 58 = .ok (.aload_n 0, 1) := by decide +kernel
theorem dX10_keep_59 : decode cX10_keep 59 = .ok (.getfield 13, 3) := by decide +kernel
theorem dX10_keep_62 : decode cX10_keep 62 = .ok (.aload_n 0, 1) := by decide +kernel
theorem dX10_keep_63 : decode cX10_keep 63 = .ok (.getfield 133, 3) := by decide +kernel
theorem dX10_keep_66 : decode cX10_keep 66 = .ok (.bipush 10, 2) := by decide +kernel
theorem dX10_keep_68 : decode cX10_keep 68 = .ok (.invokestatic 435, 3) := by decide +kernel
theorem dX10_keep_71 : decode cX10_keep 71 = .ok (.aload_n 0, 1) := by decide +kernel
theorem dX10_keep_72 : decode cX10_keep 72 = .ok (.getfield 16, 3) := by decide +kernel
theorem dX10_keep_75 : decode cX10_keep 75 = .ok (.aload_n 0, 1) := by decide +kernel
theorem dX10_keep_76 : decode cX10_keep 76 = .ok (.getfield 136, 3) := by decide +kernel
theorem dX10_keep_79 : decode cX10_keep 79 = .ok (.bipush 70, 2) := by decide +kernel
theorem dX10_keep_81 : decode cX10_keep 81 = .ok (.invokestatic 435, 3) := by decide +kernel
theorem dX10_keep_84 : decode cX10_keep 84 = .ok (.aload_n 0, 1) := by decide +kernel
theorem dX10_keep_85 : decode cX10_keep 85 = .ok (.getfield 19, 3) := by decide +kernel
theorem dX10_keep_88 : decode cX10_keep 88 = .ok (.aload_n 0, 1) := by decide +kernel
theorem dX10_keep_89 : decode cX10_keep 89 = .ok (.getfield 139, 3) := by decide +kernel
theorem dX10_keep_92 : decode cX10_keep 92 = .ok (.bipush 10, 2) := by decide +kernel
theorem dX10_keep_94 : decode cX10_keep 94 = .ok (.invokestatic 435, 3) := by decide +kernel
theorem dX10_keep_97 : decode cX10_keep 97 = .ok (.aload_n 0, 1) := by decide +kernel
theorem dX10_keep_98 : decode cX10_keep 98 = .ok (.getfield 22, 3) := by decide +kernel
theorem dX10_keep_101 : decode cX10_keep 101 = .ok (.aload_n 0, 1) := by decide +kernel
theorem dX10_keep_102 : decode cX10_keep 102 = .ok (.getfield 142, 3) := by decide +kernel
theorem dX10_keep_105 : decode cX10_keep 105 = .ok (.bipush 10, 2) := by decide +kernel
theorem dX10_keep_107 : decode cX10_keep 107 = .ok (.invokestatic 435, 3) := by decide +kernel
theorem dX10_keep_110 : decode cX10_keep 110 = .ok (.aload_n 0, 1) := by decide +kernel
theorem dX10_keep_111 : decode cX10_keep 111 = .ok (.getfield 25, 3) := by decide +kernel
theorem dX10_keep_114 : decode cX10_keep 114 = .ok (.aload_n 0, 1) := by decide +kernel
theorem dX10_keep_115 : decode cX10_keep 115 = .ok (.getfield 145, 3) := by decide +kernel
theorem dX10_keep_118 : decode cX10_keep 118 = .ok (.bipush 10, 2) := by decide +kernel
theorem dX10_keep_120 : decode cX10_keep 120 = .ok (.invokestatic 435, 3) := by decide +kernel
theorem dX10_keep_123 : decode cX10_keep 123 = .ok (.aload_n 0, 1) := by decide +kernel
theorem dX10_keep_124 : decode cX10_keep 124 = .ok (.getfield 28, 3) := by decide +kernel
theorem dX10_keep_127 : decode cX10_keep 127 = .ok (.aload_n 0, 1) := by decide +kernel
theorem dX10_keep_128 : decode cX10_keep 128 = .ok (.getfield 148, 3) := by decide +kernel
theorem dX10_keep_131 : decode cX10_keep 131 = .ok (.bipush 10, 2) := by decide +kernel
theorem dX10_keep_133 : decode cX10_keep 133 = .ok (.invokestatic 435, 3) := by decide +kernel
theorem dX10_keep_136 : decode cX10_keep 136 = .ok (.aload_n 0, 1) := by decide +kernel
theorem dX10_keep_137 : decode cX10_keep 137 = .ok (.getfield 31, 3) := by decide +kernel
theorem dX10_keep_140 : decode cX10_keep 140 = .ok (.aload_n 0, 1) := by decide +kernel
theorem dX10_keep_141 : decode cX10_keep 141 = .ok (.getfield 151, 3) := by decide +kernel
theorem dX10_keep_144 : decode cX10_keep 144 = .ok (.bipush 47, 2) := by decide +kernel
theorem dX10_keep_146 : decode cX10_keep 146 = .ok (.invokestatic 435, 3) := by decide +kernel
theorem dX10_keep_149 : decode cX10_keep 149 = .ok (.aload_n 0, 1) := by decide +kernel
theorem dX10_keep_150 : decode cX10_keep 150 = .ok (.getfield 31, 3) := by decide +kernel
theorem dX10_keep_153 : decode cX10_keep 153 = .ok (.iconst 5, 1) := by decide +kernel
theorem dX10_keep_154 : decode cX10_keep 154 = .ok (.iaload, 1) := by decide +kernel
theorem dX10_keep_155 : decode cX10_keep 155 = .ok (.ireturn, 1) := by decide +kernel
theorem dX10_undo_0 : decode cX10_undo 0 = .ok (.aload_n 0, 1) := by decide +kernel
theorem dX10_undo_1 : decode cX10_undo 1 = .ok (.getfield 416, 3) := by decide +kernel
theorem dX10_undo_4 : decode cX10_undo 4 = .ok (.ifCond .ne 5, 3) := by decide +kernel
theorem dX10_undo_7 : decode cX10_undo 7 = .ok (.iconst 0, 1) := by decide +kernel
theorem dX10_undo_8 : decode cX10_undo 8 = .ok (.ireturn, 1) := by decide +kernel
theorem dX10_undo_9 : decode cX10_undo 9 = .ok (.aload_n 0, 1) := by decide +kernel
theorem dX10_undo_10 : decode cX10_undo 10 = .ok (.aload_n 0, 1) := by decide +kernel
theorem dX10_undo_11 : decode cX10_undo 11 = .ok (.getfield 420, 3) := by decide +kernel
theorem dX10_undo_14 : decode cX10_undo 14 = .ok (.putfield 154, 3) := by decide +kernel
theorem dX10_undo_17 : decode cX10_undo 17 = .ok (.aload_n 0, 1) := by decide +kernel
theorem dX10_undo_18 : decode cX10_undo 18 = .ok (.aload_n 0, 1) := by decide +kernel
theorem dX10_undo_19 : decode cX10_undo 19 = .ok (.getfield 423, 3) := by decide +kernel
theorem dX10_undo_22 : decode cX10_undo 22 = .ok (.putfield 158, 3) := by decide +kernel
theorem dX10_undo_25 : decode cX10_undo 25 = .ok (.aload_n 0, 1) := by decide +kernel
theorem dX10_undo_26 : decode cX10_undo 26 = .ok (.aload_n 0, 1) := by decide +kernel
theorem dX10_undo_27 : decode cX10_undo 27 = .ok (.getfield 426, 3) := by decide +kernel
theorem dX10_undo_30 : decode cX10_undo 30 = .ok (.putfield 182, 3) := by decide +kernel
theorem dX10_undo_33 : decode cX10_undo 33 = .ok (.aload_n 0, 1) := by decide +kernel
theorem dX10_undo_34 : decode cX10_undo 34 = .ok (.aload_n 0, 1) := by decide +kernel
theorem dX10_undo_35 : decode cX10_undo 35 = .ok (.getfield 429, 3) := by decide +kernel
theorem dX10_undo_38 : decode cX10_undo 38 = .ok (.putfield 161, 3) := by decide +kernel
theorem dX10_undo_41 : decode cX10_undo 41 = .ok (.aload_n 0, 1) := by decide +kernel
theorem dX10_undo_42 : decode cX10_undo 42 = .ok (.aload_n 0, 1) := by decide +kernel
theorem dX10_undo_43 : decode cX10_undo 43 = .ok (.getfield 432, 3) := by decide +kernel
theorem dX10_undo_46 : decode cX10_undo 46 = .ok (.putfield 168, 3) := by decide +kernel
theorem dX10_undo_49 : decode cX10_undo 49 = .ok (.aload_n 0, 1) := by decide +kernel
theorem dX10_undo_50 : decode cX10_undo 50 = .ok (.getfield 130, 3) := by decide +kernel
theorem dX10_undo_53 : decode cX10_undo 53 = .ok (.aload_n 0, 1) := by decide +kernel
theorem dX10_undo_54 : decode cX10_undo 54 = .ok (.getfield 7, 3) := by decide +kernel
theorem dX10_undo_57 : decode cX10_undo 57 = .ok (.bipush 12, 2) := by decide +kernel
theorem dX10_undo_59 : decode cX10_undo 59 = .ok (.invokestatic 435, 3) := by decide +kernel
theorem dX10_undo_62 : decode cX10_undo 62 = .ok (.aload_n 0, 1) := by decide +kernel
theorem dX10_undo_63 : decode cX10_undo 63 = .ok (.getfield 133, 3) := by decide +kernel
theorem dX10_undo_66 : decode cX10_undo 66 = .ok (.aload_n 0, 1) := by decide +kernel
theorem dX10_undo_67 : decode cX10_undo 67 = .ok (.getfield 13, 3) := by decide +kernel
theorem dX10_undo_70 : decode cX10_undo 70 = .ok (.bipush 10, 2) := by decide +kernel
theorem dX10_undo_72 : decode cX10_undo 72 = .ok (.invokestatic 435, 3) := by decide +kernel
theorem dX10_undo_75 : decode cX10_undo 75 = .ok (.aload_n 0, 1) := by decide +kernel
theorem dX10_undo_76 : decode cX10_undo 76 = .ok (.getfield 136, 3) := by decide +kernel
theorem dX10_undo_79 : decode cX10_undo 79 = .ok (.aload_n 0, 1) := by decide +kernel
theorem dX10_undo_80 : decode cX10_undo 80 = .ok (.getfield 16, 3) := by decide +kernel
theorem dX10_undo_83 : decode cX10_undo 83 = .ok (.bipush 70, 2) := by decide +kernel
theorem dX10_undo_85 : decode cX10_undo 85 = .ok (.invokestatic 435, 3) := by decide +kernel
theorem dX10_undo_88 : decode cX10_undo 88 = .ok (.aload_n 0, 1) := by decide +kernel
theorem dX10_undo_89 : decode cX10_undo 89 = .ok (.getfield 139, 3) := by decide +kernel
theorem dX10_undo_92 : decode cX10_undo 92 = .ok (.aload_n 0, 1) := by decide +kernel
theorem dX10_undo_93 : decode cX10_undo 93 = .ok (.getfield 19, 3) := by decide +kernel
theorem dX10_undo_96 : decode cX10_undo 96 = .ok (.bipush 10, 2) := by decide +kernel
theorem dX10_undo_98 : decode cX10_undo 98 = .ok (.invokestatic 435, 3) := by decide +kernel
theorem dX10_undo_101 : decode cX10_undo 101 = .ok (.aload_n 0, 1) := by decide +kernel
theorem dX10_undo_102 : decode cX10_undo 102 = .ok (.getfield 142, 3) := by decide +kernel
theorem dX10_undo_105 : decode cX10_undo 105 = .ok (.aload_n 0, 1) := by decide +kernel
theorem dX10_undo_106 : decode cX10_undo 106 = .ok (.getfield 22, 3) := by decide +kernel
theorem dX10_undo_109 : decode cX10_undo 109 = .ok (.bipush 10, 2) := by decide +kernel
theorem dX10_undo_111 : decode cX10_undo 111 = .ok (.invokestatic 435, 3) := by decide +kernel
theorem dX10_undo_114 : decode cX10_undo 114 = .ok (.aload_n 0, 1) := by decide +kernel
theorem dX10_undo_115 : decode cX10_undo 115 = .ok (.getfield 145, 3) := by decide +kernel
theorem dX10_undo_118 : decode cX10_undo 118 = .ok (.aload_n 0, 1) := by decide +kernel
theorem dX10_undo_119 : decode cX10_undo 119 = .ok (.getfield 25, 3) := by decide +kernel
theorem dX10_undo_122 : decode cX10_undo 122 = .ok (.bipush 10, 2) := by decide +kernel
theorem dX10_undo_124 : decode cX10_undo 124 = .ok (.invokestatic 435, 3) := by decide +kernel
theorem dX10_undo_127 : decode cX10_undo 127 = .ok (.aload_n 0, 1) := by decide +kernel
theorem dX10_undo_128 : decode cX10_undo 128 = .ok (.getfield 148, 3) := by decide +kernel
theorem dX10_undo_131 : decode cX10_undo 131 = .ok (.aload_n 0, 1) := by decide +kernel
theorem dX10_undo_132 : decode cX10_undo 132 = .ok (.getfield 28, 3) := by decide +kernel
theorem dX10_undo_135 : decode cX10_undo 135 = .ok (.bipush 10, 2) := by decide +kernel
theorem dX10_undo_137 : decode cX10_undo 137 = .ok (.invokestatic 435, 3) := by decide +kernel
theorem dX10_undo_140 : decode cX10_undo 140 = .ok (.aload_n 0, 1) := by decide +kernel
theorem dX10_undo_141 : decode cX10_undo 141 = .ok (.getfield 151, 3) := by decide +kernel
theorem dX10_undo_144 : decode cX10_undo 144 = .ok (.aload_n 0, 1) := by decide +kernel
theorem dX10_undo_145 : decode cX10_undo 145 = .ok (.getfield 31, 3) := by decide +kernel
theorem dX10_undo_148 : decode cX10_undo 148 = .ok (.bipush 47, 2) := by decide +kernel
theorem dX10_undo_150 : decode cX10_undo 150 = .ok (.invokestatic 435, 3) := by decide +kernel
theorem dX10_undo_153 : decode cX10_undo 153 = .ok (.iconst 1, 1) := by decide +kernel
theorem dX10_undo_154 : decode cX10_undo 154 = .ok (.ireturn, 1) := by decide +kernel
theorem dX10_tapeNumber_0 : decode cX10_tapeNumber 0 = .ok (.iconst 0, 1) := by decide +kernel
theorem dX10_tapeNumber_1 : decode cX10_tapeNumber 1 = .ok (.istore_n 2, 1) := by decide +kernel
theorem dX10_tapeNumber_2 : decode cX10_tapeNumber 2 = .ok (.iconst 4, 1) := by decide +kernel
theorem dX10_tapeNumber_3 : decode cX10_tapeNumber 3 = .ok (.iload_n 1, 1) := by decide +kernel
theorem dX10_tapeNumber_4 : decode cX10_tapeNumber 4 = .ok (.imul, 1) := by decide +kernel
theorem dX10_tapeNumber_5 : decode cX10_tapeNumber 5 = .ok (.istore_n 3, 1) := by decide +kernel
theorem dX10_tapeNumber_6 : decode cX10_tapeNumber 6 = .ok (.iload_n 3, 1) := by decide +kernel
theorem dX10_tapeNumber_7 : decode cX10_tapeNumber 7 = .ok (.iconst 4, 1) := by decide +kernel
theorem dX10_tapeNumber_8 : decode cX10_tapeNumber 8 = .ok (.iload_n 1, 1) := by decide +kernel
theorem dX10_tapeNumber_9 : decode cX10_tapeNumber 9 = .ok (.imul, 1) := by decide +kernel
theorem dX10_tapeNumber_10 : decode cX10_tapeNumber 10 = .ok (.iconst 4, 1) := by decide +kernel
theorem dX10_tapeNumber_11 : decode cX10_tapeNumber 11 = .ok (.iadd, 1) := by decide +kernel
theorem dX10_tapeNumber_12 : decode cX10_tapeNumber 12 = .ok (.if_icmp .ge 25, 3) := by decide +kernel
theorem dX10_tapeNumber_15 : decode cX10_tapeNumber 15 = .ok (.iload_n 2, 1) := by decide +kernel
theorem dX10_tapeNumber_16 : decode cX10_tapeNumber 16 = .ok (.bipush 8, 2) := by decide +kernel
theorem dX10_tapeNumber_18 : decode cX10_tapeNumber 18 = .ok (.ishl, 1) := by decide +kernel
theorem dX10_tapeNumber_19 : decode cX10_tapeNumber 19 = .ok (.aload_n 0, 1) := by decide +kernel
theorem dX10_tapeNumber_20 : decode cX10_tapeNumber 20 = .ok (.getfield 34, 3) := by decide +kernel
theorem dX10_tapeNumber_23 : decode cX10_tapeNumber 23 = .ok (.iload_n 3, 1) := by decide +kernel
theorem dX10_tapeNumber_24 : decode cX10_tapeNumber 24 = .ok (.baload, 1) := by decide +kernel
theorem dX10_tapeNumber_25 : decode cX10_tapeNumber 25 = .ok (.sipush 255, 3) := by decide +kernel
theorem dX10_tapeNumber_28 : decode cX10_tapeNumber 28 = .ok (.iand, 1) := by decide +kernel
theorem dX10_tapeNumber_29 : decode cX10_tapeNumber 29 = .ok (.ior, 1) := by decide +kernel
theorem dX10_tapeNumber_30 : decode cX10_tapeNumber 30 = .ok (.istore_n 2, 1) := by decide +kernel
theorem dX10_tapeNumber_31 : decode cX10_tapeNumber 31 = .ok (.iinc 3 1, 3) := by decide +kernel
theorem dX10_tapeNumber_34 : decode cX10_tapeNumber 34 = .ok (.goto (-28), 3) := by decide +kernel
theorem dX10_tapeNumber_37 : decode cX10_tapeNumber 37 = .ok (.iload_n 2, 1) := by decide +kernel
theorem dX10_tapeNumber_38 : decode cX10_tapeNumber 38 = .ok (.ireturn, 1) := by decide +kernel
theorem dX10_check_0 : decode cX10_check 0 = .ok (.iload_n 1, 1) := by decide +kernel
theorem dX10_check_1 : decode cX10_check 1 = .ok (.iconst 0, 1) := by decide +kernel
theorem dX10_check_2 : decode cX10_check 2 = .ok (.bipush 10, 2) := by decide +kernel
theorem dX10_check_4 : decode cX10_check 4 = .ok (.invokestatic 175, 3) := by decide +kernel
theorem dX10_check_7 : decode cX10_check 7 = .ok (.ifCond .eq 13, 3) := by decide +kernel
theorem dX10_check_10 : decode cX10_check 10 = .ok (.iload_n 1, 1) := by decide +kernel
theorem dX10_check_11 : decode cX10_check 11 = .ok (.aload_n 0, 1) := by decide +kernel
theorem dX10_check_12 : decode cX10_check 12 = .ok (.getfield 188, 3) := by decide +kernel
theorem dX10_check_15 : decode cX10_check 15 = .ok (.iconst 4, 1) := by decide +kernel
theorem dX10_check_16 : decode cX10_check 16 = .ok (.idiv, 1) := by decide +kernel
theorem dX10_check_17 : decode cX10_check 17 = .ok (.if_icmp .le 6, 3) := by decide +kernel
theorem dX10_check_20 : decode cX10_check 20 = .ok (.bipush (-2), 2) := by decide +kernel
theorem dX10_check_22 : decode cX10_check 22 = .ok (.ireturn, 1) := by decide +kernel
theorem dX10_check_23 : decode cX10_check 23 = .ok (.aload_n 0, 1) := by decide +kernel
theorem dX10_check_24 : decode cX10_check 24 = .ok (.iconst 0, 1) := by decide +kernel
theorem dX10_check_25 : decode cX10_check 25 = .ok (.putfield 188, 3) := by decide +kernel
theorem dX10_check_28 : decode cX10_check 28 = .ok (.iconst 0, 1) := by decide +kernel
theorem dX10_check_29 : decode cX10_check 29 = .ok (.istore_n 2, 1) := by decide +kernel
theorem dX10_check_30 : decode cX10_check 30 = .ok (.iload_n 2, 1) := by decide +kernel
theorem dX10_check_31 : decode cX10_check 31 = .ok (.iload_n 1, 1) := by decide +kernel
theorem dX10_check_32 : decode cX10_check 32 = .ok (.if_icmp .ge 40, 3) := by decide +kernel
theorem dX10_check_35 : decode cX10_check 35 = .ok (.aload_n 0, 1) := by decide +kernel
theorem dX10_check_36 : decode cX10_check 36 = .ok (.iload_n 2, 1) := by decide +kernel
theorem dX10_check_37 : decode cX10_check 37 = .ok (.invokevirtual 439, 3) := by decide +kernel
theorem dX10_check_40 : decode cX10_check 40 = .ok (.aload_n 0, 1) := by decide +kernel
theorem dX10_check_41 : decode cX10_check 41 = .ok (.iload_n 2, 1) := by decide +kernel
theorem dX10_check_42 : decode cX10_check 42 = .ok (.invokevirtual 185, 3) := by decide +kernel
theorem dX10_check_45 : decode cX10_check 45 = .ok (.ifCond .eq 15, 3) := by decide +kernel
theorem dX10_check_48 : decode cX10_check 48 = .ok (.aload_n 0, 1) := by decide +kernel
theorem dX10_check_49 : decode cX10_check 49 = .ok (.getfield 31, 3) := by decide +kernel
theorem dX10_check_52 : decode cX10_check 52 = .ok (.bipush 10, 2) := by decide +kernel
theorem dX10_check_54 : decode cX10_check 54 = .ok (.iload_n 2, 1) := by decide +kernel
theorem dX10_check_55 : decode cX10_check 55 = .ok (.iadd, 1) := by decide +kernel
theorem dX10_check_56 : decode cX10_check 56 = .ok (.iaload, 1) := by decide +kernel
theorem dX10_check_57 : decode cX10_check 57 = .ok (.goto 4, 3) := by decide +kernel
theorem dX10_check_60 : decode cX10_check 60 = .ok (.iconst 0, 1) := by decide +kernel
theorem dX10_check_61 : decode cX10_check 61 = .ok (.if_icmp .eq 5, 3) := by decide +kernel
theorem dX10_check_64 : decode cX10_check 64 = .ok (.iload_n 2, 1) := by decide +kernel
theorem dX10_check_65 : decode cX10_check 65 = .ok (.ireturn, 1) := by decide +kernel
theorem dX10_check_66 : decode cX10_check 66 = .ok (.iinc 2 1, 3) := by decide +kernel
theorem dX10_check_69 : decode cX10_check 69 = .ok (.goto (-39), 3) := by decide +kernel
theorem dX10_check_72 : decode cX10_check 72 = .ok (.iconst (-1), 1) := by decide +kernel
theorem dX10_check_73 : decode cX10_check 73 = .ok (.ireturn, 1) := by decide +kernel
theorem dX10_count_0 : decode cX10_count 0 = .ok (.iload_n 1, 1) := by decide +kernel
theorem dX10_count_1 : decode cX10_count 1 = .ok (.tableswitch 87 0 7 #[47, 52, 57, 62, 67, 72, 77, 82], 47) := by decide +kernel
theorem dX10_count_48 : decode cX10_count 48 = .ok (.aload_n 0, 1) := by decide +kernel
theorem dX10_count_49 : decode cX10_count 49 = .ok (.getfield 233, 3) := by decide +kernel
theorem dX10_count_52 : decode cX10_count 52 = .ok (.ireturn, 1) := by decide +kernel
theorem dX10_count_53 : decode cX10_count 53 = .ok (.aload_n 0, 1) := by decide +kernel
theorem dX10_count_54 : decode cX10_count 54 = .ok (.getfield 309, 3) := by decide +kernel
theorem dX10_count_57 : decode cX10_count 57 = .ok (.ireturn, 1) := by decide +kernel
theorem dX10_count_58 : decode cX10_count 58 = .ok (.aload_n 0, 1) := by decide +kernel
theorem dX10_count_59 : decode cX10_count 59 = .ok (.getfield 188, 3) := by decide +kernel
theorem dX10_count_62 : decode cX10_count 62 = .ok (.ireturn, 1) := by decide +kernel
theorem dX10_count_63 : decode cX10_count 63 = .ok (.aload_n 0, 1) := by decide +kernel
theorem dX10_count_64 : decode cX10_count 64 = .ok (.getfield 154, 3) := by decide +kernel
theorem dX10_count_67 : decode cX10_count 67 = .ok (.ireturn, 1) := by decide +kernel
theorem dX10_count_68 : decode cX10_count 68 = .ok (.aload_n 0, 1) := by decide +kernel
theorem dX10_count_69 : decode cX10_count 69 = .ok (.getfield 182, 3) := by decide +kernel
theorem dX10_count_72 : decode cX10_count 72 = .ok (.ireturn, 1) := by decide +kernel
theorem dX10_count_73 : decode cX10_count 73 = .ok (.aload_n 0, 1) := by decide +kernel
theorem dX10_count_74 : decode cX10_count 74 = .ok (.getfield 158, 3) := by decide +kernel
theorem dX10_count_77 : decode cX10_count 77 = .ok (.ireturn, 1) := by decide +kernel
theorem dX10_count_78 : decode cX10_count 78 = .ok (.aload_n 0, 1) := by decide +kernel
theorem dX10_count_79 : decode cX10_count 79 = .ok (.getfield 168, 3) := by decide +kernel
theorem dX10_count_82 : decode cX10_count 82 = .ok (.ireturn, 1) := by decide +kernel
theorem dX10_count_83 : decode cX10_count 83 = .ok (.aload_n 0, 1) := by decide +kernel
theorem dX10_count_84 : decode cX10_count 84 = .ok (.getfield 161, 3) := by decide +kernel
theorem dX10_count_87 : decode cX10_count 87 = .ok (.ireturn, 1) := by decide +kernel
theorem dX10_count_88 : decode cX10_count 88 = .ok (.iload_n 1, 1) := by decide +kernel
theorem dX10_count_89 : decode cX10_count 89 = .ok (.bipush 10, 2) := by decide +kernel
theorem dX10_count_91 : decode cX10_count 91 = .ok (.bipush 21, 2) := by decide +kernel
theorem dX10_count_93 : decode cX10_count 93 = .ok (.invokestatic 175, 3) := by decide +kernel
theorem dX10_count_96 : decode cX10_count 96 = .ok (.ifCond .eq 13, 3) := by decide +kernel
theorem dX10_count_99 : decode cX10_count 99 = .ok (.aload_n 0, 1) := by decide +kernel
theorem dX10_count_100 : decode cX10_count 100 = .ok (.getfield 7, 3) := by decide +kernel
theorem dX10_count_103 : decode cX10_count 103 = .ok (.iload_n 1, 1) := by decide +kernel
theorem dX10_count_104 : decode cX10_count 104 = .ok (.bipush 10, 2) := by decide +kernel
theorem dX10_count_106 : decode cX10_count 106 = .ok (.isub, 1) := by decide +kernel
theorem dX10_count_107 : decode cX10_count 107 = .ok (.iaload, 1) := by decide +kernel
theorem dX10_count_108 : decode cX10_count 108 = .ok (.ireturn, 1) := by decide +kernel
theorem dX10_count_109 : decode cX10_count 109 = .ok (.iload_n 1, 1) := by decide +kernel
theorem dX10_count_110 : decode cX10_count 110 = .ok (.bipush 30, 2) := by decide +kernel
theorem dX10_count_112 : decode cX10_count 112 = .ok (.bipush 59, 2) := by decide +kernel
theorem dX10_count_114 : decode cX10_count 114 = .ok (.invokestatic 175, 3) := by decide +kernel
theorem dX10_count_117 : decode cX10_count 117 = .ok (.ifCond .eq 60, 3) := by decide +kernel
theorem dX10_count_120 : decode cX10_count 120 = .ok (.aload_n 0, 1) := by decide +kernel
theorem dX10_count_121 : decode cX10_count 121 = .ok (.iload_n 1, 1) := by decide +kernel
theorem dX10_count_122 : decode cX10_count 122 = .ok (.bipush 10, 2) := by decide +kernel
theorem dX10_count_124 : decode cX10_count 124 = .ok (.irem, 1) := by decide +kernel
theorem dX10_count_125 : decode cX10_count 125 = .ok (.invokevirtual 236, 3) := by decide +kernel
theorem dX10_count_128 : decode cX10_count 128 = .ok (.ifCond .eq 49, 3) := by decide +kernel
theorem dX10_count_131 : decode cX10_count 131 = .ok (.iload_n 1, 1) := by decide +kernel
theorem dX10_count_132 : decode cX10_count 132 = .ok (.bipush 40, 2) := by decide +kernel
theorem dX10_count_134 : decode cX10_count 134 = .ok (.if_icmp .ge 15, 3) := by decide +kernel
theorem dX10_count_137 : decode cX10_count 137 = .ok (.aload_n 0, 1) := by decide +kernel
theorem dX10_count_138 : decode cX10_count 138 = .ok (.getfield 22, 3) := by decide +kernel
theorem dX10_count_141 : decode cX10_count 141 = .ok (.iload_n 1, 1) := by decide +kernel
theorem dX10_count_142 : decode cX10_count 142 = .ok (.bipush 30, 2) := by decide +kernel
theorem dX10_count_144 : decode cX10_count 144 = .ok (.isub, 1) := by decide +kernel
theorem dX10_count_145 : decode cX10_count 145 = .ok (.iaload, 1) := by decide +kernel
theorem dX10_count_146 : decode cX10_count 146 = .ok (.goto 30, 3) := by decide +kernel
theorem dX10_count_149 : decode cX10_count 149 = .ok (.iload_n 1, 1) := by decide +kernel
theorem dX10_count_150 : decode cX10_count 150 = .ok (.bipush 50, 2) := by decide +kernel
theorem dX10_count_152 : decode cX10_count 152 = .ok (.if_icmp .ge 15, 3) := by decide +kernel
theorem dX10_count_155 : decode cX10_count 155 = .ok (.aload_n 0, 1) := by decide +kernel
theorem dX10_count_156 : decode cX10_count 156 = .ok (.getfield 19, 3) := by decide +kernel
theorem dX10_count_159 : decode cX10_count 159 = .ok (.iload_n 1, 1) := by decide +kernel
theorem dX10_count_160 : decode cX10_count 160 = .ok (.bipush 40, 2) := by decide +kernel
theorem dX10_count_162 : decode cX10_count 162 = .ok (.isub, 1) := by decide +kernel
theorem dX10_count_163 : decode cX10_count 163 = .ok (.iaload, 1) := by decide +kernel
theorem dX10_count_164 : decode cX10_count 164 = .ok (.goto 12, 3) := by decide +kernel
theorem dX10_count_167 : decode cX10_count 167 = .ok (.aload_n 0, 1) := by decide +kernel
theorem dX10_count_168 : decode cX10_count 168 = .ok (.getfield 28, 3) := by decide +kernel
theorem dX10_count_171 : decode cX10_count 171 = .ok (.iload_n 1, 1) := by decide +kernel
theorem dX10_count_172 : decode cX10_count 172 = .ok (.bipush 50, 2) := by decide +kernel
theorem dX10_count_174 : decode cX10_count 174 = .ok (.isub, 1) := by decide +kernel
theorem dX10_count_175 : decode cX10_count 175 = .ok (.iaload, 1) := by decide +kernel
theorem dX10_count_176 : decode cX10_count 176 = .ok (.ireturn, 1) := by decide +kernel
theorem dX10_count_177 : decode cX10_count 177 = .ok (.iload_n 1, 1) := by decide +kernel
theorem dX10_count_178 : decode cX10_count 178 = .ok (.bipush 100, 2) := by decide +kernel
theorem dX10_count_180 : decode cX10_count 180 = .ok (.sipush 169, 3) := by decide +kernel
theorem dX10_count_183 : decode cX10_count 183 = .ok (.invokestatic 175, 3) := by decide +kernel
theorem dX10_count_186 : decode cX10_count 186 = .ok (.ifCond .eq 26, 3) := by decide +kernel
theorem dX10_count_189 : decode cX10_count 189 = .ok (.aload_n 0, 1) := by decide +kernel
theorem dX10_count_190 : decode cX10_count 190 = .ok (.iload_n 1, 1) := by decide +kernel
theorem dX10_count_191 : decode cX10_count 191 = .ok (.bipush 10, 2) := by decide +kernel
theorem dX10_count_193 : decode cX10_count 193 = .ok (.irem, 1) := by decide +kernel
theorem dX10_count_194 : decode cX10_count 194 = .ok (.invokevirtual 185, 3) := by decide +kernel
theorem dX10_count_197 : decode cX10_count 197 = .ok (.ifCond .eq 15, 3) := by decide +kernel
theorem dX10_count_200 : decode cX10_count 200 = .ok (.aload_n 0, 1) := by decide +kernel
theorem dX10_count_201 : decode cX10_count 201 = .ok (.getfield 16, 3) := by decide +kernel
theorem dX10_count_204 : decode cX10_count 204 = .ok (.iload_n 1, 1) := by decide +kernel
theorem dX10_count_205 : decode cX10_count 205 = .ok (.bipush 100, 2) := by decide +kernel
theorem dX10_count_207 : decode cX10_count 207 = .ok (.isub, 1) := by decide +kernel
theorem dX10_count_208 : decode cX10_count 208 = .ok (.iaload, 1) := by decide +kernel
theorem dX10_count_209 : decode cX10_count 209 = .ok (.goto 4, 3) := by decide +kernel
theorem dX10_count_212 : decode cX10_count 212 = .ok (.iconst (-1), 1) := by decide +kernel
theorem dX10_count_213 : decode cX10_count 213 = .ok (.ireturn, 1) := by decide +kernel
theorem dJ11_isValidCodePoint_9a6ad_0 : decode cJ11_isValidCodePoint_9a6ad 0 = .ok (.iload_n 0, 1) := by decide +kernel
theorem dJ11_isValidCodePoint_9a6ad_1 : decode cJ11_isValidCodePoint_9a6ad 1 = .ok (.bipush 16, 2) := by decide +kernel
theorem dJ11_isValidCodePoint_9a6ad_3 : decode cJ11_isValidCodePoint_9a6ad 3 = .ok (.iushr, 1) := by decide +kernel
theorem dJ11_isValidCodePoint_9a6ad_4 : decode cJ11_isValidCodePoint_9a6ad 4 = .ok (.istore_n 1, 1) := by decide +kernel
theorem dJ11_isValidCodePoint_9a6ad_5 : decode cJ11_isValidCodePoint_9a6ad 5 = .ok (.iload_n 1, 1) := by decide +kernel
theorem dJ11_isValidCodePoint_9a6ad_6 : decode cJ11_isValidCodePoint_9a6ad 6 = .ok (.bipush 17, 2) := by decide +kernel
theorem dJ11_isValidCodePoint_9a6ad_8 : decode cJ11_isValidCodePoint_9a6ad 8 = .ok (.if_icmp .ge 7, 3) := by decide +kernel
theorem dJ11_isValidCodePoint_9a6ad_11 : decode cJ11_isValidCodePoint_9a6ad 11 = .ok (.iconst 1, 1) := by decide +kernel
theorem dJ11_isValidCodePoint_9a6ad_12 : decode cJ11_isValidCodePoint_9a6ad 12 = .ok (.goto 4, 3) := by decide +kernel
theorem dJ11_isValidCodePoint_9a6ad_15 : decode cJ11_isValidCodePoint_9a6ad 15 = .ok (.iconst 0, 1) := by decide +kernel
theorem dJ11_isValidCodePoint_9a6ad_16 : decode cJ11_isValidCodePoint_9a6ad 16 = .ok (.ireturn, 1) := by decide +kernel
theorem dJ11_highSurrogate_5068e_0 : decode cJ11_highSurrogate_5068e 0 = .ok (.iload_n 0, 1) := by decide +kernel
theorem dJ11_highSurrogate_5068e_1 : decode cJ11_highSurrogate_5068e 1 = .ok (.bipush 10, 2) := by decide +kernel
theorem dJ11_highSurrogate_5068e_3 : decode cJ11_highSurrogate_5068e 3 = .ok (.iushr, 1) := by decide +kernel
theorem dJ11_highSurrogate_5068e_4 : decode cJ11_highSurrogate_5068e 4 = .ok (.ldc 110, 2) := by decide +kernel
theorem dJ11_highSurrogate_5068e_6 : decode cJ11_highSurrogate_5068e 6 = .ok (.iadd, 1) := by decide +kernel
theorem dJ11_highSurrogate_5068e_7 : decode cJ11_highSurrogate_5068e 7 = .ok (.i2c, 1) := by decide +kernel
theorem dJ11_highSurrogate_5068e_8 : decode cJ11_highSurrogate_5068e 8 = .ok (.ireturn, 1) := by decide +kernel
theorem dJ11_lowSurrogate_5068e_0 : decode cJ11_lowSurrogate_5068e 0 = .ok (.iload_n 0, 1) := by decide +kernel
theorem dJ11_lowSurrogate_5068e_1 : decode cJ11_lowSurrogate_5068e 1 = .ok (.sipush 1023, 3) := by decide +kernel
theorem dJ11_lowSurrogate_5068e_4 : decode cJ11_lowSurrogate_5068e 4 = .ok (.iand, 1) := by decide +kernel
theorem dJ11_lowSurrogate_5068e_5 : decode cJ11_lowSurrogate_5068e 5 = .ok (.ldc 76, 2) := by decide +kernel
theorem dJ11_lowSurrogate_5068e_7 : decode cJ11_lowSurrogate_5068e 7 = .ok (.iadd, 1) := by decide +kernel
theorem dJ11_lowSurrogate_5068e_8 : decode cJ11_lowSurrogate_5068e 8 = .ok (.i2c, 1) := by decide +kernel
theorem dJ11_lowSurrogate_5068e_9 : decode cJ11_lowSurrogate_5068e 9 = .ok (.ireturn, 1) := by decide +kernel
theorem dJ6_bitCount_0f7a4_0 : decode cJ6_bitCount_0f7a4 0 = .ok (.iload_n 0, 1) := by decide +kernel
theorem dJ6_bitCount_0f7a4_1 : decode cJ6_bitCount_0f7a4 1 = .ok (.iload_n 0, 1) := by decide +kernel
theorem dJ6_bitCount_0f7a4_2 : decode cJ6_bitCount_0f7a4 2 = .ok (.iconst 1, 1) := by decide +kernel
theorem dJ6_bitCount_0f7a4_3 : decode cJ6_bitCount_0f7a4 3 = .ok (.iushr, 1) := by decide +kernel
theorem dJ6_bitCount_0f7a4_4 : decode cJ6_bitCount_0f7a4 4 = .ok (.ldc_w 265, 3) := by decide +kernel
theorem dJ6_bitCount_0f7a4_7 : decode cJ6_bitCount_0f7a4 7 = .ok (.iand, 1) := by decide +kernel
theorem dJ6_bitCount_0f7a4_8 : decode cJ6_bitCount_0f7a4 8 = .ok (.isub, 1) := by decide +kernel
theorem dJ6_bitCount_0f7a4_9 : decode cJ6_bitCount_0f7a4 9 = .ok (.istore_n 0, 1) := by decide +kernel
theorem dJ6_bitCount_0f7a4_10 : decode cJ6_bitCount_0f7a4 10 = .ok (.iload_n 0, 1) := by decide +kernel
theorem dJ6_bitCount_0f7a4_11 : decode cJ6_bitCount_0f7a4 11 = .ok (.ldc_w 266, 3) := by decide +kernel
theorem dJ6_bitCount_0f7a4_14 : decode cJ6_bitCount_0f7a4 14 = .ok (.iand, 1) := by decide +kernel
theorem dJ6_bitCount_0f7a4_15 : decode cJ6_bitCount_0f7a4 15 = .ok (.iload_n 0, 1) := by decide +kernel
theorem dJ6_bitCount_0f7a4_16 : decode cJ6_bitCount_0f7a4 16 = .ok (.iconst 2, 1) := by decide +kernel
theorem dJ6_bitCount_0f7a4_17 : decode cJ6_bitCount_0f7a4 17 = .ok (.iushr, 1) := by decide +kernel
theorem dJ6_bitCount_0f7a4_18 : decode cJ6_bitCount_0f7a4 18 = .ok (.ldc_w 266, 3) := by decide +kernel
theorem dJ6_bitCount_0f7a4_21 : decode cJ6_bitCount_0f7a4 21 = .ok (.iand, 1) := by decide +kernel
theorem dJ6_bitCount_0f7a4_22 : decode cJ6_bitCount_0f7a4 22 = .ok (.iadd, 1) := by decide +kernel
theorem dJ6_bitCount_0f7a4_23 : decode cJ6_bitCount_0f7a4 23 = .ok (.istore_n 0, 1) := by decide +kernel
theorem dJ6_bitCount_0f7a4_24 : decode cJ6_bitCount_0f7a4 24 = .ok (.iload_n 0, 1) := by decide +kernel
theorem dJ6_bitCount_0f7a4_25 : decode cJ6_bitCount_0f7a4 25 = .ok (.iload_n 0, 1) := by decide +kernel
theorem dJ6_bitCount_0f7a4_26 : decode cJ6_bitCount_0f7a4 26 = .ok (.iconst 4, 1) := by decide +kernel
theorem dJ6_bitCount_0f7a4_27 : decode cJ6_bitCount_0f7a4 27 = .ok (.iushr, 1) := by decide +kernel
theorem dJ6_bitCount_0f7a4_28 : decode cJ6_bitCount_0f7a4 28 = .ok (.iadd, 1) := by decide +kernel
theorem dJ6_bitCount_0f7a4_29 : decode cJ6_bitCount_0f7a4 29 = .ok (.ldc_w 267, 3) := by decide +kernel
theorem dJ6_bitCount_0f7a4_32 : decode cJ6_bitCount_0f7a4 32 = .ok (.iand, 1) := by decide +kernel
theorem dJ6_bitCount_0f7a4_33 : decode cJ6_bitCount_0f7a4 33 = .ok (.istore_n 0, 1) := by decide +kernel
theorem dJ6_bitCount_0f7a4_34 : decode cJ6_bitCount_0f7a4 34 = .ok (.iload_n 0, 1) := by decide +kernel
theorem dJ6_bitCount_0f7a4_35 : decode cJ6_bitCount_0f7a4 35 = .ok (.iload_n 0, 1) := by decide +kernel
theorem dJ6_bitCount_0f7a4_36 : decode cJ6_bitCount_0f7a4 36 = .ok (.bipush 8, 2) := by decide +kernel
theorem dJ6_bitCount_0f7a4_38 : decode cJ6_bitCount_0f7a4 38 = .ok (.iushr, 1) := by decide +kernel
theorem dJ6_bitCount_0f7a4_39 : decode cJ6_bitCount_0f7a4 39 = .ok (.iadd, 1) := by decide +kernel
theorem dJ6_bitCount_0f7a4_40 : decode cJ6_bitCount_0f7a4 40 = .ok (.istore_n 0, 1) := by decide +kernel
theorem dJ6_bitCount_0f7a4_41 : decode cJ6_bitCount_0f7a4 41 = .ok (.iload_n 0, 1) := by decide +kernel
theorem dJ6_bitCount_0f7a4_42 : decode cJ6_bitCount_0f7a4 42 = .ok (.iload_n 0, 1) := by decide +kernel
theorem dJ6_bitCount_0f7a4_43 : decode cJ6_bitCount_0f7a4 43 = .ok (.bipush 16, 2) := by decide +kernel
theorem dJ6_bitCount_0f7a4_45 : decode cJ6_bitCount_0f7a4 45 = .ok (.iushr, 1) := by decide +kernel
theorem dJ6_bitCount_0f7a4_46 : decode cJ6_bitCount_0f7a4 46 = .ok (.iadd, 1) := by decide +kernel
theorem dJ6_bitCount_0f7a4_47 : decode cJ6_bitCount_0f7a4 47 = .ok (.istore_n 0, 1) := by decide +kernel
theorem dJ6_bitCount_0f7a4_48 : decode cJ6_bitCount_0f7a4 48 = .ok (.iload_n 0, 1) := by decide +kernel
theorem dJ6_bitCount_0f7a4_49 : decode cJ6_bitCount_0f7a4 49 = .ok (.bipush 63, 2) := by decide +kernel
theorem dJ6_bitCount_0f7a4_51 : decode cJ6_bitCount_0f7a4 51 = .ok (.iand, 1) := by decide +kernel
theorem dJ6_bitCount_0f7a4_52 : decode cJ6_bitCount_0f7a4 52 = .ok (.ireturn, 1) := by decide +kernel
theorem dJ9_max_7cf53_0 : decode cJ9_max_7cf53 0 = .ok (.iload_n 0, 1) := by decide +kernel
theorem dJ9_max_7cf53_1 : decode cJ9_max_7cf53 1 = .ok (.iload_n 1, 1) := by decide +kernel
theorem dJ9_max_7cf53_2 : decode cJ9_max_7cf53 2 = .ok (.if_icmp .lt 7, 3) := by decide +kernel
theorem dJ9_max_7cf53_5 : decode cJ9_max_7cf53 5 = .ok (.iload_n 0, 1) := by decide +kernel
theorem dJ9_max_7cf53_6 : decode cJ9_max_7cf53 6 = .ok (.goto 4, 3) := by decide +kernel
theorem dJ9_max_7cf53_9 : decode cJ9_max_7cf53 9 = .ok (.iload_n 1, 1) := by decide +kernel
theorem dJ9_max_7cf53_10 : decode cJ9_max_7cf53 10 = .ok (.ireturn, 1) := by decide +kernel
theorem dJ9_min_7cf53_0 : decode cJ9_min_7cf53 0 = .ok (.iload_n 0, 1) := by decide +kernel
theorem dJ9_min_7cf53_1 : decode cJ9_min_7cf53 1 = .ok (.iload_n 1, 1) := by decide +kernel
theorem dJ9_min_7cf53_2 : decode cJ9_min_7cf53 2 = .ok (.if_icmp .gt 7, 3) := by decide +kernel
theorem dJ9_min_7cf53_5 : decode cJ9_min_7cf53 5 = .ok (.iload_n 0, 1) := by decide +kernel
theorem dJ9_min_7cf53_6 : decode cJ9_min_7cf53 6 = .ok (.goto 4, 3) := by decide +kernel
theorem dJ9_min_7cf53_9 : decode cJ9_min_7cf53 9 = .ok (.iload_n 1, 1) := by decide +kernel
theorem dJ9_min_7cf53_10 : decode cJ9_min_7cf53 10 = .ok (.ireturn, 1) := by decide +kernel
theorem dJ0_length_8abf5_0 : decode cJ0_length_8abf5 0 = .ok (.aload_n 0, 1) := by decide +kernel
theorem dJ0_length_8abf5_1 : decode cJ0_length_8abf5 1 = .ok (.getfield 9, 3) := by decide +kernel
theorem dJ0_length_8abf5_4 : decode cJ0_length_8abf5 4 = .ok (.arraylength, 1) := by decide +kernel
theorem dJ0_length_8abf5_5 : decode cJ0_length_8abf5 5 = .ok (.aload_n 0, 1) := by decide +kernel
theorem dJ0_length_8abf5_6 : decode cJ0_length_8abf5 6 = .ok (.invokevirtual 335, 3) := by decide +kernel
theorem dJ0_length_8abf5_9 : decode cJ0_length_8abf5 9 = .ok (.ishr, 1) := by decide +kernel
theorem dJ0_length_8abf5_10 : decode cJ0_length_8abf5 10 = .ok (.ireturn, 1) := by decide +kernel
theorem dJ0_indexOf_0f7a4_0 : decode cJ0_indexOf_0f7a4 0 = .ok (.aload_n 0, 1) := by decide +kernel
theorem dJ0_indexOf_0f7a4_1 : decode cJ0_indexOf_0f7a4 1 = .ok (.iload_n 1, 1) := by decide +kernel
theorem dJ0_indexOf_0f7a4_2 : decode cJ0_indexOf_0f7a4 2 = .ok (.iconst 0, 1) := by decide +kernel
theorem dJ0_indexOf_0f7a4_3 : decode cJ0_indexOf_0f7a4 3 = .ok (.invokevirtual 633, 3) := by decide +kernel
theorem dJ0_indexOf_0f7a4_6 : decode cJ0_indexOf_0f7a4 6 = .ok (.ireturn, 1) := by decide +kernel
theorem dJ0_indexOf_7cf53_0 : decode cJ0_indexOf_7cf53 0 = .ok (.aload_n 0, 1) := by decide +kernel
theorem dJ0_indexOf_7cf53_1 : decode cJ0_indexOf_7cf53 1 = .ok (.invokevirtual 492, 3) := by decide +kernel
theorem dJ0_indexOf_7cf53_4 : decode cJ0_indexOf_7cf53 4 = .ok (.ifCond .eq 19, 3) := by decide +kernel
theorem dJ0_indexOf_7cf53_7 : decode cJ0_indexOf_7cf53 7 = .ok (.aload_n 0, 1) := by decide +kernel
theorem dJ0_indexOf_7cf53_8 : decode cJ0_indexOf_7cf53 8 = .ok (.getfield 9, 3) := by decide +kernel
theorem dJ0_indexOf_7cf53_11 : decode cJ0_indexOf_7cf53 11 = .ok (.iload_n 1, 1) := by decide +kernel
theorem dJ0_indexOf_7cf53_12 : decode cJ0_indexOf_7cf53 12 = .ok (.iload_n 2, 1) := by decide +kernel
theorem dJ0_indexOf_7cf53_13 : decode cJ0_indexOf_7cf53 13 = .ok (.aload_n 0, 1) := by decide +kernel
theorem dJ0_indexOf_7cf53_14 : decode cJ0_indexOf_7cf53 14 = .ok (.invokevirtual 505, 3) := by decide +kernel
theorem dJ0_indexOf_7cf53_17 : decode cJ0_indexOf_7cf53 17 = .ok (.invokestatic 637, 3) := by decide +kernel
theorem dJ0_indexOf_7cf53_20 : decode cJ0_indexOf_7cf53 20 = .ok (.goto 16, 3) := by decide +kernel
theorem dJ0_indexOf_7cf53_23 : decode cJ0_indexOf_7cf53 23 = .ok (.aload_n 0, 1) := by decide +kernel
theorem dJ0_indexOf_7cf53_24 : decode cJ0_indexOf_7cf53 24 = .ok (.getfield 9, 3) := by decide +kernel
theorem dJ0_indexOf_7cf53_27 : decode cJ0_indexOf_7cf53 27 = .ok (.iload_n 1, 1) := by decide +kernel
theorem dJ0_indexOf_7cf53_28 : decode cJ0_indexOf_7cf53 28 = .ok (.iload_n 2, 1) := by decide +kernel
theorem dJ0_indexOf_7cf53_29 : decode cJ0_indexOf_7cf53 29 = .ok (.aload_n 0, 1) := by decide +kernel
theorem dJ0_indexOf_7cf53_30 : decode cJ0_indexOf_7cf53 30 = .ok (.invokevirtual 505, 3) := by decide +kernel
theorem dJ0_indexOf_7cf53_33 : decode cJ0_indexOf_7cf53 33 = .ok (.invokestatic 640, 3) := by decide +kernel
theorem dJ0_indexOf_7cf53_36 : decode cJ0_indexOf_7cf53 36 = .ok (.ireturn, 1) := by decide +kernel
theorem dJ0_coder_7d493_0 : decode cJ0_coder_7d493 0 = .ok (.getstatic 38, 3) := by decide +kernel
theorem dJ0_coder_7d493_3 : decode cJ0_coder_7d493 3 = .ok (.ifCond .eq 10, 3) := by decide +kernel
theorem dJ0_coder_7d493_6 : decode cJ0_coder_7d493 6 = .ok (.aload_n 0, 1) := by decide +kernel
theorem dJ0_coder_7d493_7 : decode cJ0_coder_7d493 7 = .ok (.getfield 15, 3) := by decide +kernel
theorem dJ0_coder_7d493_10 : decode cJ0_coder_7d493 10 = .ok (.goto 4, 3) := by decide +kernel
theorem dJ0_coder_7d493_13 : decode cJ0_coder_7d493 13 = .ok (.iconst 1, 1) := by decide +kernel
theorem dJ0_coder_7d493_14 : decode cJ0_coder_7d493 14 = .ok (.ireturn, 1) := by decide +kernel
theorem dJ0_isLatin1_aae02_0 : decode cJ0_isLatin1_aae02 0 = .ok (.getstatic 38, 3) := by decide +kernel
theorem dJ0_isLatin1_aae02_3 : decode cJ0_isLatin1_aae02 3 = .ok (.ifCond .eq 14, 3) := by decide +kernel
theorem dJ0_isLatin1_aae02_6 : decode cJ0_isLatin1_aae02 6 = .ok (.aload_n 0, 1) := by decide +kernel
theorem dJ0_isLatin1_aae02_7 : decode cJ0_isLatin1_aae02 7 = .ok (.getfield 15, 3) := by decide +kernel
theorem dJ0_isLatin1_aae02_10 : decode cJ0_isLatin1_aae02 10 = .ok (.ifCond .ne 7, 3) := by decide +kernel
theorem dJ0_isLatin1_aae02_13 : decode cJ0_isLatin1_aae02 13 = .ok (.iconst 1, 1) := by decide +kernel
theorem dJ0_isLatin1_aae02_14 : decode cJ0_isLatin1_aae02 14 = .ok (.goto 4, 3) := by decide +kernel
theorem dJ0_isLatin1_aae02_17 : decode cJ0_isLatin1_aae02 17 = .ok (.iconst 0, 1) := by decide +kernel
theorem dJ0_isLatin1_aae02_18 : decode cJ0_isLatin1_aae02 18 = .ok (.ireturn, 1) := by decide +kernel
theorem dJ0_checkBoundsBeginEnd_23922_0 : decode cJ0_checkBoundsBeginEnd_23922 0 = .ok (.iload_n 0, 1) := by decide +kernel
theorem dJ0_checkBoundsBeginEnd_23922_1 : decode cJ0_checkBoundsBeginEnd_23922 1 = .ok (.iload_n 1, 1) := by decide +kernel
theorem dJ0_checkBoundsBeginEnd_23922_2 : decode cJ0_checkBoundsBeginEnd_23922 2 = .ok (.iload_n 2, 1) := by decide +kernel
theorem dJ0_checkBoundsBeginEnd_23922_3 : decode cJ0_checkBoundsBeginEnd_23922 3 = .ok (.getstatic 1053, 3) := by decide +kernel
theorem dJ0_checkBoundsBeginEnd_23922_6 : decode cJ0_checkBoundsBeginEnd_23922 6 = .ok (.invokestatic 1062, 3) := by decide +kernel
theorem dJ0_checkBoundsBeginEnd_23922_9 : decode cJ0_checkBoundsBeginEnd_23922 9 = .ok (.pop, 1) := by decide +kernel
theorem dJ0_checkBoundsBeginEnd_23922_10 : decode cJ0_checkBoundsBeginEnd_23922 10 = .ok (.return_, 1) := by decide +kernel
theorem dJ1_canEncode_9a6ad_0 : decode cJ1_canEncode_9a6ad 0 = .ok (.iload_n 0, 1) := by decide +kernel
theorem dJ1_canEncode_9a6ad_1 : decode cJ1_canEncode_9a6ad 1 = .ok (.ifCond .lt 14, 3) := by decide +kernel
theorem dJ1_canEncode_9a6ad_4 : decode cJ1_canEncode_9a6ad 4 = .ok (.iload_n 0, 1) := by decide +kernel
theorem dJ1_canEncode_9a6ad_5 : decode cJ1_canEncode_9a6ad 5 = .ok (.sipush 255, 3) := by decide +kernel
theorem dJ1_canEncode_9a6ad_8 : decode cJ1_canEncode_9a6ad 8 = .ok (.if_icmp .gt 7, 3) := by decide +kernel
theorem dJ1_canEncode_9a6ad_11 : decode cJ1_canEncode_9a6ad 11 = .ok (.iconst 1, 1) := by decide +kernel
theorem dJ1_canEncode_9a6ad_12 : decode cJ1_canEncode_9a6ad 12 = .ok (.goto 4, 3) := by decide +kernel
theorem dJ1_canEncode_9a6ad_15 : decode cJ1_canEncode_9a6ad 15 = .ok (.iconst 0, 1) := by decide +kernel
theorem dJ1_canEncode_9a6ad_16 : decode cJ1_canEncode_9a6ad 16 = .ok (.ireturn, 1) := by decide +kernel
theorem dJ1_indexOf_4cfef_0 : decode cJ1_indexOf_4cfef 0 = .ok (.iload_n 1, 1) := by decide +kernel
theorem dJ1_indexOf_4cfef_1 : decode cJ1_indexOf_4cfef 1 = .ok (.invokestatic 88, 3) := by decide +kernel
theorem dJ1_indexOf_4cfef_4 : decode cJ1_indexOf_4cfef 4 = .ok (.ifCond .ne 5, 3) := by decide +kernel
theorem dJ1_indexOf_4cfef_7 : decode cJ1_indexOf_4cfef 7 = .ok (.iconst (-1), 1) := by decide +kernel
theorem dJ1_indexOf_4cfef_8 : decode cJ1_indexOf_4cfef 8 = .ok (.ireturn, 1) := by decide +kernel
theorem dJ1_indexOf_4cfef_9 : decode cJ1_indexOf_4cfef 9 = .ok (.iload_n 2, 1) := by decide +kernel
theorem dJ1_indexOf_4cfef_10 : decode cJ1_indexOf_4cfef 10 = .ok (.iconst 0, 1) := by decide +kernel
theorem dJ1_indexOf_4cfef_11 : decode cJ1_indexOf_4cfef 11 = .ok (.invokestatic 92, 3) := by decide +kernel
theorem dJ1_indexOf_4cfef_14 : decode cJ1_indexOf_4cfef 14 = .ok (.istore_n 2, 1) := by decide +kernel
theorem dJ1_indexOf_4cfef_15 : decode cJ1_indexOf_4cfef 15 = .ok (.iload_n 3, 1) := by decide +kernel
theorem dJ1_indexOf_4cfef_16 : decode cJ1_indexOf_4cfef 16 = .ok (.aload_n 0, 1) := by decide +kernel
theorem dJ1_indexOf_4cfef_17 : decode cJ1_indexOf_4cfef 17 = .ok (.arraylength, 1) := by decide +kernel
theorem dJ1_indexOf_4cfef_18 : decode cJ1_indexOf_4cfef 18 = .ok (.invokestatic 38, 3) := by decide +kernel
theorem dJ1_indexOf_4cfef_21 : decode cJ1_indexOf_4cfef 21 = .ok (.istore_n 3, 1) := by decide +kernel
theorem dJ1_indexOf_4cfef_22 : decode cJ1_indexOf_4cfef 22 = .ok (.iload_n 2, 1) := by decide +kernel
theorem dJ1_indexOf_4cfef_23 : decode cJ1_indexOf_4cfef 23 = .ok (.iload_n 3, 1) := by decide +kernel
theorem dJ1_indexOf_4cfef_24 : decode cJ1_indexOf_4cfef 24 = .ok (.if_icmp .lt 5, 3) := by decide +kernel
theorem dJ1_indexOf_4cfef_27 : decode cJ1_indexOf_4cfef 27 = .ok (.iconst (-1), 1) := by decide +kernel
theorem dJ1_indexOf_4cfef_28 : decode cJ1_indexOf_4cfef 28 = .ok (.ireturn, 1) := by decide +kernel
theorem dJ1_indexOf_4cfef_29 : decode cJ1_indexOf_4cfef 29 = .ok (.aload_n 0, 1) := by decide +kernel
theorem dJ1_indexOf_4cfef_30 : decode cJ1_indexOf_4cfef 30 = .ok (.iload_n 1, 1) := by decide +kernel
theorem dJ1_indexOf_4cfef_31 : decode cJ1_indexOf_4cfef 31 = .ok (.iload_n 2, 1) := by decide +kernel
theorem dJ1_indexOf_4cfef_32 : decode cJ1_indexOf_4cfef 32 = .ok (.iload_n 3, 1) := by decide +kernel
theorem dJ1_indexOf_4cfef_33 : decode cJ1_indexOf_4cfef 33 = .ok (.invokestatic 95, 3) := by decide +kernel
theorem dJ1_indexOf_4cfef_36 : decode cJ1_indexOf_4cfef 36 = .ok (.ireturn, 1) := by decide +kernel
theorem dJ1_indexOfChar_4cfef_0 : decode cJ1_indexOfChar_4cfef 0 = .ok (.iload_n 1, 1) := by decide +kernel
theorem dJ1_indexOfChar_4cfef_1 : decode cJ1_indexOfChar_4cfef 1 = .ok (.i2b, 1) := by decide +kernel
theorem dJ1_indexOfChar_4cfef_2 : decode cJ1_indexOfChar_4cfef 2 = .ok (.istore 4, 2) := by decide +kernel
theorem dJ1_indexOfChar_4cfef_4 : decode cJ1_indexOfChar_4cfef 4 = .ok (.iload_n 2, 1) := by decide +kernel
theorem dJ1_indexOfChar_4cfef_5 : decode cJ1_indexOfChar_4cfef 5 = .ok (.istore 5, 2) := by decide +kernel
theorem dJ1_indexOfChar_4cfef_7 : decode cJ1_indexOfChar_4cfef 7 = .ok (.iload 5, 2) := by decide +kernel
theorem dJ1_indexOfChar_4cfef_9 : decode cJ1_indexOfChar_4cfef 9 = .ok (.iload_n 3, 1) := by decide +kernel
theorem dJ1_indexOfChar_4cfef_10 : decode cJ1_indexOfChar_4cfef 10 = .ok (.if_icmp .ge 21, 3) := by decide +kernel
theorem dJ1_indexOfChar_4cfef_13 : decode cJ1_indexOfChar_4cfef 13 = .ok (.aload_n 0, 1) := by decide +kernel
theorem dJ1_indexOfChar_4cfef_14 : decode cJ1_indexOfChar_4cfef 14 = .ok (.iload 5, 2) := by decide +kernel
theorem dJ1_indexOfChar_4cfef_16 : decode cJ1_indexOfChar_4cfef 16 = .ok (.baload, 1) := by decide +kernel
theorem dJ1_indexOfChar_4cfef_17 : decode cJ1_indexOfChar_4cfef 17 = .ok (.iload 4, 2) := by decide +kernel
theorem dJ1_indexOfChar_4cfef_19 : decode cJ1_indexOfChar_4cfef 19 = .ok (.if_icmp .ne 6, 3) := by decide +kernel
theorem dJ1_indexOfChar_4cfef_22 : decode cJ1_indexOfChar_4cfef 22 = .ok (.iload 5, 2) := by decide +kernel
theorem dJ1_indexOfChar_4cfef_24 : decode cJ1_indexOfChar_4cfef 24 = .ok (.ireturn, 1) := by decide +kernel
theorem dJ1_indexOfChar_4cfef_25 : decode cJ1_indexOfChar_4cfef 25 = .ok (.iinc 5 1, 3) := by decide +kernel
theorem dJ1_indexOfChar_4cfef_28 : decode cJ1_indexOfChar_4cfef 28 = .ok (.goto (-21), 3) := by decide +kernel
theorem dJ1_indexOfChar_4cfef_31 : decode cJ1_indexOfChar_4cfef 31 = .ok (.iconst (-1), 1) := by decide +kernel
theorem dJ1_indexOfChar_4cfef_32 : decode cJ1_indexOfChar_4cfef 32 = .ok (.ireturn, 1) := by decide +kernel
theorem dJ2_getChar_3b067_0 : decode cJ2_getChar_3b067 0 = .ok (.getstatic 44, 3) := by decide +kernel
theorem dJ2_getChar_3b067_3 : decode cJ2_getChar_3b067 3 = .ok (.ifCond .ne 25, 3) := by decide +kernel
theorem dJ2_getChar_3b067_6 : decode cJ2_getChar_3b067 6 = .ok (.iload_n 1, 1) := by decide +kernel
theorem dJ2_getChar_3b067_7 : decode cJ2_getChar_3b067 7 = .ok (.ifCond .lt 11, 3) := by decide +kernel
theorem dJ2_getChar_3b067_10 : decode cJ2_getChar_3b067 10 = .ok (.iload_n 1, 1) := by decide +kernel
theorem dJ2_getChar_3b067_11 : decode cJ2_getChar_3b067 11 = .ok (.aload_n 0, 1) := by decide +kernel
theorem dJ2_getChar_3b067_12 : decode cJ2_getChar_3b067 12 = .ok (.invokestatic 48, 3) := by decide +kernel
theorem dJ2_getChar_3b067_15 : decode cJ2_getChar_3b067 15 = .ok (.if_icmp .lt 13, 3) := by decide +kernel
theorem dJ2_getChar_3b067_18 : decode cJ2_getChar_3b067 18 = .ok (.new 52, 3) := by decide +kernel
theorem dJ2_getChar_3b067_21 : decode cJ2_getChar_3b067 21 = .ok (.dup, 1) := by decide +kernel
theorem dJ2_getChar_3b067_22 : decode cJ2_getChar_3b067 22 = .ok (.ldc 54, 2) := by decide +kernel
theorem dJ2_getChar_3b067_24 : decode cJ2_getChar_3b067 24 = .ok (.invokespecial 56, 3) := by decide +kernel
theorem dJ2_getChar_3b067_27 : decode cJ2_getChar_3b067 27 = .ok (.athrow, 1) := by decide +kernel
theorem dJ2_getChar_3b067_28 : decode cJ2_getChar_3b067 28 = .ok (.iload_n 1, 1) := by decide +kernel
theorem dJ2_getChar_3b067_29 : decode cJ2_getChar_3b067 29 = .ok (.iconst 1, 1) := by decide +kernel
theorem dJ2_getChar_3b067_30 : decode cJ2_getChar_3b067 30 = .ok (.ishl, 1) := by decide +kernel
theorem dJ2_getChar_3b067_31 : decode cJ2_getChar_3b067 31 = .ok (.istore_n 1, 1) := by decide +kernel
theorem dJ2_getChar_3b067_32 : decode cJ2_getChar_3b067 32 = .ok (.aload_n 0, 1) := by decide +kernel
theorem dJ2_getChar_3b067_33 : decode cJ2_getChar_3b067 33 = .ok (.iload_n 1, 1) := by decide +kernel
theorem dJ2_getChar_3b067_34 : decode cJ2_getChar_3b067 34 = .ok (.iinc 1 1, 3) := by decide +kernel
theorem dJ2_getChar_3b067_37 : decode cJ2_getChar_3b067 37 = .ok (.baload, 1) := by decide +kernel
theorem dJ2_getChar_3b067_38 : decode cJ2_getChar_3b067 38 = .ok (.sipush 255, 3) := by decide +kernel
theorem dJ2_getChar_3b067_41 : decode cJ2_getChar_3b067 41 = .ok (.iand, 1) := by decide +kernel
theorem dJ2_getChar_3b067_42 : decode cJ2_getChar_3b067 42 = .ok (.getstatic 59, 3) := by decide +kernel
theorem dJ2_getChar_3b067_45 : decode cJ2_getChar_3b067 45 = .ok (.ishl, 1) := by decide +kernel
theorem dJ2_getChar_3b067_46 : decode cJ2_getChar_3b067 46 = .ok (.aload_n 0, 1) := by decide +kernel
theorem dJ2_getChar_3b067_47 : decode cJ2_getChar_3b067 47 = .ok (.iload_n 1, 1) := by decide +kernel
theorem dJ2_getChar_3b067_48 : decode cJ2_getChar_3b067 48 = .ok (.baload, 1) := by decide +kernel
theorem dJ2_getChar_3b067_49 : decode cJ2_getChar_3b067 49 = .ok (.sipush 255, 3) := by decide +kernel
theorem dJ2_getChar_3b067_52 : decode cJ2_getChar_3b067 52 = .ok (.iand, 1) := by decide +kernel
theorem dJ2_getChar_3b067_53 : decode cJ2_getChar_3b067 53 = .ok (.getstatic 63, 3) := by decide +kernel
theorem dJ2_getChar_3b067_56 : decode cJ2_getChar_3b067 56 = .ok (.ishl, 1) := by decide +kernel
theorem dJ2_getChar_3b067_57 : decode cJ2_getChar_3b067 57 = .ok (.ior, 1) := by decide +kernel
theorem dJ2_getChar_3b067_58 : decode cJ2_getChar_3b067 58 = .ok (.i2c, 1) := by decide +kernel
theorem dJ2_getChar_3b067_59 : decode cJ2_getChar_3b067 59 = .ok (.ireturn, 1) := by decide +kernel
theorem dJ2_length_9d52b_0 : decode cJ2_length_9d52b 0 = .ok (.aload_n 0, 1) := by decide +kernel
theorem dJ2_length_9d52b_1 : decode cJ2_length_9d52b 1 = .ok (.arraylength, 1) := by decide +kernel
theorem dJ2_length_9d52b_2 : decode cJ2_length_9d52b 2 = .ok (.iconst 1, 1) := by decide +kernel
theorem dJ2_length_9d52b_3 : decode cJ2_length_9d52b 3 = .ok (.ishr, 1) := by decide +kernel
theorem dJ2_length_9d52b_4 : decode cJ2_length_9d52b 4 = .ok (.ireturn, 1) := by decide +kernel
theorem dJ2_indexOf_4cfef_0 : decode cJ2_indexOf_4cfef 0 = .ok (.iload_n 2, 1) := by decide +kernel
theorem dJ2_indexOf_4cfef_1 : decode cJ2_indexOf_4cfef 1 = .ok (.iconst 0, 1) := by decide +kernel
theorem dJ2_indexOf_4cfef_2 : decode cJ2_indexOf_4cfef 2 = .ok (.invokestatic 224, 3) := by decide +kernel
theorem dJ2_indexOf_4cfef_5 : decode cJ2_indexOf_4cfef 5 = .ok (.istore_n 2, 1) := by decide +kernel
theorem dJ2_indexOf_4cfef_6 : decode cJ2_indexOf_4cfef 6 = .ok (.iload_n 3, 1) := by decide +kernel
theorem dJ2_indexOf_4cfef_7 : decode cJ2_indexOf_4cfef 7 = .ok (.aload_n 0, 1) := by decide +kernel
theorem dJ2_indexOf_4cfef_8 : decode cJ2_indexOf_4cfef 8 = .ok (.arraylength, 1) := by decide +kernel
theorem dJ2_indexOf_4cfef_9 : decode cJ2_indexOf_4cfef 9 = .ok (.iconst 1, 1) := by decide +kernel
theorem dJ2_indexOf_4cfef_10 : decode cJ2_indexOf_4cfef 10 = .ok (.ishr, 1) := by decide +kernel
theorem dJ2_indexOf_4cfef_11 : decode cJ2_indexOf_4cfef 11 = .ok (.invokestatic 183, 3) := by decide +kernel
theorem dJ2_indexOf_4cfef_14 : decode cJ2_indexOf_4cfef 14 = .ok (.istore_n 3, 1) := by decide +kernel
theorem dJ2_indexOf_4cfef_15 : decode cJ2_indexOf_4cfef 15 = .ok (.iload_n 2, 1) := by decide +kernel
theorem dJ2_indexOf_4cfef_16 : decode cJ2_indexOf_4cfef 16 = .ok (.iload_n 3, 1) := by decide +kernel
theorem dJ2_indexOf_4cfef_17 : decode cJ2_indexOf_4cfef 17 = .ok (.if_icmp .lt 5, 3) := by decide +kernel
theorem dJ2_indexOf_4cfef_20 : decode cJ2_indexOf_4cfef 20 = .ok (.iconst (-1), 1) := by decide +kernel
theorem dJ2_indexOf_4cfef_21 : decode cJ2_indexOf_4cfef 21 = .ok (.ireturn, 1) := by decide +kernel
theorem dJ2_indexOf_4cfef_22 : decode cJ2_indexOf_4cfef 22 = .ok (.iload_n 1, 1) := by decide +kernel
theorem dJ2_indexOf_4cfef_23 : decode cJ2_indexOf_4cfef 23 = .ok (.ldc 227, 2) := by decide +kernel
theorem dJ2_indexOf_4cfef_25 : decode cJ2_indexOf_4cfef 25 = .ok (.if_icmp .ge 11, 3) := by decide +kernel
theorem dJ2_indexOf_4cfef_28 : decode cJ2_indexOf_4cfef 28 = .ok (.aload_n 0, 1) := by decide +kernel
theorem dJ2_indexOf_4cfef_29 : decode cJ2_indexOf_4cfef 29 = .ok (.iload_n 1, 1) := by decide +kernel
theorem dJ2_indexOf_4cfef_30 : decode cJ2_indexOf_4cfef 30 = .ok (.iload_n 2, 1) := by decide +kernel
theorem dJ2_indexOf_4cfef_31 : decode cJ2_indexOf_4cfef 31 = .ok (.iload_n 3, 1) := by decide +kernel
theorem dJ2_indexOf_4cfef_32 : decode cJ2_indexOf_4cfef 32 = .ok (.invokestatic 228, 3) := by decide +kernel
theorem dJ2_indexOf_4cfef_35 : decode cJ2_indexOf_4cfef 35 = .ok (.ireturn, 1) := by decide +kernel
theorem dJ2_indexOf_4cfef_36 : decode cJ2_indexOf_4cfef 36 = .ok (.aload_n 0, 1) := by decide +kernel
theorem dJ2_indexOf_4cfef_37 : decode cJ2_indexOf_4cfef 37 = .ok (.iload_n 1, 1) := by decide +kernel
theorem dJ2_indexOf_4cfef_38 : decode cJ2_indexOf_4cfef 38 = .ok (.iload_n 2, 1) := by decide +kernel
theorem dJ2_indexOf_4cfef_39 : decode cJ2_indexOf_4cfef 39 = .ok (.iload_n 3, 1) := by decide +kernel
theorem dJ2_indexOf_4cfef_40 : decode cJ2_indexOf_4cfef 40 = .ok (.invokestatic 232, 3) := by decide +kernel
theorem dJ2_indexOf_4cfef_43 : decode cJ2_indexOf_4cfef 43 = .ok (.ireturn, 1) := by decide +kernel
