theorem dX10_law_20 : decode cX10_law 20 = .ok (.ireturn, 1) := by decide +kernel
theorem dX10_law_21 : decode cX10_law 21 = .ok (.aload_n 0, 1) := by decide +kernel
theorem dX10_law_22 : decode cX10_law 22 = .ok (.iconst 0, 1) := by decide +kernel
theorem dX10_law_23 : decode cX10_law 23 = .ok (.putfield 203, 3) := by decide +kernel
theorem dX10_law_26 : decode cX10_law 26 = .ok (.aload_n 0, 1) := by decide +kernel
theorem dX10_law_27 : decode cX10_law 27 = .ok (.iload_n 1, 1) := by decide +kernel
theorem dX10_law_28 : decode cX10_law 28 = .ok (.putfield 224, 3) := by decide +kernel
theorem dX10_law_31 : decode cX10_law 31 = .ok (.aload_n 0, 1) := by decide +kernel
theorem dX10_law_32 : decode cX10_law 32 = .ok (.iconst 0, 1) := by decide +kernel
theorem dX10_law_33 : decode cX10_law 33 = .ok (.putfield 242, 3) := by decide +kernel
theorem dX10_law_36 : decode cX10_law 36 = .ok (.aload_n 0, 1) := by decide +kernel
theorem dX10_law_37 : decode cX10_law 37 = .ok (.iconst 0, 1) := by decide +kernel
theorem dX10_law_38 : decode cX10_law 38 = .ok (.putfield 300, 3) := by decide +kernel
theorem dX10_law_41 : decode cX10_law 41 = .ok (.aload_n 0, 1) := by decide +kernel
theorem dX10_law_42 : decode cX10_law 42 = .ok (.invokevirtual 306, 3) := by decide +kernel
theorem dX10_law_45 : decode cX10_law 45 = .ok (.istore_n 2, 1) := by decide +kernel
theorem dX10_law_46 : decode cX10_law 46 = .ok (.iload_n 2, 1) := by decide +kernel
theorem dX10_law_47 : decode cX10_law 47 = .ok (.ifCond .eq 39, 3) := by decide +kernel
theorem dX10_law_50 : decode cX10_law 50 = .ok (.aload_n 0, 1) := by decide +kernel
theorem dX10_law_51 : decode cX10_law 51 = .ok (.getfield 203, 3) := by decide +kernel
theorem dX10_law_54 : decode cX10_law 54 = .ok (.aload_n 0, 1) := by decide +kernel
theorem dX10_law_55 : decode cX10_law 55 = .ok (.getfield 224, 3) := by decide +kernel
theorem dX10_law_58 : decode cX10_law 58 = .ok (.if_icmp .ge 28, 3) := by decide +kernel
theorem dX10_law_61 : decode cX10_law 61 = .ok (.aload_n 0, 1) := by decide +kernel
theorem dX10_law_62 : decode cX10_law 62 = .ok (.bipush 59, 2) := by decide +kernel
theorem dX10_law_64 : decode cX10_law 64 = .ok (.invokevirtual 218, 3) := by decide +kernel
theorem dX10_law_67 : decode cX10_law 67 = .ok (.ifCond .eq 14, 3) := by decide +kernel
theorem dX10_law_70 : decode cX10_law 70 = .ok (.aload_n 0, 1) := by decide +kernel
theorem dX10_law_71 : decode cX10_law 71 = .ok (.invokevirtual 306, 3) := by decide +kernel
theorem dX10_law_74 : decode cX10_law 74 = .ok (.ifCond .eq 7, 3) := by decide +kernel
theorem dX10_law_77 : decode cX10_law 77 = .ok (.iconst 1, 1) := by decide +kernel
theorem dX10_law_78 : decode cX10_law 78 = .ok (.goto 4, 3) := by decide +kernel
theorem dX10_law_81 : decode cX10_law 81 = .ok (.iconst 0, 1) := by decide +kernel
theorem dX10_law_82 : decode cX10_law 82 = .ok (.istore_n 2, 1) := by decide +kernel
theorem dX10_law_83 : decode cX10_law 83 = .ok (.goto (-37), 3) := by decide +kernel
theorem dX10_law_86 : decode cX10_law 86 = .ok (.aload_n 0, 1) := by decide +kernel
theorem dX10_law_87 : decode cX10_law 87 = .ok (.iconst 0, 1) := by decide +kernel
theorem dX10_law_88 : decode cX10_law 88 = .ok (.putfield 188, 3) := by decide +kernel
theorem dX10_law_91 : decode cX10_law 91 = .ok (.iload_n 2, 1) := by decide +kernel
theorem dX10_law_92 : decode cX10_law 92 = .ok (.ifCond .ne 8, 3) := by decide +kernel
theorem dX10_law_95 : decode cX10_law 95 = .ok (.aload_n 0, 1) := by decide +kernel
theorem dX10_law_96 : decode cX10_law 96 = .ok (.getfield 230, 3) := by decide +kernel
theorem dX10_law_99 : decode cX10_law 99 = .ok (.ireturn, 1) := by decide +kernel
theorem dX10_law_100 : decode cX10_law 100 = .ok (.aload_n 0, 1) := by decide +kernel
theorem dX10_law_101 : decode cX10_law 101 = .ok (.aload_n 0, 1) := by decide +kernel
theorem dX10_law_102 : decode cX10_law 102 = .ok (.getfield 300, 3) := by decide +kernel
theorem dX10_law_105 : decode cX10_law 105 = .ok (.putfield 309, 3) := by decide +kernel
theorem dX10_law_108 : decode cX10_law 108 = .ok (.iconst 0, 1) := by decide +kernel
theorem dX10_law_109 : decode cX10_law 109 = .ok (.istore_n 3, 1) := by decide +kernel
theorem dX10_law_110 : decode cX10_law 110 = .ok (.iload_n 3, 1) := by decide +kernel
theorem dX10_law_111 : decode cX10_law 111 = .ok (.aload_n 0, 1) := by decide +kernel
theorem dX10_law_112 : decode cX10_law 112 = .ok (.getfield 242, 3) := by decide +kernel
theorem dX10_law_115 : decode cX10_law 115 = .ok (.if_icmp .ge 21, 3) := by decide +kernel
theorem dX10_law_118 : decode cX10_law 118 = .ok (.aload_n 0, 1) := by decide +kernel
theorem dX10_law_119 : decode cX10_law 119 = .ok (.getfield 81, 3) := by decide +kernel
theorem dX10_law_122 : decode cX10_law 122 = .ok (.iload_n 3, 1) := by decide +kernel
theorem dX10_law_123 : decode cX10_law 123 = .ok (.aload_n 0, 1) := by decide +kernel
theorem dX10_law_124 : decode cX10_law 124 = .ok (.getfield 63, 3) := by decide +kernel
theorem dX10_law_127 : decode cX10_law 127 = .ok (.iload_n 3, 1) := by decide +kernel
theorem dX10_law_128 : decode cX10_law 128 = .ok (.iaload, 1) := by decide +kernel
theorem dX10_law_129 : decode cX10_law 129 = .ok (.iastore, 1) := by decide +kernel
theorem dX10_law_130 : decode cX10_law 130 = .ok (.iinc 3 1, 3) := by decide +kernel
theorem dX10_law_133 : decode cX10_law 133 = .ok (.goto (-23), 3) := by decide +kernel
theorem dX10_law_136 : decode cX10_law 136 = .ok (.iconst 0, 1) := by decide +kernel
theorem dX10_law_137 : decode cX10_law 137 = .ok (.istore_n 3, 1) := by decide +kernel
theorem dX10_law_138 : decode cX10_law 138 = .ok (.iload_n 3, 1) := by decide +kernel
theorem dX10_law_139 : decode cX10_law 139 = .ok (.aload_n 0, 1) := by decide +kernel
theorem dX10_law_140 : decode cX10_law 140 = .ok (.getfield 300, 3) := by decide +kernel
theorem dX10_law_143 : decode cX10_law 143 = .ok (.if_icmp .ge 57, 3) := by decide +kernel
theorem dX10_law_146 : decode cX10_law 146 = .ok (.aload_n 0, 1) := by decide +kernel
theorem dX10_law_147 : decode cX10_law 147 = .ok (.getfield 84, 3) := by decide +kernel
theorem dX10_law_150 : decode cX10_law 150 = .ok (.iload_n 3, 1) := by decide +kernel
theorem dX10_law_151 : decode cX10_law 151 = .ok (.aload_n 0, 1) := by decide +kernel
theorem dX10_law_152 : decode cX10_law 152 = .ok (.getfield 69, 3) := by decide +kernel
theorem dX10_law_155 : decode cX10_law 155 = .ok (.iload_n 3, 1) := by decide +kernel
theorem dX10_law_156 : decode cX10_law 156 = .ok (.iaload, 1) := by decide +kernel
theorem dX10_law_157 : decode cX10_law 157 = .ok (.iastore, 1) := by decide +kernel
theorem dX10_law_158 : decode cX10_law 158 = .ok (.aload_n 0, 1) := by decide +kernel
theorem dX10_law_159 : decode cX10_law 159 = .ok (.getfield 87, 3) := by decide +kernel
theorem dX10_law_162 : decode cX10_law 162 = .ok (.iload_n 3, 1) := by decide +kernel
theorem dX10_law_163 : decode cX10_law 163 = .ok (.aload_n 0, 1) := by decide +kernel
theorem dX10_law_164 : decode cX10_law 164 = .ok (.getfield 72, 3) := by decide +kernel
theorem dX10_law_167 : decode cX10_law 167 = .ok (.iload_n 3, 1) := by decide +kernel
theorem dX10_law_168 : decode cX10_law 168 = .ok (.iaload, 1) := by decide +kernel
theorem dX10_law_169 : decode cX10_law 169 = .ok (.iastore, 1) := by decide +kernel
theorem dX10_law_170 : decode cX10_law 170 = .ok (.aload_n 0, 1) := by decide +kernel
theorem dX10_law_171 : decode cX10_law 171 = .ok (.getfield 90, 3) := by decide +kernel
theorem dX10_law_174 : decode cX10_law 174 = .ok (.iload_n 3, 1) := by decide +kernel
theorem dX10_law_175 : decode cX10_law 175 = .ok (.aload_n 0, 1) := by decide +kernel
theorem dX10_law_176 : decode cX10_law 176 = .ok (.getfield 75, 3) := by decide +kernel
theorem dX10_law_179 : decode cX10_law 179 = .ok (.iload_n 3, 1) := by decide +kernel
theorem dX10_law_180 : decode cX10_law 180 = .ok (.iaload, 1) := by decide +kernel
theorem dX10_law_181 : decode cX10_law 181 = .ok (.iastore, 1) := by decide +kernel
theorem dX10_law_182 : decode cX10_law 182 = .ok (.aload_n 0, 1) := by decide +kernel
theorem dX10_law_183 : decode cX10_law 183 = .ok (.getfield 93, 3) := by decide +kernel
theorem dX10_law_186 : decode cX10_law 186 = .ok (.iload_n 3, 1) := by decide +kernel
theorem dX10_law_187 : decode cX10_law 187 = .ok (.aload_n 0, 1) := by decide +kernel
theorem dX10_law_188 : decode cX10_law 188 = .ok (.getfield 78, 3) := by decide +kernel
theorem dX10_law_191 : decode cX10_law 191 = .ok (.iload_n 3, 1) := by decide +kernel
theorem dX10_law_192 : decode cX10_law 192 = .ok (.iaload, 1) := by decide +kernel
theorem dX10_law_193 : decode cX10_law 193 = .ok (.iastore, 1) := by decide +kernel
theorem dX10_law_194 : decode cX10_law 194 = .ok (.iinc 3 1, 3) := by decide +kernel
theorem dX10_law_197 : decode cX10_law 197 = .ok (.goto (-59), 3) := by decide +kernel
theorem dX10_law_200 : decode cX10_law 200 = .ok (.aload_n 0, 1) := by decide +kernel
theorem dX10_law_201 : decode cX10_law 201 = .ok (.getfield 300, 3) := by decide +kernel
theorem dX10_law_204 : decode cX10_law 204 = .ok (.ireturn, 1) := by decide +kernel
theorem dX10_reckon_0 : decode cX10_reckon 0 = .ok (.iload_n 0, 1) := by decide +kernel
theorem dX10_reckon_1 : decode cX10_reckon 1 = .ok (.tableswitch 85 2 8 #[43, 47, 51, 55, 59, 63, 74], 43) := by decide +kernel
theorem dX10_reckon_44 : decode cX10_reckon 44 = .ok (.iload_n 1, 1) := by decide +kernel
theorem dX10_reckon_45 : decode cX10_reckon 45 = .ok (.iload_n 2, 1) := by decide +kernel
theorem dX10_reckon_46 : decode cX10_reckon 46 = .ok (.iadd, 1) := by decide +kernel
theorem dX10_reckon_47 : decode cX10_reckon 47 = .ok (.ireturn, 1) := by decide +kernel
theorem dX10_reckon_48 : decode cX10_reckon 48 = .ok (.iload_n 1, 1) := by decide +kernel
theorem dX10_reckon_49 : decode cX10_reckon 49 = .ok (.iload_n 2, 1) := by decide +kernel
theorem dX10_reckon_50 : decode cX10_reckon 50 = .ok (.isub, 1) := by decide +kernel
theorem dX10_reckon_51 : decode cX10_reckon 51 = .ok (.ireturn, 1) := by decide +kernel
theorem dX10_reckon_52 : decode cX10_reckon 52 = .ok (.iload_n 1, 1) := by decide +kernel
theorem dX10_reckon_53 : decode cX10_reckon 53 = .ok (.iload_n 2, 1) := by decide +kernel
theorem dX10_reckon_54 : decode cX10_reckon 54 = .ok (.imul, 1) := by decide +kernel
theorem dX10_reckon_55 : decode cX10_reckon 55 = .ok (.ireturn, 1) := by decide +kernel
theorem dX10_reckon_56 : decode cX10_reckon 56 = .ok (.iload_n 1, 1) := by decide +kernel
theorem dX10_reckon_57 : decode cX10_reckon 57 = .ok (.iload_n 2, 1) := by decide +kernel
theorem dX10_reckon_58 : decode cX10_reckon 58 = .ok (.idiv, 1) := by decide +kernel
theorem dX10_reckon_59 : decode cX10_reckon 59 = .ok (.ireturn, 1) := by decide +kernel
theorem dX10_reckon_60 : decode cX10_reckon 60 = .ok (.iload_n 1, 1) := by decide +kernel
theorem dX10_reckon_61 : decode cX10_reckon 61 = .ok (.iload_n 2, 1) := by decide +kernel
theorem dX10_reckon_62 : decode cX10_reckon 62 = .ok (.irem, 1) := by decide +kernel
theorem dX10_reckon_63 : decode cX10_reckon 63 = .ok (.ireturn, 1) := by decide +kernel
theorem dX10_reckon_64 : decode cX10_reckon 64 = .ok (.iload_n 1, 1) := by decide +kernel
theorem dX10_reckon_65 : decode cX10_reckon 65 = .ok (.iload_n 2, 1) := by decide +kernel
theorem dX10_reckon_66 : decode cX10_reckon 66 = .ok (.if_icmp .ge 7, 3) := by decide +kernel
theorem dX10_reckon_69 : decode cX10_reckon 69 = .ok (.iconst 1, 1) := by decide +kernel
theorem dX10_reckon_70 : decode cX10_reckon 70 = .ok (.goto 4, 3) := by decide +kernel
theorem dX10_reckon_73 : decode cX10_reckon 73 = .ok (.iconst 0, 1) := by decide +kernel
theorem dX10_reckon_74 : decode cX10_reckon 74 = .ok (.ireturn, 1) := by decide +kernel
theorem dX10_reckon_75 : decode cX10_reckon 75 = .ok (.iload_n 1, 1) := by decide +kernel
theorem dX10_reckon_76 : decode cX10_reckon 76 = .ok (.iload_n 2, 1) := by decide +kernel
theorem dX10_reckon_77 : decode cX10_reckon 77 = .ok (.if_icmp .le 7, 3) := by decide +kernel
theorem dX10_reckon_80 : decode cX10_reckon 80 = .ok (.iconst 1, 1) := by decide +kernel
theorem dX10_reckon_81 : decode cX10_reckon 81 = .ok (.goto 4, 3) := by decide +kernel
theorem dX10_reckon_84 : decode cX10_reckon 84 = .ok (.iconst 0, 1) := by decide +kernel
theorem dX10_reckon_85 : decode cX10_reckon 85 = .ok (.ireturn, 1) := by decide +kernel
theorem dX10_reckon_86 : decode cX10_reckon 86 = .ok (.iload_n 1, 1) := by decide +kernel
theorem dX10_reckon_87 : decode cX10_reckon 87 = .ok (.iload_n 2, 1) := by decide +kernel
theorem dX10_reckon_88 : decode cX10_reckon 88 = .ok (.if_icmp .ne 7, 3) := by decide +kernel
theorem dX10_reckon_91 : decode cX10_reckon 91 = .ok (.iconst 1, 1) := by decide +kernel
theorem dX10_reckon_92 : decode cX10_reckon 92 = .ok (.goto 4, 3) := by decide +kernel
theorem dX10_reckon_95 : decode cX10_reckon 95 = .ok (.iconst 0, 1) := by decide +kernel
theorem dX10_reckon_96 : decode cX10_reckon 96 = .ok (.ireturn, 1) := by decide +kernel
theorem dX10_comesTo_0 : decode cX10_comesTo 0 = .ok (.iconst 0, 1) := by decide +kernel
theorem dX10_comesTo_1 : decode cX10_comesTo 1 = .ok (.istore_n 3, 1) := by decide +kernel
theorem dX10_comesTo_2 : decode cX10_comesTo 2 = .ok (.sipush 220, 3) := by decide +kernel
theorem dX10_comesTo_5 : decode cX10_comesTo 5 = .ok (.iload_n 1, 1) := by decide +kernel
theorem dX10_comesTo_6 : decode cX10_comesTo 6 = .ok (.sipush 220, 3) := by decide +kernel
theorem dX10_comesTo_9 : decode cX10_comesTo 9 = .ok (.idiv, 1) := by decide +kernel
theorem dX10_comesTo_10 : decode cX10_comesTo 10 = .ok (.imul, 1) := by decide +kernel
theorem dX10_comesTo_11 : decode cX10_comesTo 11 = .ok (.istore 4, 2) := by decide +kernel
theorem dX10_comesTo_13 : decode cX10_comesTo 13 = .ok (.iload_n 1, 1) := by decide +kernel
theorem dX10_comesTo_14 : decode cX10_comesTo 14 = .ok (.istore 5, 2) := by decide +kernel
theorem dX10_comesTo_16 : decode cX10_comesTo 16 = .ok (.iload 5, 2) := by decide +kernel
theorem dX10_comesTo_18 : decode cX10_comesTo 18 = .ok (.iload_n 2, 1) := by decide +kernel
theorem dX10_comesTo_19 : decode cX10_comesTo 19 = .ok (.if_icmp .ge 214, 3) := by decide +kernel
theorem dX10_comesTo_22 : decode cX10_comesTo 22 = .ok (.aload_n 0, 1) := by decide +kernel
theorem dX10_comesTo_23 : decode cX10_comesTo 23 = .ok (.getfield 81, 3) := by decide +kernel
theorem dX10_comesTo_26 : decode cX10_comesTo 26 = .ok (.iload 5, 2) := by decide +kernel
theorem dX10_comesTo_28 : decode cX10_comesTo 28 = .ok (.iaload, 1) := by decide +kernel
theorem dX10_comesTo_29 : decode cX10_comesTo 29 = .ok (.ldc 245, 2) := by decide +kernel
theorem dX10_comesTo_31 : decode cX10_comesTo 31 = .ok (.idiv, 1) := by decide +kernel
theorem dX10_comesTo_32 : decode cX10_comesTo 32 = .ok (.istore 6, 2) := by decide +kernel
theorem dX10_comesTo_34 : decode cX10_comesTo 34 = .ok (.aload_n 0, 1) := by decide +kernel
theorem dX10_comesTo_35 : decode cX10_comesTo 35 = .ok (.getfield 81, 3) := by decide +kernel
theorem dX10_comesTo_38 : decode cX10_comesTo 38 = .ok (.iload 5, 2) := by decide +kernel
theorem dX10_comesTo_40 : decode cX10_comesTo 40 = .ok (.iaload, 1) := by decide +kernel
theorem dX10_comesTo_41 : decode cX10_comesTo 41 = .ok (.ldc 245, 2) := by decide +kernel
theorem dX10_comesTo_43 : decode cX10_comesTo 43 = .ok (.irem, 1) := by decide +kernel
theorem dX10_comesTo_44 : decode cX10_comesTo 44 = .ok (.istore 7, 2) := by decide +kernel
theorem dX10_comesTo_46 : decode cX10_comesTo 46 = .ok (.iload 5, 2) := by decide +kernel
theorem dX10_comesTo_48 : decode cX10_comesTo 48 = .ok (.iconst 1, 1) := by decide +kernel
theorem dX10_comesTo_49 : decode cX10_comesTo 49 = .ok (.iadd, 1) := by decide +kernel
theorem dX10_comesTo_50 : decode cX10_comesTo 50 = .ok (.istore 5, 2) := by decide +kernel
theorem dX10_comesTo_52 : decode cX10_comesTo 52 = .ok (.iload 6, 2) := by decide +kernel
theorem dX10_comesTo_54 : decode cX10_comesTo 54 = .ok (.ifCond .eq 9, 3) := by decide +kernel
theorem dX10_comesTo_57 : decode cX10_comesTo 57 = .ok (.iload 6, 2) := by decide +kernel
theorem dX10_comesTo_59 : decode cX10_comesTo 59 = .ok (.iconst 1, 1) := by decide +kernel
theorem dX10_comesTo_60 : decode cX10_comesTo 60 = .ok (.if_icmp .ne 33, 3) := by decide +kernel
theorem dX10_comesTo_63 : decode cX10_comesTo 63 = .ok (.aload_n 0, 1) := by decide +kernel
theorem dX10_comesTo_64 : decode cX10_comesTo 64 = .ok (.getfield 96, 3) := by decide +kernel
theorem dX10_comesTo_67 : decode cX10_comesTo 67 = .ok (.iload_n 3, 1) := by decide +kernel
theorem dX10_comesTo_68 : decode cX10_comesTo 68 = .ok (.iload 6, 2) := by decide +kernel
theorem dX10_comesTo_70 : decode cX10_comesTo 70 = .ok (.ifCond .ne 8, 3) := by decide +kernel
theorem dX10_comesTo_73 : decode cX10_comesTo 73 = .ok (.iload 7, 2) := by decide +kernel
theorem dX10_comesTo_75 : decode cX10_comesTo 75 = .ok (.goto 10, 3) := by decide +kernel
theorem dX10_comesTo_78 : decode cX10_comesTo 78 = .ok (.aload_n 0, 1) := by decide +kernel
theorem dX10_comesTo_79 : decode cX10_comesTo 79 = .ok (.getfield 99, 3) := by decide +kernel
theorem dX10_comesTo_82 : decode cX10_comesTo 82 = .ok (.iload 7, 2) := by decide +kernel
theorem dX10_comesTo_84 : decode cX10_comesTo 84 = .ok (.iaload, 1) := by decide +kernel
theorem dX10_comesTo_85 : decode cX10_comesTo 85 = .ok (.iastore, 1) := by decide +kernel
theorem dX10_comesTo_86 : decode cX10_comesTo 86 = .ok (.iload_n 3, 1) := by decide +kernel
theorem dX10_comesTo_87 : decode cX10_comesTo 87 = .ok (.iconst 1, 1) := by decide +kernel
theorem dX10_comesTo_88 : decode cX10_comesTo 88 = .ok (.iadd, 1) := by decide +kernel
theorem dX10_comesTo_89 : decode cX10_comesTo 89 = .ok (.istore_n 3, 1) := by decide +kernel
theorem dX10_comesTo_90 : decode cX10_comesTo 90 = .ok (.goto 140, 3) := by decide +kernel
theorem dX10_comesTo_93 : decode cX10_comesTo 93 = .ok (.iload 6, 2) := by decide +kernel
theorem dX10_comesTo_95 : decode cX10_comesTo 95 = .ok (.bipush 10, 2) := by decide +kernel
theorem dX10_comesTo_97 : decode cX10_comesTo 97 = .ok (.if_icmp .ne 24, 3) := by decide +kernel
theorem dX10_comesTo_100 : decode cX10_comesTo 100 = .ok (.aload_n 0, 1) := by decide +kernel
theorem dX10_comesTo_101 : decode cX10_comesTo 101 = .ok (.getfield 96, 3) := by decide +kernel
theorem dX10_comesTo_104 : decode cX10_comesTo 104 = .ok (.iload_n 3, 1) := by decide +kernel
theorem dX10_comesTo_105 : decode cX10_comesTo 105 = .ok (.iconst 1, 1) := by decide +kernel
theorem dX10_comesTo_106 : decode cX10_comesTo 106 = .ok (.isub, 1) := by decide +kernel
theorem dX10_comesTo_107 : decode cX10_comesTo 107 = .ok (.iconst 1, 1) := by decide +kernel
theorem dX10_comesTo_108 : decode cX10_comesTo 108 = .ok (.aload_n 0, 1) := by decide +kernel
theorem dX10_comesTo_109 : decode cX10_comesTo 109 = .ok (.getfield 96, 3) := by decide +kernel
theorem dX10_comesTo_112 : decode cX10_comesTo 112 = .ok (.iload_n 3, 1) := by decide +kernel
theorem dX10_comesTo_113 : decode cX10_comesTo 113 = .ok (.iconst 1, 1) := by decide +kernel
theorem dX10_comesTo_114 : decode cX10_comesTo 114 = .ok (.isub, 1) := by decide +kernel
theorem dX10_comesTo_115 : decode cX10_comesTo 115 = .ok (.iaload, 1) := by decide +kernel
theorem dX10_comesTo_116 : decode cX10_comesTo 116 = .ok (.isub, 1) := by decide +kernel
theorem dX10_comesTo_117 : decode cX10_comesTo 117 = .ok (.iastore, 1) := by decide +kernel
theorem dX10_comesTo_118 : decode cX10_comesTo 118 = .ok (.goto 112, 3) := by decide +kernel
theorem dX10_comesTo_121 : decode cX10_comesTo 121 = .ok (.iload 6, 2) := by decide +kernel
theorem dX10_comesTo_123 : decode cX10_comesTo 123 = .ok (.bipush 11, 2) := by decide +kernel
theorem dX10_comesTo_125 : decode cX10_comesTo 125 = .ok (.if_icmp .eq 10, 3) := by decide +kernel
theorem dX10_comesTo_128 : decode cX10_comesTo 128 = .ok (.iload 6, 2) := by decide +kernel
theorem dX10_comesTo_130 : decode cX10_comesTo 130 = .ok (.bipush 12, 2) := by decide +kernel
theorem dX10_comesTo_132 : decode cX10_comesTo 132 = .ok (.if_icmp .ne 43, 3) := by decide +kernel
theorem dX10_comesTo_135 : decode cX10_comesTo 135 = .ok (.aload_n 0, 1) := by decide +kernel
theorem dX10_comesTo_136 : decode cX10_comesTo 136 = .ok (.getfield 96, 3) := by decide +kernel
theorem dX10_comesTo_139 : decode cX10_comesTo 139 = .ok (.iload_n 3, 1) := by decide +kernel
theorem dX10_comesTo_140 : decode cX10_comesTo 140 = .ok (.iconst 1, 1) := by decide +kernel
theorem dX10_comesTo_141 : decode cX10_comesTo 141 = .ok (.isub, 1) := by decide +kernel
theorem dX10_comesTo_142 : decode cX10_comesTo 142 = .ok (.iaload, 1) := by decide +kernel
theorem dX10_comesTo_143 : decode cX10_comesTo 143 = .ok (.iload 6, 2) := by decide +kernel
theorem dX10_comesTo_145 : decode cX10_comesTo 145 = .ok (.bipush 12, 2) := by decide +kernel
theorem dX10_comesTo_147 : decode cX10_comesTo 147 = .ok (.if_icmp .ne 7, 3) := by decide +kernel
theorem dX10_comesTo_150 : decode cX10_comesTo 150 = .ok (.iconst 1, 1) := by decide +kernel
theorem dX10_comesTo_151 : decode cX10_comesTo 151 = .ok (.goto 4, 3) := by decide +kernel
theorem dX10_comesTo_154 : decode cX10_comesTo 154 = .ok (.iconst 0, 1) := by decide +kernel
theorem dX10_comesTo_155 : decode cX10_comesTo 155 = .ok (.if_icmp .ne 13, 3) := by decide +kernel
theorem dX10_comesTo_158 : decode cX10_comesTo 158 = .ok (.iload 4, 2) := by decide +kernel
theorem dX10_comesTo_160 : decode cX10_comesTo 160 = .ok (.iload 7, 2) := by decide +kernel
theorem dX10_comesTo_162 : decode cX10_comesTo 162 = .ok (.iadd, 1) := by decide +kernel
theorem dX10_comesTo_163 : decode cX10_comesTo 163 = .ok (.istore 5, 2) := by decide +kernel
theorem dX10_comesTo_165 : decode cX10_comesTo 165 = .ok (.goto 65, 3) := by decide +kernel
theorem dX10_comesTo_168 : decode cX10_comesTo 168 = .ok (.iload_n 3, 1) := by decide +kernel
theorem dX10_comesTo_169 : decode cX10_comesTo 169 = .ok (.iconst 1, 1) := by decide +kernel
theorem dX10_comesTo_170 : decode cX10_comesTo 170 = .ok (.isub, 1) := by decide +kernel
theorem dX10_comesTo_171 : decode cX10_comesTo 171 = .ok (.istore_n 3, 1) := by decide +kernel
theorem dX10_comesTo_172 : decode cX10_comesTo 172 = .ok (.goto 58, 3) := by decide +kernel
theorem dX10_comesTo_175 : decode cX10_comesTo 175 = .ok (.iload_n 3, 1) := by decide +kernel
theorem dX10_comesTo_176 : decode cX10_comesTo 176 = .ok (.iconst 1, 1) := by decide +kernel
theorem dX10_comesTo_177 : decode cX10_comesTo 177 = .ok (.isub, 1) := by decide +kernel
theorem dX10_comesTo_178 : decode cX10_comesTo 178 = .ok (.istore_n 3, 1) := by decide +kernel
theorem dX10_comesTo_179 : decode cX10_comesTo 179 = .ok (.iload 6, 2) := by decide +kernel
theorem dX10_comesTo_181 : decode cX10_comesTo 181 = .ok (.iconst 5, 1) := by decide +kernel
theorem dX10_comesTo_182 : decode cX10_comesTo 182 = .ok (.if_icmp .eq 10, 3) := by decide +kernel
theorem dX10_comesTo_185 : decode cX10_comesTo 185 = .ok (.iload 6, 2) := by decide +kernel
theorem dX10_comesTo_187 : decode cX10_comesTo 187 = .ok (.bipush 6, 2) := by decide +kernel
theorem dX10_comesTo_189 : decode cX10_comesTo 189 = .ok (.if_icmp .ne 14, 3) := by decide +kernel
theorem dX10_comesTo_192 : decode cX10_comesTo 192 = .ok (.aload_n 0, 1) := by decide +kernel
theorem dX10_comesTo_193 : decode cX10_comesTo 193 = .ok (.getfield 96, 3) := by decide +kernel
theorem dX10_comesTo_196 : decode cX10_comesTo 196 = .ok (.iload_n 3, 1) := by decide +kernel
theorem dX10_comesTo_197 : decode cX10_comesTo 197 = .ok (.iaload, 1) := by decide +kernel
theorem dX10_comesTo_198 : decode cX10_comesTo 198 = .ok (.ifCond .ne 5, 3) := by decide +kernel
theorem dX10_comesTo_201 : decode cX10_comesTo 201 = .ok (.iconst 0, 1) := by decide +kernel
theorem dX10_comesTo_202 : decode cX10_comesTo 202 = .ok (.ireturn, 1) := by decide +kernel
theorem dX10_comesTo_203 : decode cX10_comesTo 203 = .ok (.aload_n 0, 1) := by decide +kernel
theorem dX10_comesTo_204 : decode cX10_comesTo 204 = .ok (.getfield 96, 3) := by decide +kernel
theorem dX10_comesTo_207 : decode cX10_comesTo 207 = .ok (.iload_n 3, 1) := by decide +kernel
theorem dX10_comesTo_208 : decode cX10_comesTo 208 = .ok (.iconst 1, 1) := by decide +kernel
theorem dX10_comesTo_209 : decode cX10_comesTo 209 = .ok (.isub, 1) := by decide +kernel
theorem dX10_comesTo_210 : decode cX10_comesTo 210 = .ok (.iload 6, 2) := by decide +kernel
theorem dX10_comesTo_212 : decode cX10_comesTo 212 = .ok (.aload_n 0, 1) := by decide +kernel
theorem dX10_comesTo_213 : decode cX10_comesTo 213 = .ok (.getfield 96, 3) := by decide +kernel
theorem dX10_comesTo_216 : decode cX10_comesTo 216 = .ok (.iload_n 3, 1) := by decide +kernel
theorem dX10_comesTo_217 : decode cX10_comesTo 217 = .ok (.iconst 1, 1) := by decide +kernel
theorem dX10_comesTo_218 : decode cX10_comesTo 218 = .ok (.isub, 1) := by decide +kernel
theorem dX10_comesTo_219 : decode cX10_comesTo 219 = .ok (.iaload, 1) := by decide +kernel
theorem dX10_comesTo_220 : decode cX10_comesTo 220 = .ok (.aload_n 0, 1) := by decide +kernel
theorem dX10_comesTo_221 : decode cX10_comesTo 221 = .ok (.getfield 96, 3) := by decide +kernel
theorem dX10_comesTo_224 : decode cX10_comesTo 224 = .ok (.iload_n 3, 1) := by decide +kernel
theorem dX10_comesTo_225 : decode cX10_comesTo 225 = .ok (.iaload, 1) := by decide +kernel
theorem dX10_comesTo_226 : decode cX10_comesTo 226 = .ok (.invokestatic 312, 3) := by decide +kernel
theorem dX10_comesTo_229 : decode cX10_comesTo 229 = .ok (.iastore, 1) := by decide +kernel
theorem dX10_comesTo_230 : decode cX10_comesTo 230 = .ok (.goto (-214), 3) := by decide +kernel
theorem dX10_comesTo_233 : decode cX10_comesTo 233 = .ok (.aload_n 0, 1) := by decide +kernel
theorem dX10_comesTo_234 : decode cX10_comesTo 234 = .ok (.getfield 96, 3) := by decide +kernel
theorem dX10_comesTo_237 : decode cX10_comesTo 237 = .ok (.iconst 0, 1) := by decide +kernel
theorem dX10_comesTo_238 : decode cX10_comesTo 238 = .ok (.iaload, 1) := by decide +kernel
theorem dX10_comesTo_239 : decode cX10_comesTo 239 = .ok (.ireturn, 1) := by decide +kernel
theorem dX10_byLaw_0 : decode cX10_byLaw 0 = .ok (.iconst 0, 1) := by decide +kernel
theorem dX10_byLaw_1 : decode cX10_byLaw 1 = .ok (.istore_n 3, 1) := by decide +kernel
theorem dX10_byLaw_2 : decode cX10_byLaw 2 = .ok (.iload_n 3, 1) := by decide +kernel
theorem dX10_byLaw_3 : decode cX10_byLaw 3 = .ok (.aload_n 0, 1) := by decide +kernel
theorem dX10_byLaw_4 : decode cX10_byLaw 4 = .ok (.getfield 309, 3) := by decide +kernel
theorem dX10_byLaw_7 : decode cX10_byLaw 7 = .ok (.if_icmp .ge 82, 3) := by decide +kernel
theorem dX10_byLaw_10 : decode cX10_byLaw 10 = .ok (.aload_n 0, 1) := by decide +kernel
theorem dX10_byLaw_11 : decode cX10_byLaw 11 = .ok (.getfield 84, 3) := by decide +kernel
theorem dX10_byLaw_14 : decode cX10_byLaw 14 = .ok (.iload_n 3, 1) := by decide +kernel
theorem dX10_byLaw_15 : decode cX10_byLaw 15 = .ok (.iaload, 1) := by decide +kernel
theorem dX10_byLaw_16 : decode cX10_byLaw 16 = .ok (.iload_n 1, 1) := by decide +kernel
theorem dX10_byLaw_17 : decode cX10_byLaw 17 = .ok (.if_icmp .ne 66, 3) := by decide +kernel
theorem dX10_byLaw_20 : decode cX10_byLaw 20 = .ok (.aload_n 0, 1) := by decide +kernel
theorem dX10_byLaw_21 : decode cX10_byLaw 21 = .ok (.aload_n 0, 1) := by decide +kernel
theorem dX10_byLaw_22 : decode cX10_byLaw 22 = .ok (.getfield 90, 3) := by decide +kernel
theorem dX10_byLaw_25 : decode cX10_byLaw 25 = .ok (.iload_n 3, 1) := by decide +kernel
theorem dX10_byLaw_26 : decode cX10_byLaw 26 = .ok (.iaload, 1) := by decide +kernel
theorem dX10_byLaw_27 : decode cX10_byLaw 27 = .ok (.aload_n 0, 1) := by decide +kernel
theorem dX10_byLaw_28 : decode cX10_byLaw 28 = .ok (.getfield 93, 3) := by decide +kernel
theorem dX10_byLaw_31 : decode cX10_byLaw 31 = .ok (.iload_n 3, 1) := by decide +kernel
theorem dX10_byLaw_32 : decode cX10_byLaw 32 = .ok (.iaload, 1) := by decide +kernel
theorem dX10_byLaw_33 : decode cX10_byLaw 33 = .ok (.invokevirtual 316, 3) := by decide +kernel
theorem dX10_byLaw_36 : decode cX10_byLaw 36 = .ok (.iconst 1, 1) := by decide +kernel
theorem dX10_byLaw_37 : decode cX10_byLaw 37 = .ok (.if_icmp .eq 6, 3) := by decide +kernel
theorem dX10_byLaw_40 : decode cX10_byLaw 40 = .ok (.goto 43, 3) := by decide +kernel
theorem dX10_byLaw_43 : decode cX10_byLaw 43 = .ok (.aload_n 0, 1) := by decide +kernel
theorem dX10_byLaw_44 : decode cX10_byLaw 44 = .ok (.aload_n 0, 1) := by decide +kernel
theorem dX10_byLaw_45 : decode cX10_byLaw 45 = .ok (.getfield 87, 3) := by decide +kernel
theorem dX10_byLaw_48 : decode cX10_byLaw 48 = .ok (.iload_n 3, 1) := by decide +kernel
theorem dX10_byLaw_49 : decode cX10_byLaw 49 = .ok (.iaload, 1) := by decide +kernel
theorem dX10_byLaw_50 : decode cX10_byLaw 50 = .ok (.aload_n 0, 1) := by decide +kernel
theorem dX10_byLaw_51 : decode cX10_byLaw 51 = .ok (.getfield 90, 3) := by decide +kernel
theorem dX10_byLaw_54 : decode cX10_byLaw 54 = .ok (.iload_n 3, 1) := by decide +kernel
theorem dX10_byLaw_55 : decode cX10_byLaw 55 = .ok (.iaload, 1) := by decide +kernel
theorem dX10_byLaw_56 : decode cX10_byLaw 56 = .ok (.invokevirtual 316, 3) := by decide +kernel
theorem dX10_byLaw_59 : decode cX10_byLaw 59 = .ok (.istore 4, 2) := by decide +kernel
theorem dX10_byLaw_61 : decode cX10_byLaw 61 = .ok (.iload 4, 2) := by decide +kernel
theorem dX10_byLaw_63 : decode cX10_byLaw 63 = .ok (.ifCond .ge 7, 3) := by decide +kernel
theorem dX10_byLaw_66 : decode cX10_byLaw 66 = .ok (.iconst 0, 1) := by decide +kernel
theorem dX10_byLaw_67 : decode cX10_byLaw 67 = .ok (.goto 15, 3) := by decide +kernel
theorem dX10_byLaw_70 : decode cX10_byLaw 70 = .ok (.iload 4, 2) := by decide +kernel
theorem dX10_byLaw_72 : decode cX10_byLaw 72 = .ok (.iload_n 2, 1) := by decide +kernel
theorem dX10_byLaw_73 : decode cX10_byLaw 73 = .ok (.if_icmp .le 7, 3) := by decide +kernel
theorem dX10_byLaw_76 : decode cX10_byLaw 76 = .ok (.iload_n 2, 1) := by decide +kernel
theorem dX10_byLaw_77 : decode cX10_byLaw 77 = .ok (.goto 5, 3) := by decide +kernel
theorem dX10_byLaw_80 : decode cX10_byLaw 80 = .ok (.iload 4, 2) := by decide +kernel
theorem dX10_byLaw_82 : decode cX10_byLaw 82 = .ok (.ireturn, 1) := by decide +kernel
theorem dX10_byLaw_83 : decode cX10_byLaw 83 = .ok (.iinc 3 1, 3) := by decide +kernel
theorem dX10_byLaw_86 : decode cX10_byLaw 86 = .ok (.goto (-84), 3) := by decide +kernel
theorem dX10_byLaw_89 : decode cX10_byLaw 89 = .ok (.iconst 0, 1) := by decide +kernel
theorem dX10_byLaw_90 : decode cX10_byLaw 90 = .ok (.ireturn, 1) := by decide +kernel
theorem dX10_anyFright_0 : decode cX10_anyFright 0 = .ok (.iconst 0, 1) := by decide +kernel
theorem dX10_anyFright_1 : decode cX10_anyFright 1 = .ok (.istore_n 1, 1) := by decide +kernel
theorem dX10_anyFright_2 : decode cX10_anyFright 2 = .ok (.iload_n 1, 1) := by decide +kernel
theorem dX10_anyFright_3 : decode cX10_anyFright 3 = .ok (.aload_n 0, 1) := by decide +kernel
theorem dX10_anyFright_4 : decode cX10_anyFright 4 = .ok (.getfield 309, 3) := by decide +kernel
theorem dX10_anyFright_7 : decode cX10_anyFright 7 = .ok (.if_icmp .ge 42, 3) := by decide +kernel
theorem dX10_anyFright_10 : decode cX10_anyFright 10 = .ok (.aload_n 0, 1) := by decide +kernel
theorem dX10_anyFright_11 : decode cX10_anyFright 11 = .ok (.getfield 84, 3) := by decide +kernel
theorem dX10_anyFright_14 : decode cX10_anyFright 14 = .ok (.iload_n 1, 1) := by decide +kernel
theorem dX10_anyFright_15 : decode cX10_anyFright 15 = .ok (.iaload, 1) := by decide +kernel
theorem dX10_anyFright_16 : decode cX10_anyFright 16 = .ok (.bipush 107, 2) := by decide +kernel
theorem dX10_anyFright_18 : decode cX10_anyFright 18 = .ok (.if_icmp .ne 25, 3) := by decide +kernel
theorem dX10_anyFright_21 : decode cX10_anyFright 21 = .ok (.aload_n 0, 1) := by decide +kernel
theorem dX10_anyFright_22 : decode cX10_anyFright 22 = .ok (.aload_n 0, 1) := by decide +kernel
theorem dX10_anyFright_23 : decode cX10_anyFright 23 = .ok (.getfield 90, 3) := by decide +kernel
theorem dX10_anyFright_26 : decode cX10_anyFright 26 = .ok (.iload_n 1, 1) := by decide +kernel
theorem dX10_anyFright_27 : decode cX10_anyFright 27 = .ok (.iaload, 1) := by decide +kernel
theorem dX10_anyFright_28 : decode cX10_anyFright 28 = .ok (.aload_n 0, 1) := by decide +kernel
theorem dX10_anyFright_29 : decode cX10_anyFright 29 = .ok (.getfield 93, 3) := by decide +kernel
theorem dX10_anyFright_32 : decode cX10_anyFright 32 = .ok (.iload_n 1, 1) := by decide +kernel
theorem dX10_anyFright_33 : decode cX10_anyFright 33 = .ok (.iaload, 1) := by decide +kernel
theorem dX10_anyFright_34 : decode cX10_anyFright 34 = .ok (.invokevirtual 316, 3) := by decide +kernel
theorem dX10_anyFright_37 : decode cX10_anyFright 37 = .ok (.iconst 1, 1) := by decide +kernel
theorem dX10_anyFright_38 : decode cX10_anyFright 38 = .ok (.if_icmp .ne 5, 3) := by decide +kernel
theorem dX10_anyFright_41 : decode cX10_anyFright 41 = .ok (.iconst 1, 1) := by decide +kernel
theorem dX10_anyFright_42 : decode cX10_anyFright 42 = .ok (.ireturn, 1) := by decide +kernel
theorem dX10_anyFright_43 : decode cX10_anyFright 43 = .ok (.iinc 1 1, 3) := by decide +kernel
theorem dX10_anyFright_46 : decode cX10_anyFright 46 = .ok (.goto (-44), 3) := by decide +kernel
theorem dX10_anyFright_49 : decode cX10_anyFright 49 = .ok (.iconst 0, 1) := by decide +kernel
theorem dX10_anyFright_50 : decode cX10_anyFright 50 = .ok (.ireturn, 1) := by decide +kernel
theorem dX10_feels_0 : decode cX10_feels 0 = .ok (.iconst 0, 1) := by decide +kernel
theorem dX10_feels_1 : decode cX10_feels 1 = .ok (.istore 5, 2) := by decide +kernel
theorem dX10_feels_3 : decode cX10_feels 3 = .ok (.iload 5, 2) := by decide +kernel
theorem dX10_feels_5 : decode cX10_feels 5 = .ok (.bipush 12, 2) := by decide +kernel
theorem dX10_feels_7 : decode cX10_feels 7 = .ok (.if_icmp .ge 17, 3) := by decide +kernel
theorem dX10_feels_10 : decode cX10_feels 10 = .ok (.aload_n 0, 1) := by decide +kernel
theorem dX10_feels_11 : decode cX10_feels 11 = .ok (.getfield 99, 3) := by decide +kernel
theorem dX10_feels_14 : decode cX10_feels 14 = .ok (.iload 5, 2) := by decide +kernel
theorem dX10_feels_16 : decode cX10_feels 16 = .ok (.iconst 0, 1) := by decide +kernel
theorem dX10_feels_17 : decode cX10_feels 17 = .ok (.iastore, 1) := by decide +kernel
theorem dX10_feels_18 : decode cX10_feels 18 = .ok (.iinc 5 1, 3) := by decide +kernel
theorem dX10_feels_21 : decode cX10_feels 21 = .ok (.goto (-18), 3) := by decide +kernel
theorem dX10_feels_24 : decode cX10_feels 24 = .ok (.aload_n 0, 1) := by decide +kernel
theorem dX10_feels_25 : decode cX10_feels 25 = .ok (.getfield 99, 3) := by decide +kernel
theorem dX10_feels_28 : decode cX10_feels 28 = .ok (.iconst 0, 1) := by decide +kernel
theorem dX10_feels_29 : decode cX10_feels 29 = .ok (.iload_n 3, 1) := by decide +kernel
theorem dX10_feels_30 : decode cX10_feels 30 = .ok (.iastore, 1) := by decide +kernel
theorem dX10_feels_31 : decode cX10_feels 31 = .ok (.aload_n 0, 1) := by decide +kernel
theorem dX10_feels_32 : decode cX10_feels 32 = .ok (.getfield 99, 3) := by decide +kernel
theorem dX10_feels_35 : decode cX10_feels 35 = .ok (.iconst 1, 1) := by decide +kernel
theorem dX10_feels_36 : decode cX10_feels 36 = .ok (.iload_n 2, 1) := by decide +kernel
theorem dX10_feels_37 : decode cX10_feels 37 = .ok (.iastore, 1) := by decide +kernel
theorem dX10_feels_38 : decode cX10_feels 38 = .ok (.aload_n 0, 1) := by decide +kernel
theorem dX10_feels_39 : decode cX10_feels 39 = .ok (.getfield 99, 3) := by decide +kernel
theorem dX10_feels_42 : decode cX10_feels 42 = .ok (.iconst 2, 1) := by decide +kernel
theorem dX10_feels_43 : decode cX10_feels 43 = .ok (.aload_n 0, 1) := by decide +kernel
theorem dX10_feels_44 : decode cX10_feels 44 = .ok (.getfield 7, 3) := by decide +kernel
theorem dX10_feels_47 : decode cX10_feels 47 = .ok (.iload_n 3, 1) := by decide +kernel
theorem dX10_feels_48 : decode cX10_feels 48 = .ok (.iaload, 1) := by decide +kernel
theorem dX10_feels_49 : decode cX10_feels 49 = .ok (.iastore, 1) := by decide +kernel
theorem dX10_feels_50 : decode cX10_feels 50 = .ok (.aload_n 0, 1) := by decide +kernel
theorem dX10_feels_51 : decode cX10_feels 51 = .ok (.getfield 99, 3) := by decide +kernel
theorem dX10_feels_54 : decode cX10_feels 54 = .ok (.iconst 3, 1) := by decide +kernel
theorem dX10_feels_55 : decode cX10_feels 55 = .ok (.iload_n 1, 1) := by decide +kernel
theorem dX10_feels_56 : decode cX10_feels 56 = .ok (.iastore, 1) := by decide +kernel
theorem dX10_feels_57 : decode cX10_feels 57 = .ok (.aload_n 0, 1) := by decide +kernel
theorem dX10_feels_58 : decode cX10_feels 58 = .ok (.getfield 99, 3) := by decide +kernel
theorem dX10_feels_61 : decode cX10_feels 61 = .ok (.iconst 4, 1) := by decide +kernel
theorem dX10_feels_62 : decode cX10_feels 62 = .ok (.aload_n 0, 1) := by decide +kernel
theorem dX10_feels_63 : decode cX10_feels 63 = .ok (.getfield 22, 3) := by decide +kernel
theorem dX10_feels_66 : decode cX10_feels 66 = .ok (.iload_n 1, 1) := by decide +kernel
theorem dX10_feels_67 : decode cX10_feels 67 = .ok (.iaload, 1) := by decide +kernel
theorem dX10_feels_68 : decode cX10_feels 68 = .ok (.iastore, 1) := by decide +kernel
theorem dX10_feels_69 : decode cX10_feels 69 = .ok (.aload_n 0, 1) := by decide +kernel
theorem dX10_feels_70 : decode cX10_feels 70 = .ok (.getfield 99, 3) := by decide +kernel
theorem dX10_feels_73 : decode cX10_feels 73 = .ok (.iconst 5, 1) := by decide +kernel
theorem dX10_feels_74 : decode cX10_feels 74 = .ok (.aload_n 0, 1) := by decide +kernel
theorem dX10_feels_75 : decode cX10_feels 75 = .ok (.getfield 25, 3) := by decide +kernel
theorem dX10_feels_78 : decode cX10_feels 78 = .ok (.iload_n 1, 1) := by decide +kernel
theorem dX10_feels_79 : decode cX10_feels 79 = .ok (.iaload, 1) := by decide +kernel
theorem dX10_feels_80 : decode cX10_feels 80 = .ok (.iastore, 1) := by decide +kernel
theorem dX10_feels_81 : decode cX10_feels 81 = .ok (.aload_n 0, 1) := by decide +kernel
theorem dX10_feels_82 : decode cX10_feels 82 = .ok (.getfield 99, 3) := by decide +kernel
theorem dX10_feels_85 : decode cX10_feels 85 = .ok (.bipush 6, 2) := by decide +kernel
theorem dX10_feels_87 : decode cX10_feels 87 = .ok (.aload_n 0, 1) := by decide +kernel
theorem dX10_feels_88 : decode cX10_feels 88 = .ok (.getfield 28, 3) := by decide +kernel
theorem dX10_feels_91 : decode cX10_feels 91 = .ok (.iload_n 1, 1) := by decide +kernel
theorem dX10_feels_92 : decode cX10_feels 92 = .ok (.iaload, 1) := by decide +kernel
theorem dX10_feels_93 : decode cX10_feels 93 = .ok (.iastore, 1) := by decide +kernel
theorem dX10_feels_94 : decode cX10_feels 94 = .ok (.aload_n 0, 1) := by decide +kernel
theorem dX10_feels_95 : decode cX10_feels 95 = .ok (.getfield 99, 3) := by decide +kernel
theorem dX10_feels_98 : decode cX10_feels 98 = .ok (.bipush 7, 2) := by decide +kernel
theorem dX10_feels_100 : decode cX10_feels 100 = .ok (.iload 4, 2) := by decide +kernel
theorem dX10_feels_102 : decode cX10_feels 102 = .ok (.ifCond .eq 7, 3) := by decide +kernel
theorem dX10_feels_105 : decode cX10_feels 105 = .ok (.iconst 1, 1) := by decide +kernel
theorem dX10_feels_106 : decode cX10_feels 106 = .ok (.goto 4, 3) := by decide +kernel
theorem dX10_feels_109 : decode cX10_feels 109 = .ok (.iconst 0, 1) := by decide +kernel
theorem dX10_feels_110 : decode cX10_feels 110 = .ok (.iastore, 1) := by decide +kernel
theorem dX10_feels_111 : decode cX10_feels 111 = .ok (.return_, 1) := by decide +kernel
theorem dX10_sleepIn_0 : decode cX10_sleepIn 0 = .ok (.iconst 0, 1) := by decide +kernel
theorem dX10_sleepIn_1 : decode cX10_sleepIn 1 = .ok (.istore_n 3, 1) := by decide +kernel
theorem dX10_sleepIn_2 : decode cX10_sleepIn 2 = .ok (.iconst 0, 1) := by decide +kernel
theorem dX10_sleepIn_3 : decode cX10_sleepIn 3 = .ok (.istore 4, 2) := by decide +kernel
theorem dX10_sleepIn_5 : decode cX10_sleepIn 5 = .ok (.iload 4, 2) := by decide +kernel
theorem dX10_sleepIn_7 : decode cX10_sleepIn 7 = .ok (.bipush 10, 2) := by decide +kernel
theorem dX10_sleepIn_9 : decode cX10_sleepIn 9 = .ok (.if_icmp .ge 42, 3) := by decide +kernel
theorem dX10_sleepIn_12 : decode cX10_sleepIn 12 = .ok (.iload_n 3, 1) := by decide +kernel
theorem dX10_sleepIn_13 : decode cX10_sleepIn 13 = .ok (.aload_n 0, 1) := by decide +kernel
theorem dX10_sleepIn_14 : decode cX10_sleepIn 14 = .ok (.iload 4, 2) := by decide +kernel
theorem dX10_sleepIn_16 : decode cX10_sleepIn 16 = .ok (.invokevirtual 185, 3) := by decide +kernel
theorem dX10_sleepIn_19 : decode cX10_sleepIn 19 = .ok (.ifCond .eq 23, 3) := by decide +kernel
theorem dX10_sleepIn_22 : decode cX10_sleepIn 22 = .ok (.aload_n 0, 1) := by decide +kernel
theorem dX10_sleepIn_23 : decode cX10_sleepIn 23 = .ok (.getfield 16, 3) := by decide +kernel
theorem dX10_sleepIn_26 : decode cX10_sleepIn 26 = .ok (.bipush 10, 2) := by decide +kernel
theorem dX10_sleepIn_28 : decode cX10_sleepIn 28 = .ok (.iload_n 1, 1) := by decide +kernel
theorem dX10_sleepIn_29 : decode cX10_sleepIn 29 = .ok (.imul, 1) := by decide +kernel
theorem dX10_sleepIn_30 : decode cX10_sleepIn 30 = .ok (.iload 4, 2) := by decide +kernel
theorem dX10_sleepIn_32 : decode cX10_sleepIn 32 = .ok (.iadd, 1) := by decide +kernel
theorem dX10_sleepIn_33 : decode cX10_sleepIn 33 = .ok (.iaload, 1) := by decide +kernel
theorem dX10_sleepIn_34 : decode cX10_sleepIn 34 = .ok (.iload_n 2, 1) := by decide +kernel
theorem dX10_sleepIn_35 : decode cX10_sleepIn 35 = .ok (.if_icmp .ne 7, 3) := by decide +kernel
theorem dX10_sleepIn_38 : decode cX10_sleepIn 38 = .ok (.iconst 1, 1) := by decide +kernel
theorem dX10_sleepIn_39 : decode cX10_sleepIn 39 = .ok (.goto 4, 3) := by decide +kernel
theorem dX10_sleepIn_42 : decode cX10_sleepIn 42 = .ok (.iconst 0, 1) := by decide +kernel
theorem dX10_sleepIn_43 : decode cX10_sleepIn 43 = .ok (.iadd, 1) := by decide +kernel
theorem dX10_sleepIn_44 : decode cX10_sleepIn 44 = .ok (.istore_n 3, 1) := by decide +kernel
theorem dX10_sleepIn_45 : decode cX10_sleepIn 45 = .ok (.iinc 4 1, 3) := by decide +kernel
theorem dX10_sleepIn_48 : decode cX10_sleepIn 48 = .ok (.goto (-43), 3) := by decide +kernel
theorem dX10_sleepIn_51 : decode cX10_sleepIn 51 = .ok (.iload_n 3, 1) := by decide +kernel
theorem dX10_sleepIn_52 : decode cX10_sleepIn 52 = .ok (.ireturn, 1) := by decide +kernel
theorem dX10_isNext_0 : decode cX10_isNext 0 = .ok (.iload_n 0, 1) := by decide +kernel
theorem dX10_isNext_1 : decode cX10_isNext 1 = .ok (.iload_n 1, 1) := by decide +kernel
theorem dX10_isNext_2 : decode cX10_isNext 2 = .ok (.isub, 1) := by decide +kernel
theorem dX10_isNext_3 : decode cX10_isNext 3 = .ok (.iconst 1, 1) := by decide +kernel
theorem dX10_isNext_4 : decode cX10_isNext 4 = .ok (.if_icmp .eq 10, 3) := by decide +kernel
theorem dX10_isNext_7 : decode cX10_isNext 7 = .ok (.iload_n 1, 1) := by decide +kernel
theorem dX10_isNext_8 : decode cX10_isNext 8 = .ok (.iload_n 0, 1) := by decide +kernel
theorem dX10_isNext_9 : decode cX10_isNext 9 = .ok (.isub, 1) := by decide +kernel
theorem dX10_isNext_10 : decode cX10_isNext 10 = .ok (.iconst 1, 1) := by decide +kernel
theorem dX10_isNext_11 : decode cX10_isNext 11 = .ok (.if_icmp .ne 7, 3) := by decide +kernel
theorem dX10_isNext_14 : decode cX10_isNext 14 = .ok (.iconst 1, 1) := by decide +kernel
theorem dX10_isNext_15 : decode cX10_isNext 15 = .ok (.goto 4, 3) := by decide +kernel
theorem dX10_isNext_18 : decode cX10_isNext 18 = .ok (.iconst 0, 1) := by decide +kernel
theorem dX10_isNext_19 : decode cX10_isNext 19 = .ok (.ireturn, 1) := by decide +kernel
theorem dX10_frightOf_0 : decode cX10_frightOf 0 = .ok (.aload_n 0, 1) := by decide +kernel
theorem dX10_frightOf_1 : decode cX10_frightOf 1 = .ok (.getfield 16, 3) := by decide +kernel
theorem dX10_frightOf_4 : decode cX10_frightOf 4 = .ok (.bipush 10, 2) := by decide +kernel
theorem dX10_frightOf_6 : decode cX10_frightOf 6 = .ok (.iload_n 3, 1) := by decide +kernel
theorem dX10_frightOf_7 : decode cX10_frightOf 7 = .ok (.imul, 1) := by decide +kernel
theorem dX10_frightOf_8 : decode cX10_frightOf 8 = .ok (.iload_n 2, 1) := by decide +kernel
theorem dX10_frightOf_9 : decode cX10_frightOf 9 = .ok (.iadd, 1) := by decide +kernel
theorem dX10_frightOf_10 : decode cX10_frightOf 10 = .ok (.iaload, 1) := by decide +kernel
theorem dX10_frightOf_11 : decode cX10_frightOf 11 = .ok (.istore 6, 2) := by decide +kernel
theorem dX10_frightOf_13 : decode cX10_frightOf 13 = .ok (.iload 6, 2) := by decide +kernel
theorem dX10_frightOf_15 : decode cX10_frightOf 15 = .ok (.sipush 255, 3) := by decide +kernel
theorem dX10_frightOf_18 : decode cX10_frightOf 18 = .ok (.if_icmp .eq 30, 3) := by decide +kernel
theorem dX10_frightOf_21 : decode cX10_frightOf 21 = .ok (.iload 6, 2) := by decide +kernel
theorem dX10_frightOf_23 : decode cX10_frightOf 23 = .ok (.iload 4, 2) := by decide +kernel
theorem dX10_frightOf_25 : decode cX10_frightOf 25 = .ok (.if_icmp .eq 26, 3) := by decide +kernel
theorem dX10_frightOf_28 : decode cX10_frightOf 28 = .ok (.aload_n 0, 1) := by decide +kernel
theorem dX10_frightOf_29 : decode cX10_frightOf 29 = .ok (.getfield 19, 3) := by decide +kernel
theorem dX10_frightOf_32 : decode cX10_frightOf 32 = .ok (.iload_n 1, 1) := by decide +kernel
theorem dX10_frightOf_33 : decode cX10_frightOf 33 = .ok (.iaload, 1) := by decide +kernel
theorem dX10_frightOf_34 : decode cX10_frightOf 34 = .ok (.iconst 2, 1) := by decide +kernel
theorem dX10_frightOf_35 : decode cX10_frightOf 35 = .ok (.if_icmp .ne 13, 3) := by decide +kernel
theorem dX10_frightOf_38 : decode cX10_frightOf 38 = .ok (.iload 6, 2) := by decide +kernel
theorem dX10_frightOf_40 : decode cX10_frightOf 40 = .ok (.iload 4, 2) := by decide +kernel
theorem dX10_frightOf_42 : decode cX10_frightOf 42 = .ok (.invokestatic 320, 3) := by decide +kernel
theorem dX10_frightOf_45 : decode cX10_frightOf 45 = .ok (.ifCond .ne 6, 3) := by decide +kernel
theorem dX10_frightOf_48 : decode cX10_frightOf 48 = .ok (.bipush (-2), 2) := by decide +kernel
theorem dX10_frightOf_50 : decode cX10_frightOf 50 = .ok (.ireturn, 1) := by decide +kernel
theorem dX10_frightOf_51 : decode cX10_frightOf 51 = .ok (.aload_n 0, 1) := by decide +kernel
theorem dX10_frightOf_52 : decode cX10_frightOf 52 = .ok (.iload_n 3, 1) := by decide +kernel
theorem dX10_frightOf_53 : decode cX10_frightOf 53 = .ok (.iload 6, 2) := by decide +kernel
theorem dX10_frightOf_55 : decode cX10_frightOf 55 = .ok (.invokevirtual 323, 3) := by decide +kernel
theorem dX10_frightOf_58 : decode cX10_frightOf 58 = .ok (.istore 7, 2) := by decide +kernel
theorem dX10_frightOf_60 : decode cX10_frightOf 60 = .ok (.aload_n 0, 1) := by decide +kernel
theorem dX10_frightOf_61 : decode cX10_frightOf 61 = .ok (.getfield 19, 3) := by decide +kernel
theorem dX10_frightOf_64 : decode cX10_frightOf 64 = .ok (.iload_n 1, 1) := by decide +kernel
theorem dX10_frightOf_65 : decode cX10_frightOf 65 = .ok (.iaload, 1) := by decide +kernel
theorem dX10_frightOf_66 : decode cX10_frightOf 66 = .ok (.iconst 1, 1) := by decide +kernel
theorem dX10_frightOf_67 : decode cX10_frightOf 67 = .ok (.if_icmp .ne 9, 3) := by decide +kernel
theorem dX10_frightOf_70 : decode cX10_frightOf 70 = .ok (.iload 7, 2) := by decide +kernel
theorem dX10_frightOf_72 : decode cX10_frightOf 72 = .ok (.iconst 1, 1) := by decide +kernel
theorem dX10_frightOf_73 : decode cX10_frightOf 73 = .ok (.if_icmp .ne 28, 3) := by decide +kernel
theorem dX10_frightOf_76 : decode cX10_frightOf 76 = .ok (.aload_n 0, 1) := by decide +kernel
theorem dX10_frightOf_77 : decode cX10_frightOf 77 = .ok (.getfield 19, 3) := by decide +kernel
theorem dX10_frightOf_80 : decode cX10_frightOf 80 = .ok (.iload_n 1, 1) := by decide +kernel
theorem dX10_frightOf_81 : decode cX10_frightOf 81 = .ok (.iaload, 1) := by decide +kernel
theorem dX10_frightOf_82 : decode cX10_frightOf 82 = .ok (.iconst 3, 1) := by decide +kernel
theorem dX10_frightOf_83 : decode cX10_frightOf 83 = .ok (.if_icmp .eq 18, 3) := by decide +kernel
theorem dX10_frightOf_86 : decode cX10_frightOf 86 = .ok (.aload_n 0, 1) := by decide +kernel
theorem dX10_frightOf_87 : decode cX10_frightOf 87 = .ok (.getfield 19, 3) := by decide +kernel
theorem dX10_frightOf_90 : decode cX10_frightOf 90 = .ok (.iload_n 1, 1) := by decide +kernel
theorem dX10_frightOf_91 : decode cX10_frightOf 91 = .ok (.iaload, 1) := by decide +kernel
theorem dX10_frightOf_92 : decode cX10_frightOf 92 = .ok (.iconst 4, 1) := by decide +kernel
theorem dX10_frightOf_93 : decode cX10_frightOf 93 = .ok (.if_icmp .ne 11, 3) := by decide +kernel
theorem dX10_frightOf_96 : decode cX10_frightOf 96 = .ok (.iload 5, 2) := by decide +kernel
theorem dX10_frightOf_98 : decode cX10_frightOf 98 = .ok (.ifCond .ne 6, 3) := by decide +kernel
theorem dX10_frightOf_101 : decode cX10_frightOf 101 = .ok (.bipush (-2), 2) := by decide +kernel
theorem dX10_frightOf_103 : decode cX10_frightOf 103 = .ok (.ireturn, 1) := by decide +kernel
theorem dX10_frightOf_104 : decode cX10_frightOf 104 = .ok (.aload_n 0, 1) := by decide +kernel
theorem dX10_frightOf_105 : decode cX10_frightOf 105 = .ok (.iload_n 1, 1) := by decide +kernel
theorem dX10_frightOf_106 : decode cX10_frightOf 106 = .ok (.iload_n 3, 1) := by decide +kernel
theorem dX10_frightOf_107 : decode cX10_frightOf 107 = .ok (.iload 6, 2) := by decide +kernel
theorem dX10_frightOf_109 : decode cX10_frightOf 109 = .ok (.iload 5, 2) := by decide +kernel
theorem dX10_frightOf_111 : decode cX10_frightOf 111 = .ok (.invokevirtual 326, 3) := by decide +kernel
theorem dX10_frightOf_114 : decode cX10_frightOf 114 = .ok (.aload_n 0, 1) := by decide +kernel
theorem dX10_frightOf_115 : decode cX10_frightOf 115 = .ok (.getfield 99, 3) := by decide +kernel
theorem dX10_frightOf_118 : decode cX10_frightOf 118 = .ok (.bipush 8, 2) := by decide +kernel
theorem dX10_frightOf_120 : decode cX10_frightOf 120 = .ok (.iload_n 2, 1) := by decide +kernel
theorem dX10_frightOf_121 : decode cX10_frightOf 121 = .ok (.iastore, 1) := by decide +kernel
theorem dX10_frightOf_122 : decode cX10_frightOf 122 = .ok (.aload_n 0, 1) := by decide +kernel
theorem dX10_frightOf_123 : decode cX10_frightOf 123 = .ok (.getfield 99, 3) := by decide +kernel
theorem dX10_frightOf_126 : decode cX10_frightOf 126 = .ok (.bipush 9, 2) := by decide +kernel
theorem dX10_frightOf_128 : decode cX10_frightOf 128 = .ok (.aload_n 0, 1) := by decide +kernel
theorem dX10_frightOf_129 : decode cX10_frightOf 129 = .ok (.getfield 13, 3) := by decide +kernel
theorem dX10_frightOf_132 : decode cX10_frightOf 132 = .ok (.iload_n 2, 1) := by decide +kernel
theorem dX10_frightOf_133 : decode cX10_frightOf 133 = .ok (.iaload, 1) := by decide +kernel
theorem dX10_frightOf_134 : decode cX10_frightOf 134 = .ok (.iastore, 1) := by decide +kernel
theorem dX10_frightOf_135 : decode cX10_frightOf 135 = .ok (.aload_n 0, 1) := by decide +kernel
theorem dX10_frightOf_136 : decode cX10_frightOf 136 = .ok (.getfield 99, 3) := by decide +kernel
theorem dX10_frightOf_139 : decode cX10_frightOf 139 = .ok (.bipush 10, 2) := by decide +kernel
theorem dX10_frightOf_141 : decode cX10_frightOf 141 = .ok (.iload 7, 2) := by decide +kernel
theorem dX10_frightOf_143 : decode cX10_frightOf 143 = .ok (.iastore, 1) := by decide +kernel
theorem dX10_frightOf_144 : decode cX10_frightOf 144 = .ok (.aload_n 0, 1) := by decide +kernel
theorem dX10_frightOf_145 : decode cX10_frightOf 145 = .ok (.invokevirtual 330, 3) := by decide +kernel
theorem dX10_frightOf_148 : decode cX10_frightOf 148 = .ok (.ifCond .eq 14, 3) := by decide +kernel
theorem dX10_frightOf_151 : decode cX10_frightOf 151 = .ok (.aload_n 0, 1) := by decide +kernel
theorem dX10_frightOf_152 : decode cX10_frightOf 152 = .ok (.bipush 102, 2) := by decide +kernel
theorem dX10_frightOf_154 : decode cX10_frightOf 154 = .ok (.bipush 99, 2) := by decide +kernel
theorem dX10_frightOf_156 : decode cX10_frightOf 156 = .ok (.invokevirtual 333, 3) := by decide +kernel
theorem dX10_frightOf_159 : decode cX10_frightOf 159 = .ok (.goto 5, 3) := by decide +kernel
theorem dX10_frightOf_162 : decode cX10_frightOf 162 = .ok (.bipush (-2), 2) := by decide +kernel
theorem dX10_frightOf_164 : decode cX10_frightOf 164 = .ok (.ireturn, 1) := by decide +kernel
theorem dX10_fright_0 : decode cX10_fright 0 = .ok (.aload_n 0, 1) := by decide +kernel
theorem dX10_fright_1 : decode cX10_fright 1 = .ok (.iload_n 1, 1) := by decide +kernel
theorem dX10_fright_2 : decode cX10_fright 2 = .ok (.invokevirtual 236, 3) := by decide +kernel
theorem dX10_fright_5 : decode cX10_fright 5 = .ok (.ifCond .eq 36, 3) := by decide +kernel
theorem dX10_fright_8 : decode cX10_fright 8 = .ok (.aload_n 0, 1) := by decide +kernel
theorem dX10_fright_9 : decode cX10_fright 9 = .ok (.iload_n 2, 1) := by decide +kernel
theorem dX10_fright_10 : decode cX10_fright 10 = .ok (.invokevirtual 185, 3) := by decide +kernel
theorem dX10_fright_13 : decode cX10_fright 13 = .ok (.ifCond .eq 28, 3) := by decide +kernel
theorem dX10_fright_16 : decode cX10_fright 16 = .ok (.iload_n 3, 1) := by decide +kernel
theorem dX10_fright_17 : decode cX10_fright 17 = .ok (.invokestatic 179, 3) := by decide +kernel
theorem dX10_fright_20 : decode cX10_fright 20 = .ok (.ifCond .eq 21, 3) := by decide +kernel
theorem dX10_fright_23 : decode cX10_fright 23 = .ok (.iload 4, 2) := by decide +kernel
theorem dX10_fright_25 : decode cX10_fright 25 = .ok (.invokestatic 171, 3) := by decide +kernel
theorem dX10_fright_28 : decode cX10_fright 28 = .ok (.ifCond .eq 13, 3) := by decide +kernel
theorem dX10_fright_31 : decode cX10_fright 31 = .ok (.iload 5, 2) := by decide +kernel
theorem dX10_fright_33 : decode cX10_fright 33 = .ok (.iconst 0, 1) := by decide +kernel
theorem dX10_fright_34 : decode cX10_fright 34 = .ok (.iconst 1, 1) := by decide +kernel
theorem dX10_fright_35 : decode cX10_fright 35 = .ok (.invokestatic 175, 3) := by decide +kernel
theorem dX10_fright_38 : decode cX10_fright 38 = .ok (.ifCond .ne 5, 3) := by decide +kernel
theorem dX10_fright_41 : decode cX10_fright 41 = .ok (.iconst (-1), 1) := by decide +kernel
theorem dX10_fright_42 : decode cX10_fright 42 = .ok (.ireturn, 1) := by decide +kernel
theorem dX10_fright_43 : decode cX10_fright 43 = .ok (.aload_n 0, 1) := by decide +kernel
theorem dX10_fright_44 : decode cX10_fright 44 = .ok (.iload_n 1, 1) := by decide +kernel
theorem dX10_fright_45 : decode cX10_fright 45 = .ok (.iload_n 2, 1) := by decide +kernel
theorem dX10_fright_46 : decode cX10_fright 46 = .ok (.iload_n 3, 1) := by decide +kernel
theorem dX10_fright_47 : decode cX10_fright 47 = .ok (.iload 4, 2) := by decide +kernel
theorem dX10_fright_49 : decode cX10_fright 49 = .ok (.iload 5, 2) := by decide +kernel
theorem dX10_fright_51 : decode cX10_fright 51 = .ok (.iconst 1, 1) := by decide +kernel
theorem dX10_fright_52 : decode cX10_fright 52 = .ok (.if_icmp .ne 7, 3) := by decide +kernel
theorem dX10_fright_55 : decode cX10_fright 55 = .ok (.iconst 1, 1) := by decide +kernel
theorem dX10_fright_56 : decode cX10_fright 56 = .ok (.goto 4, 3) := by decide +kernel
theorem dX10_fright_59 : decode cX10_fright 59 = .ok (.iconst 0, 1) := by decide +kernel
theorem dX10_fright_60 : decode cX10_fright 60 = .ok (.invokevirtual 336, 3) := by decide +kernel
theorem dX10_fright_63 : decode cX10_fright 63 = .ok (.ireturn, 1) := by decide +kernel
theorem dX10_frightBy_0 : decode cX10_frightBy 0 = .ok (.iconst 0, 1) := by decide +kernel
theorem dX10_frightBy_1 : decode cX10_frightBy 1 = .ok (.istore 5, 2) := by decide +kernel
theorem dX10_frightBy_3 : decode cX10_frightBy 3 = .ok (.iconst 0, 1) := by decide +kernel
theorem dX10_frightBy_4 : decode cX10_frightBy 4 = .ok (.istore 6, 2) := by decide +kernel
theorem dX10_frightBy_6 : decode cX10_frightBy 6 = .ok (.iload 6, 2) := by decide +kernel
theorem dX10_frightBy_8 : decode cX10_frightBy 8 = .ok (.bipush 10, 2) := by decide +kernel
theorem dX10_frightBy_10 : decode cX10_frightBy 10 = .ok (.if_icmp .ge 52, 3) := by decide +kernel
theorem dX10_frightBy_13 : decode cX10_frightBy 13 = .ok (.aload_n 0, 1) := by decide +kernel
theorem dX10_frightBy_14 : decode cX10_frightBy 14 = .ok (.iload 6, 2) := by decide +kernel
theorem dX10_frightBy_16 : decode cX10_frightBy 16 = .ok (.invokevirtual 185, 3) := by decide +kernel
theorem dX10_frightBy_19 : decode cX10_frightBy 19 = .ok (.ifCond .eq 17, 3) := by decide +kernel
theorem dX10_frightBy_22 : decode cX10_frightBy 22 = .ok (.aload_n 0, 1) := by decide +kernel
theorem dX10_frightBy_23 : decode cX10_frightBy 23 = .ok (.iload_n 1, 1) := by decide +kernel
theorem dX10_frightBy_24 : decode cX10_frightBy 24 = .ok (.iload 6, 2) := by decide +kernel
theorem dX10_frightBy_26 : decode cX10_frightBy 26 = .ok (.iload_n 2, 1) := by decide +kernel
theorem dX10_frightBy_27 : decode cX10_frightBy 27 = .ok (.iload_n 3, 1) := by decide +kernel
theorem dX10_frightBy_28 : decode cX10_frightBy 28 = .ok (.iload 4, 2) := by decide +kernel
theorem dX10_frightBy_30 : decode cX10_frightBy 30 = .ok (.invokevirtual 336, 3) := by decide +kernel
theorem dX10_frightBy_33 : decode cX10_frightBy 33 = .ok (.goto 5, 3) := by decide +kernel
theorem dX10_frightBy_36 : decode cX10_frightBy 36 = .ok (.bipush (-2), 2) := by decide +kernel
theorem dX10_frightBy_38 : decode cX10_frightBy 38 = .ok (.istore 7, 2) := by decide +kernel
theorem dX10_frightBy_40 : decode cX10_frightBy 40 = .ok (.iload 5, 2) := by decide +kernel
theorem dX10_frightBy_42 : decode cX10_frightBy 42 = .ok (.iload 7, 2) := by decide +kernel
theorem dX10_frightBy_44 : decode cX10_frightBy 44 = .ok (.ifCond .le 8, 3) := by decide +kernel
theorem dX10_frightBy_47 : decode cX10_frightBy 47 = .ok (.iload 7, 2) := by decide +kernel
theorem dX10_frightBy_49 : decode cX10_frightBy 49 = .ok (.goto 4, 3) := by decide +kernel
theorem dX10_frightBy_52 : decode cX10_frightBy 52 = .ok (.iconst 0, 1) := by decide +kernel
theorem dX10_frightBy_53 : decode cX10_frightBy 53 = .ok (.iadd, 1) := by decide +kernel
theorem dX10_frightBy_54 : decode cX10_frightBy 54 = .ok (.istore 5, 2) := by decide +kernel
theorem dX10_frightBy_56 : decode cX10_frightBy 56 = .ok (.iinc 6 1, 3) := by decide +kernel
theorem dX10_frightBy_59 : decode cX10_frightBy 59 = .ok (.goto (-53), 3) := by decide +kernel
theorem dX10_frightBy_62 : decode cX10_frightBy 62 = .ok (.iload 5, 2) := by decide +kernel
theorem dX10_frightBy_64 : decode cX10_frightBy 64 = .ok (.ireturn, 1) := by decide +kernel
theorem dX10_stands_0 : decode cX10_stands 0 = .ok (.iconst 0, 1) := by decide +kernel
theorem dX10_stands_1 : decode cX10_stands 1 = .ok (.istore_n 2, 1) := by decide +kernel
theorem dX10_stands_2 : decode cX10_stands 2 = .ok (.iload_n 2, 1) := by decide +kernel
theorem dX10_stands_3 : decode cX10_stands 3 = .ok (.aload_n 0, 1) := by decide +kernel
theorem dX10_stands_4 : decode cX10_stands 4 = .ok (.getfield 233, 3) := by decide +kernel
theorem dX10_stands_7 : decode cX10_stands 7 = .ok (.if_icmp .ge 114, 3) := by decide +kernel
theorem dX10_stands_10 : decode cX10_stands 10 = .ok (.aload_n 0, 1) := by decide +kernel
theorem dX10_stands_11 : decode cX10_stands 11 = .ok (.getfield 41, 3) := by decide +kernel
theorem dX10_stands_14 : decode cX10_stands 14 = .ok (.iload_n 2, 1) := by decide +kernel
theorem dX10_stands_15 : decode cX10_stands 15 = .ok (.iaload, 1) := by decide +kernel
theorem dX10_stands_16 : decode cX10_stands 16 = .ok (.aload_n 0, 1) := by decide +kernel
theorem dX10_stands_17 : decode cX10_stands 17 = .ok (.getfield 41, 3) := by decide +kernel
theorem dX10_stands_20 : decode cX10_stands 20 = .ok (.iload_n 1, 1) := by decide +kernel
theorem dX10_stands_21 : decode cX10_stands 21 = .ok (.iaload, 1) := by decide +kernel
theorem dX10_stands_22 : decode cX10_stands 22 = .ok (.if_icmp .ne 93, 3) := by decide +kernel
theorem dX10_stands_25 : decode cX10_stands 25 = .ok (.aload_n 0, 1) := by decide +kernel
theorem dX10_stands_26 : decode cX10_stands 26 = .ok (.getfield 44, 3) := by decide +kernel
theorem dX10_stands_29 : decode cX10_stands 29 = .ok (.iload_n 2, 1) := by decide +kernel
theorem dX10_stands_30 : decode cX10_stands 30 = .ok (.iaload, 1) := by decide +kernel
theorem dX10_stands_31 : decode cX10_stands 31 = .ok (.aload_n 0, 1) := by decide +kernel
theorem dX10_stands_32 : decode cX10_stands 32 = .ok (.getfield 44, 3) := by decide +kernel
theorem dX10_stands_35 : decode cX10_stands 35 = .ok (.iload_n 1, 1) := by decide +kernel
theorem dX10_stands_36 : decode cX10_stands 36 = .ok (.iaload, 1) := by decide +kernel
theorem dX10_stands_37 : decode cX10_stands 37 = .ok (.if_icmp .ne 78, 3) := by decide +kernel
theorem dX10_stands_40 : decode cX10_stands 40 = .ok (.aload_n 0, 1) := by decide +kernel
theorem dX10_stands_41 : decode cX10_stands 41 = .ok (.getfield 38, 3) := by decide +kernel
theorem dX10_stands_44 : decode cX10_stands 44 = .ok (.iload_n 2, 1) := by decide +kernel
theorem dX10_stands_45 : decode cX10_stands 45 = .ok (.iaload, 1) := by decide +kernel
theorem dX10_stands_46 : decode cX10_stands 46 = .ok (.aload_n 0, 1) := by decide +kernel
theorem dX10_stands_47 : decode cX10_stands 47 = .ok (.getfield 38, 3) := by decide +kernel
theorem dX10_stands_50 : decode cX10_stands 50 = .ok (.iload_n 1, 1) := by decide +kernel
theorem dX10_stands_51 : decode cX10_stands 51 = .ok (.iaload, 1) := by decide +kernel
theorem dX10_stands_52 : decode cX10_stands 52 = .ok (.if_icmp .eq 63, 3) := by decide +kernel
theorem dX10_stands_55 : decode cX10_stands 55 = .ok (.aload_n 0, 1) := by decide +kernel
theorem dX10_stands_56 : decode cX10_stands 56 = .ok (.iload_n 2, 1) := by decide +kernel
theorem dX10_stands_57 : decode cX10_stands 57 = .ok (.invokevirtual 239, 3) := by decide +kernel
theorem dX10_stands_60 : decode cX10_stands 60 = .ok (.ifCond .ne 6, 3) := by decide +kernel
theorem dX10_stands_63 : decode cX10_stands 63 = .ok (.goto 52, 3) := by decide +kernel
theorem dX10_stands_66 : decode cX10_stands 66 = .ok (.aload_n 0, 1) := by decide +kernel
theorem dX10_stands_67 : decode cX10_stands 67 = .ok (.getfield 28, 3) := by decide +kernel
theorem dX10_stands_70 : decode cX10_stands 70 = .ok (.aload_n 0, 1) := by decide +kernel
theorem dX10_stands_71 : decode cX10_stands 71 = .ok (.getfield 38, 3) := by decide +kernel
theorem dX10_stands_74 : decode cX10_stands 74 = .ok (.iload_n 2, 1) := by decide +kernel
theorem dX10_stands_75 : decode cX10_stands 75 = .ok (.iaload, 1) := by decide +kernel
theorem dX10_stands_76 : decode cX10_stands 76 = .ok (.iaload, 1) := by decide +kernel
theorem dX10_stands_77 : decode cX10_stands 77 = .ok (.aload_n 0, 1) := by decide +kernel
theorem dX10_stands_78 : decode cX10_stands 78 = .ok (.getfield 28, 3) := by decide +kernel
theorem dX10_stands_81 : decode cX10_stands 81 = .ok (.aload_n 0, 1) := by decide +kernel
theorem dX10_stands_82 : decode cX10_stands 82 = .ok (.getfield 38, 3) := by decide +kernel
theorem dX10_stands_85 : decode cX10_stands 85 = .ok (.iload_n 1, 1) := by decide +kernel
theorem dX10_stands_86 : decode cX10_stands 86 = .ok (.iaload, 1) := by decide +kernel
theorem dX10_stands_87 : decode cX10_stands 87 = .ok (.iaload, 1) := by decide +kernel
theorem dX10_stands_88 : decode cX10_stands 88 = .ok (.isub, 1) := by decide +kernel
theorem dX10_stands_89 : decode cX10_stands 89 = .ok (.istore_n 3, 1) := by decide +kernel
theorem dX10_stands_90 : decode cX10_stands 90 = .ok (.iload_n 3, 1) := by decide +kernel
theorem dX10_stands_91 : decode cX10_stands 91 = .ok (.ifCond .gt 22, 3) := by decide +kernel
theorem dX10_stands_94 : decode cX10_stands 94 = .ok (.iload_n 3, 1) := by decide +kernel
theorem dX10_stands_95 : decode cX10_stands 95 = .ok (.ifCond .ne 20, 3) := by decide +kernel
theorem dX10_stands_98 : decode cX10_stands 98 = .ok (.aload_n 0, 1) := by decide +kernel
theorem dX10_stands_99 : decode cX10_stands 99 = .ok (.getfield 38, 3) := by decide +kernel
theorem dX10_stands_102 : decode cX10_stands 102 = .ok (.iload_n 2, 1) := by decide +kernel
theorem dX10_stands_103 : decode cX10_stands 103 = .ok (.iaload, 1) := by decide +kernel
theorem dX10_stands_104 : decode cX10_stands 104 = .ok (.aload_n 0, 1) := by decide +kernel
theorem dX10_stands_105 : decode cX10_stands 105 = .ok (.getfield 38, 3) := by decide +kernel
theorem dX10_stands_108 : decode cX10_stands 108 = .ok (.iload_n 1, 1) := by decide +kernel
theorem dX10_stands_109 : decode cX10_stands 109 = .ok (.iaload, 1) := by decide +kernel
theorem dX10_stands_110 : decode cX10_stands 110 = .ok (.if_icmp .ge 5, 3) := by decide +kernel
theorem dX10_stands_113 : decode cX10_stands 113 = .ok (.iconst 1, 1) := by decide +kernel
theorem dX10_stands_114 : decode cX10_stands 114 = .ok (.ireturn, 1) := by decide +kernel
theorem dX10_stands_115 : decode cX10_stands 115 = .ok (.iinc 2 1, 3) := by decide +kernel
theorem dX10_stands_118 : decode cX10_stands 118 = .ok (.goto (-116), 3) := by decide +kernel
theorem dX10_stands_121 : decode cX10_stands 121 = .ok (.iconst 0, 1) := by decide +kernel
theorem dX10_stands_122 : decode cX10_stands 122 = .ok (.ireturn, 1) := by decide +kernel
theorem dX10_draws_0 : decode cX10_draws 0 = .ok (.aload_n 0, 1) := by decide +kernel
theorem dX10_draws_1 : decode cX10_draws 1 = .ok (.sipush 25173, 3) := by decide +kernel
theorem dX10_draws_4 : decode cX10_draws 4 = .ok (.aload_n 0, 1) := by decide +kernel
theorem dX10_draws_5 : decode cX10_draws 5 = .ok (.getfield 154, 3) := by decide +kernel
theorem dX10_draws_8 : decode cX10_draws 8 = .ok (.imul, 1) := by decide +kernel
theorem dX10_draws_9 : decode cX10_draws 9 = .ok (.sipush 13849, 3) := by decide +kernel
theorem dX10_draws_12 : decode cX10_draws 12 = .ok (.iadd, 1) := by decide +kernel
theorem dX10_draws_13 : decode cX10_draws 13 = .ok (.ldc_w 340, 3) := by decide +kernel
theorem dX10_draws_16 : decode cX10_draws 16 = .ok (.irem, 1) := by decide +kernel
theorem dX10_draws_17 : decode cX10_draws 17 = .ok (.putfield 154, 3) := by decide +kernel
theorem dX10_draws_20 : decode cX10_draws 20 = .ok (.aload_n 0, 1) := by decide +kernel
theorem dX10_draws_21 : decode cX10_draws 21 = .ok (.getfield 154, 3) := by decide +kernel
theorem dX10_draws_24 : decode cX10_draws 24 = .ok (.bipush 10, 2) := by decide +kernel
theorem dX10_draws_26 : decode cX10_draws 26 = .ok (.irem, 1) := by decide +kernel
theorem dX10_draws_27 : decode cX10_draws 27 = .ok (.ireturn, 1) := by decide +kernel
theorem dX10_frightens_0 : decode cX10_frightens 0 = .ok (.iconst 0, 1) := by decide +kernel
theorem dX10_frightens_1 : decode cX10_frightens 1 = .ok (.istore 5, 2) := by decide +kernel
theorem dX10_frightens_3 : decode cX10_frightens 3 = .ok (.iload 5, 2) := by decide +kernel
theorem dX10_frightens_5 : decode cX10_frightens 5 = .ok (.bipush 10, 2) := by decide +kernel
theorem dX10_frightens_7 : decode cX10_frightens 7 = .ok (.if_icmp .ge 137, 3) := by decide +kernel
theorem dX10_frightens_10 : decode cX10_frightens 10 = .ok (.aload_n 0, 1) := by decide +kernel
theorem dX10_frightens_11 : decode cX10_frightens 11 = .ok (.iload 5, 2) := by decide +kernel
theorem dX10_frightens_13 : decode cX10_frightens 13 = .ok (.invokevirtual 185, 3) := by decide +kernel
theorem dX10_frightens_16 : decode cX10_frightens 16 = .ok (.ifCond .eq 17, 3) := by decide +kernel
theorem dX10_frightens_19 : decode cX10_frightens 19 = .ok (.aload_n 0, 1) := by decide +kernel
theorem dX10_frightens_20 : decode cX10_frightens 20 = .ok (.iload_n 1, 1) := by decide +kernel
theorem dX10_frightens_21 : decode cX10_frightens 21 = .ok (.iload 5, 2) := by decide +kernel
theorem dX10_frightens_23 : decode cX10_frightens 23 = .ok (.iload_n 2, 1) := by decide +kernel
theorem dX10_frightens_24 : decode cX10_frightens 24 = .ok (.iload_n 3, 1) := by decide +kernel
theorem dX10_frightens_25 : decode cX10_frightens 25 = .ok (.iload 4, 2) := by decide +kernel
theorem dX10_frightens_27 : decode cX10_frightens 27 = .ok (.invokevirtual 336, 3) := by decide +kernel
theorem dX10_frightens_30 : decode cX10_frightens 30 = .ok (.goto 5, 3) := by decide +kernel
theorem dX10_frightens_33 : decode cX10_frightens 33 = .ok (.bipush (-2), 2) := by decide +kernel
theorem dX10_frightens_35 : decode cX10_frightens 35 = .ok (.istore 6, 2) := by decide +kernel
theorem dX10_frightens_37 : decode cX10_frightens 37 = .ok (.iload 6, 2) := by decide +kernel
theorem dX10_frightens_39 : decode cX10_frightens 39 = .ok (.ifCond .ge 6, 3) := by decide +kernel
theorem dX10_frightens_42 : decode cX10_frightens 42 = .ok (.goto 96, 3) := by decide +kernel
theorem dX10_frightens_45 : decode cX10_frightens 45 = .ok (.aload_n 0, 1) := by decide +kernel
theorem dX10_frightens_46 : decode cX10_frightens 46 = .ok (.getfield 102, 3) := by decide +kernel
theorem dX10_frightens_49 : decode cX10_frightens 49 = .ok (.iconst 0, 1) := by decide +kernel
theorem dX10_frightens_50 : decode cX10_frightens 50 = .ok (.aload_n 0, 1) := by decide +kernel
theorem dX10_frightens_51 : decode cX10_frightens 51 = .ok (.getfield 102, 3) := by decide +kernel
theorem dX10_frightens_54 : decode cX10_frightens 54 = .ok (.iconst 0, 1) := by decide +kernel
theorem dX10_frightens_55 : decode cX10_frightens 55 = .ok (.iaload, 1) := by decide +kernel
theorem dX10_frightens_56 : decode cX10_frightens 56 = .ok (.iload 6, 2) := by decide +kernel
theorem dX10_frightens_58 : decode cX10_frightens 58 = .ok (.iadd, 1) := by decide +kernel
theorem dX10_frightens_59 : decode cX10_frightens 59 = .ok (.iastore, 1) := by decide +kernel
theorem dX10_frightens_60 : decode cX10_frightens 60 = .ok (.aload_n 0, 1) := by decide +kernel
theorem dX10_frightens_61 : decode cX10_frightens 61 = .ok (.getfield 102, 3) := by decide +kernel
theorem dX10_frightens_64 : decode cX10_frightens 64 = .ok (.bipush 10, 2) := by decide +kernel
theorem dX10_frightens_66 : decode cX10_frightens 66 = .ok (.iload 5, 2) := by decide +kernel
theorem dX10_frightens_68 : decode cX10_frightens 68 = .ok (.iadd, 1) := by decide +kernel
theorem dX10_frightens_69 : decode cX10_frightens 69 = .ok (.aload_n 0, 1) := by decide +kernel
theorem dX10_frightens_70 : decode cX10_frightens 70 = .ok (.getfield 102, 3) := by decide +kernel
theorem dX10_frightens_73 : decode cX10_frightens 73 = .ok (.bipush 10, 2) := by decide +kernel
theorem dX10_frightens_75 : decode cX10_frightens 75 = .ok (.iload 5, 2) := by decide +kernel
theorem dX10_frightens_77 : decode cX10_frightens 77 = .ok (.iadd, 1) := by decide +kernel
theorem dX10_frightens_78 : decode cX10_frightens 78 = .ok (.iaload, 1) := by decide +kernel
theorem dX10_frightens_79 : decode cX10_frightens 79 = .ok (.iload 6, 2) := by decide +kernel
theorem dX10_frightens_81 : decode cX10_frightens 81 = .ok (.iadd, 1) := by decide +kernel
theorem dX10_frightens_82 : decode cX10_frightens 82 = .ok (.iastore, 1) := by decide +kernel
theorem dX10_frightens_83 : decode cX10_frightens 83 = .ok (.aload_n 0, 1) := by decide +kernel
theorem dX10_frightens_84 : decode cX10_frightens 84 = .ok (.getfield 102, 3) := by decide +kernel
theorem dX10_frightens_87 : decode cX10_frightens 87 = .ok (.bipush 40, 2) := by decide +kernel
theorem dX10_frightens_89 : decode cX10_frightens 89 = .ok (.iload_n 2, 1) := by decide +kernel
theorem dX10_frightens_90 : decode cX10_frightens 90 = .ok (.iadd, 1) := by decide +kernel
theorem dX10_frightens_91 : decode cX10_frightens 91 = .ok (.aload_n 0, 1) := by decide +kernel
theorem dX10_frightens_92 : decode cX10_frightens 92 = .ok (.getfield 102, 3) := by decide +kernel
theorem dX10_frightens_95 : decode cX10_frightens 95 = .ok (.bipush 40, 2) := by decide +kernel
theorem dX10_frightens_97 : decode cX10_frightens 97 = .ok (.iload_n 2, 1) := by decide +kernel
theorem dX10_frightens_98 : decode cX10_frightens 98 = .ok (.iadd, 1) := by decide +kernel
theorem dX10_frightens_99 : decode cX10_frightens 99 = .ok (.iaload, 1) := by decide +kernel
theorem dX10_frightens_100 : decode cX10_frightens 100 = .ok (.iload 6, 2) := by decide +kernel
theorem dX10_frightens_102 : decode cX10_frightens 102 = .ok (.iadd, 1) := by decide +kernel
theorem dX10_frightens_103 : decode cX10_frightens 103 = .ok (.iastore, 1) := by decide +kernel
theorem dX10_frightens_104 : decode cX10_frightens 104 = .ok (.aload_n 0, 1) := by decide +kernel
theorem dX10_frightens_105 : decode cX10_frightens 105 = .ok (.getfield 102, 3) := by decide +kernel
theorem dX10_frightens_108 : decode cX10_frightens 108 = .ok (.iconst 2, 1) := by decide +kernel
theorem dX10_frightens_109 : decode cX10_frightens 109 = .ok (.aload_n 0, 1) := by decide +kernel
theorem dX10_frightens_110 : decode cX10_frightens 110 = .ok (.getfield 102, 3) := by decide +kernel
theorem dX10_frightens_113 : decode cX10_frightens 113 = .ok (.iconst 2, 1) := by decide +kernel
theorem dX10_frightens_114 : decode cX10_frightens 114 = .ok (.iaload, 1) := by decide +kernel
theorem dX10_frightens_115 : decode cX10_frightens 115 = .ok (.iconst 1, 1) := by decide +kernel
theorem dX10_frightens_116 : decode cX10_frightens 116 = .ok (.iadd, 1) := by decide +kernel
theorem dX10_frightens_117 : decode cX10_frightens 117 = .ok (.iastore, 1) := by decide +kernel
theorem dX10_frightens_118 : decode cX10_frightens 118 = .ok (.aload_n 0, 1) := by decide +kernel
theorem dX10_frightens_119 : decode cX10_frightens 119 = .ok (.getfield 102, 3) := by decide +kernel
theorem dX10_frightens_122 : decode cX10_frightens 122 = .ok (.bipush 20, 2) := by decide +kernel
theorem dX10_frightens_124 : decode cX10_frightens 124 = .ok (.iload_n 1, 1) := by decide +kernel
theorem dX10_frightens_125 : decode cX10_frightens 125 = .ok (.iadd, 1) := by decide +kernel
theorem dX10_frightens_126 : decode cX10_frightens 126 = .ok (.aload_n 0, 1) := by decide +kernel
theorem dX10_frightens_127 : decode cX10_frightens 127 = .ok (.getfield 102, 3) := by decide +kernel
theorem dX10_frightens_130 : decode cX10_frightens 130 = .ok (.bipush 20, 2) := by decide +kernel
theorem dX10_frightens_132 : decode cX10_frightens 132 = .ok (.iload_n 1, 1) := by decide +kernel
theorem dX10_frightens_133 : decode cX10_frightens 133 = .ok (.iadd, 1) := by decide +kernel
theorem dX10_frightens_134 : decode cX10_frightens 134 = .ok (.iaload, 1) := by decide +kernel
theorem dX10_frightens_135 : decode cX10_frightens 135 = .ok (.iconst 1, 1) := by decide +kernel
theorem dX10_frightens_136 : decode cX10_frightens 136 = .ok (.iadd, 1) := by decide +kernel
theorem dX10_frightens_137 : decode cX10_frightens 137 = .ok (.iastore, 1) := by decide +kernel
theorem dX10_frightens_138 : decode cX10_frightens 138 = .ok (.iinc 5 1, 3) := by decide +kernel
theorem dX10_frightens_141 : decode cX10_frightens 141 = .ok (.goto (-138), 3) := by decide +kernel
theorem dX10_frightens_144 : decode cX10_frightens 144 = .ok (.return_, 1) := by decide +kernel
theorem dX10_goes_0 : decode cX10_goes 0 = .ok (.aload_n 0, 1) := by decide +kernel
theorem dX10_goes_1 : decode cX10_goes 1 = .ok (.getfield 38, 3) := by decide +kernel
theorem dX10_goes_4 : decode cX10_goes 4 = .ok (.iload_n 1, 1) := by decide +kernel
theorem dX10_goes_5 : decode cX10_goes 5 = .ok (.iaload, 1) := by decide +kernel
theorem dX10_goes_6 : decode cX10_goes 6 = .ok (.istore_n 3, 1) := by decide +kernel
theorem dX10_goes_7 : decode cX10_goes 7 = .ok (.aload_n 0, 1) := by decide +kernel
theorem dX10_goes_8 : decode cX10_goes 8 = .ok (.iload_n 1, 1) := by decide +kernel
theorem dX10_goes_9 : decode cX10_goes 9 = .ok (.invokevirtual 341, 3) := by decide +kernel
theorem dX10_goes_12 : decode cX10_goes 12 = .ok (.ifCond .eq 18, 3) := by decide +kernel
theorem dX10_goes_15 : decode cX10_goes 15 = .ok (.aload_n 0, 1) := by decide +kernel
theorem dX10_goes_16 : decode cX10_goes 16 = .ok (.getfield 102, 3) := by decide +kernel
theorem dX10_goes_19 : decode cX10_goes 19 = .ok (.iconst 4, 1) := by decide +kernel
theorem dX10_goes_20 : decode cX10_goes 20 = .ok (.aload_n 0, 1) := by decide +kernel
theorem dX10_goes_21 : decode cX10_goes 21 = .ok (.getfield 102, 3) := by decide +kernel
theorem dX10_goes_24 : decode cX10_goes 24 = .ok (.iconst 4, 1) := by decide +kernel
theorem dX10_goes_25 : decode cX10_goes 25 = .ok (.iaload, 1) := by decide +kernel
theorem dX10_goes_26 : decode cX10_goes 26 = .ok (.iconst 1, 1) := by decide +kernel
theorem dX10_goes_27 : decode cX10_goes 27 = .ok (.iadd, 1) := by decide +kernel
theorem dX10_goes_28 : decode cX10_goes 28 = .ok (.iastore, 1) := by decide +kernel
theorem dX10_goes_29 : decode cX10_goes 29 = .ok (.return_, 1) := by decide +kernel
theorem dX10_goes_30 : decode cX10_goes 30 = .ok (.aload_n 0, 1) := by decide +kernel
theorem dX10_goes_31 : decode cX10_goes 31 = .ok (.invokevirtual 344, 3) := by decide +kernel
theorem dX10_goes_34 : decode cX10_goes 34 = .ok (.istore 4, 2) := by decide +kernel
theorem dX10_goes_36 : decode cX10_goes 36 = .ok (.aload_n 0, 1) := by decide +kernel
theorem dX10_goes_37 : decode cX10_goes 37 = .ok (.iload_n 3, 1) := by decide +kernel
theorem dX10_goes_38 : decode cX10_goes 38 = .ok (.aload_n 0, 1) := by decide +kernel
theorem dX10_goes_39 : decode cX10_goes 39 = .ok (.getfield 41, 3) := by decide +kernel
theorem dX10_goes_42 : decode cX10_goes 42 = .ok (.iload_n 1, 1) := by decide +kernel
theorem dX10_goes_43 : decode cX10_goes 43 = .ok (.iaload, 1) := by decide +kernel
theorem dX10_goes_44 : decode cX10_goes 44 = .ok (.aload_n 0, 1) := by decide +kernel
theorem dX10_goes_45 : decode cX10_goes 45 = .ok (.getfield 44, 3) := by decide +kernel
theorem dX10_goes_48 : decode cX10_goes 48 = .ok (.iload_n 1, 1) := by decide +kernel
theorem dX10_goes_49 : decode cX10_goes 49 = .ok (.iaload, 1) := by decide +kernel
theorem dX10_goes_50 : decode cX10_goes 50 = .ok (.iload_n 2, 1) := by decide +kernel
theorem dX10_goes_51 : decode cX10_goes 51 = .ok (.invokevirtual 326, 3) := by decide +kernel
theorem dX10_goes_54 : decode cX10_goes 54 = .ok (.iload 4, 2) := by decide +kernel
theorem dX10_goes_56 : decode cX10_goes 56 = .ok (.aload_n 0, 1) := by decide +kernel
theorem dX10_goes_57 : decode cX10_goes 57 = .ok (.bipush 122, 2) := by decide +kernel
theorem dX10_goes_59 : decode cX10_goes 59 = .ok (.bipush 10, 2) := by decide +kernel
theorem dX10_goes_61 : decode cX10_goes 61 = .ok (.invokevirtual 333, 3) := by decide +kernel
theorem dX10_goes_64 : decode cX10_goes 64 = .ok (.if_icmp .ge 18, 3) := by decide +kernel
theorem dX10_goes_67 : decode cX10_goes 67 = .ok (.aload_n 0, 1) := by decide +kernel
theorem dX10_goes_68 : decode cX10_goes 68 = .ok (.getfield 102, 3) := by decide +kernel
theorem dX10_goes_71 : decode cX10_goes 71 = .ok (.iconst 3, 1) := by decide +kernel
theorem dX10_goes_72 : decode cX10_goes 72 = .ok (.aload_n 0, 1) := by decide +kernel
theorem dX10_goes_73 : decode cX10_goes 73 = .ok (.getfield 102, 3) := by decide +kernel
theorem dX10_goes_76 : decode cX10_goes 76 = .ok (.iconst 3, 1) := by decide +kernel
theorem dX10_goes_77 : decode cX10_goes 77 = .ok (.iaload, 1) := by decide +kernel
theorem dX10_goes_78 : decode cX10_goes 78 = .ok (.iconst 1, 1) := by decide +kernel
theorem dX10_goes_79 : decode cX10_goes 79 = .ok (.iadd, 1) := by decide +kernel
theorem dX10_goes_80 : decode cX10_goes 80 = .ok (.iastore, 1) := by decide +kernel
theorem dX10_goes_81 : decode cX10_goes 81 = .ok (.return_, 1) := by decide +kernel
theorem dX10_goes_82 : decode cX10_goes 82 = .ok (.aload_n 0, 1) := by decide +kernel
theorem dX10_goes_83 : decode cX10_goes 83 = .ok (.iload_n 3, 1) := by decide +kernel
theorem dX10_goes_84 : decode cX10_goes 84 = .ok (.aload_n 0, 1) := by decide +kernel
theorem dX10_goes_85 : decode cX10_goes 85 = .ok (.getfield 41, 3) := by decide +kernel
theorem dX10_goes_88 : decode cX10_goes 88 = .ok (.iload_n 1, 1) := by decide +kernel
theorem dX10_goes_89 : decode cX10_goes 89 = .ok (.iaload, 1) := by decide +kernel
theorem dX10_goes_90 : decode cX10_goes 90 = .ok (.aload_n 0, 1) := by decide +kernel
theorem dX10_goes_91 : decode cX10_goes 91 = .ok (.getfield 44, 3) := by decide +kernel
theorem dX10_goes_94 : decode cX10_goes 94 = .ok (.iload_n 1, 1) := by decide +kernel
theorem dX10_goes_95 : decode cX10_goes 95 = .ok (.iaload, 1) := by decide +kernel
theorem dX10_goes_96 : decode cX10_goes 96 = .ok (.iload_n 2, 1) := by decide +kernel
theorem dX10_goes_97 : decode cX10_goes 97 = .ok (.invokevirtual 347, 3) := by decide +kernel
theorem dX10_goes_100 : decode cX10_goes 100 = .ok (.aload_n 0, 1) := by decide +kernel
theorem dX10_goes_101 : decode cX10_goes 101 = .ok (.iload_n 3, 1) := by decide +kernel
theorem dX10_goes_102 : decode cX10_goes 102 = .ok (.aload_n 0, 1) := by decide +kernel
theorem dX10_goes_103 : decode cX10_goes 103 = .ok (.getfield 41, 3) := by decide +kernel
theorem dX10_goes_106 : decode cX10_goes 106 = .ok (.iload_n 1, 1) := by decide +kernel
theorem dX10_goes_107 : decode cX10_goes 107 = .ok (.iaload, 1) := by decide +kernel
theorem dX10_goes_108 : decode cX10_goes 108 = .ok (.aload_n 0, 1) := by decide +kernel
theorem dX10_goes_109 : decode cX10_goes 109 = .ok (.getfield 44, 3) := by decide +kernel
theorem dX10_goes_112 : decode cX10_goes 112 = .ok (.iload_n 1, 1) := by decide +kernel
theorem dX10_goes_113 : decode cX10_goes 113 = .ok (.iaload, 1) := by decide +kernel
theorem dX10_goes_114 : decode cX10_goes 114 = .ok (.iload_n 2, 1) := by decide +kernel
theorem dX10_goes_115 : decode cX10_goes 115 = .ok (.invokevirtual 326, 3) := by decide +kernel
theorem dX10_goes_118 : decode cX10_goes 118 = .ok (.aload_n 0, 1) := by decide +kernel
theorem dX10_goes_119 : decode cX10_goes 119 = .ok (.bipush 119, 2) := by decide +kernel
theorem dX10_goes_121 : decode cX10_goes 121 = .ok (.sipush 999, 3) := by decide +kernel
theorem dX10_goes_124 : decode cX10_goes 124 = .ok (.invokevirtual 333, 3) := by decide +kernel
theorem dX10_goes_127 : decode cX10_goes 127 = .ok (.aload_n 0, 1) := by decide +kernel
theorem dX10_goes_128 : decode cX10_goes 128 = .ok (.getfield 41, 3) := by decide +kernel
theorem dX10_goes_131 : decode cX10_goes 131 = .ok (.iload_n 1, 1) := by decide +kernel
theorem dX10_goes_132 : decode cX10_goes 132 = .ok (.iaload, 1) := by decide +kernel
theorem dX10_goes_133 : decode cX10_goes 133 = .ok (.aload_n 0, 1) := by decide +kernel
theorem dX10_goes_134 : decode cX10_goes 134 = .ok (.getfield 158, 3) := by decide +kernel
theorem dX10_goes_137 : decode cX10_goes 137 = .ok (.if_icmp .ne 7, 3) := by decide +kernel
theorem dX10_goes_140 : decode cX10_goes 140 = .ok (.iconst 2, 1) := by decide +kernel
theorem dX10_goes_141 : decode cX10_goes 141 = .ok (.goto 4, 3) := by decide +kernel
theorem dX10_goes_144 : decode cX10_goes 144 = .ok (.iconst 1, 1) := by decide +kernel
theorem dX10_goes_145 : decode cX10_goes 145 = .ok (.imul, 1) := by decide +kernel
theorem dX10_goes_146 : decode cX10_goes 146 = .ok (.istore 5, 2) := by decide +kernel
theorem dX10_goes_148 : decode cX10_goes 148 = .ok (.aload_n 0, 1) := by decide +kernel
theorem dX10_goes_149 : decode cX10_goes 149 = .ok (.getfield 102, 3) := by decide +kernel
theorem dX10_goes_152 : decode cX10_goes 152 = .ok (.iconst 1, 1) := by decide +kernel
theorem dX10_goes_153 : decode cX10_goes 153 = .ok (.aload_n 0, 1) := by decide +kernel
theorem dX10_goes_154 : decode cX10_goes 154 = .ok (.getfield 102, 3) := by decide +kernel
theorem dX10_goes_157 : decode cX10_goes 157 = .ok (.iconst 1, 1) := by decide +kernel
theorem dX10_goes_158 : decode cX10_goes 158 = .ok (.iaload, 1) := by decide +kernel
theorem dX10_goes_159 : decode cX10_goes 159 = .ok (.iload 5, 2) := by decide +kernel
theorem dX10_goes_161 : decode cX10_goes 161 = .ok (.iadd, 1) := by decide +kernel
theorem dX10_goes_162 : decode cX10_goes 162 = .ok (.iastore, 1) := by decide +kernel
theorem dX10_goes_163 : decode cX10_goes 163 = .ok (.aload_n 0, 1) := by decide +kernel
theorem dX10_goes_164 : decode cX10_goes 164 = .ok (.getfield 102, 3) := by decide +kernel
theorem dX10_goes_167 : decode cX10_goes 167 = .ok (.bipush 30, 2) := by decide +kernel
theorem dX10_goes_169 : decode cX10_goes 169 = .ok (.iload_n 3, 1) := by decide +kernel
theorem dX10_goes_170 : decode cX10_goes 170 = .ok (.iadd, 1) := by decide +kernel
theorem dX10_goes_171 : decode cX10_goes 171 = .ok (.aload_n 0, 1) := by decide +kernel
theorem dX10_goes_172 : decode cX10_goes 172 = .ok (.getfield 102, 3) := by decide +kernel
theorem dX10_goes_175 : decode cX10_goes 175 = .ok (.bipush 30, 2) := by decide +kernel
theorem dX10_goes_177 : decode cX10_goes 177 = .ok (.iload_n 3, 1) := by decide +kernel
theorem dX10_goes_178 : decode cX10_goes 178 = .ok (.iadd, 1) := by decide +kernel
theorem dX10_goes_179 : decode cX10_goes 179 = .ok (.iaload, 1) := by decide +kernel
theorem dX10_goes_180 : decode cX10_goes 180 = .ok (.iload 5, 2) := by decide +kernel
theorem dX10_goes_182 : decode cX10_goes 182 = .ok (.iadd, 1) := by decide +kernel
theorem dX10_goes_183 : decode cX10_goes 183 = .ok (.iastore, 1) := by decide +kernel
theorem dX10_goes_184 : decode cX10_goes 184 = .ok (.return_, 1) := by decide +kernel
theorem dX10_goesThrough_0 : decode cX10_goesThrough 0 = .ok (.iconst 0, 1) := by decide +kernel
theorem dX10_goesThrough_1 : decode cX10_goesThrough 1 = .ok (.istore_n 1, 1) := by decide +kernel
theorem dX10_goesThrough_2 : decode cX10_goesThrough 2 = .ok (.iload_n 1, 1) := by decide +kernel
theorem dX10_goesThrough_3 : decode cX10_goesThrough 3 = .ok (.bipush 47, 2) := by decide +kernel
theorem dX10_goesThrough_5 : decode cX10_goesThrough 5 = .ok (.if_icmp .ge 16, 3) := by decide +kernel
theorem dX10_goesThrough_8 : decode cX10_goesThrough 8 = .ok (.aload_n 0, 1) := by decide +kernel
theorem dX10_goesThrough_9 : decode cX10_goesThrough 9 = .ok (.getfield 102, 3) := by decide +kernel
theorem dX10_goesThrough_12 : decode cX10_goesThrough 12 = .ok (.iload_n 1, 1) := by decide +kernel
theorem dX10_goesThrough_13 : decode cX10_goesThrough 13 = .ok (.iconst 0, 1) := by decide +kernel
theorem dX10_goesThrough_14 : decode cX10_goesThrough 14 = .ok (.iastore, 1) := by decide +kernel
theorem dX10_goesThrough_15 : decode cX10_goesThrough 15 = .ok (.iinc 1 1, 3) := by decide +kernel
theorem dX10_goesThrough_18 : decode cX10_goesThrough 18 = .ok (.goto (-16), 3) := by decide +kernel
theorem dX10_goesThrough_21 : decode cX10_goesThrough 21 = .ok (.iconst 0, 1) := by decide +kernel
theorem dX10_goesThrough_22 : decode cX10_goesThrough 22 = .ok (.istore_n 1, 1) := by decide +kernel
theorem dX10_goesThrough_23 : decode cX10_goesThrough 23 = .ok (.iload_n 1, 1) := by decide +kernel
theorem dX10_goesThrough_24 : decode cX10_goesThrough 24 = .ok (.bipush 7, 2) := by decide +kernel
theorem dX10_goesThrough_26 : decode cX10_goesThrough 26 = .ok (.if_icmp .ge 91, 3) := by decide +kernel
theorem dX10_goesThrough_29 : decode cX10_goesThrough 29 = .ok (.aload_n 0, 1) := by decide +kernel
theorem dX10_goesThrough_30 : decode cX10_goesThrough 30 = .ok (.getfield 182, 3) := by decide +kernel
theorem dX10_goesThrough_33 : decode cX10_goesThrough 33 = .ok (.istore_n 2, 1) := by decide +kernel
theorem dX10_goesThrough_34 : decode cX10_goesThrough 34 = .ok (.iconst 0, 1) := by decide +kernel
theorem dX10_goesThrough_35 : decode cX10_goesThrough 35 = .ok (.istore_n 3, 1) := by decide +kernel
theorem dX10_goesThrough_36 : decode cX10_goesThrough 36 = .ok (.iload_n 3, 1) := by decide +kernel
theorem dX10_goesThrough_37 : decode cX10_goesThrough 37 = .ok (.aload_n 0, 1) := by decide +kernel
theorem dX10_goesThrough_38 : decode cX10_goesThrough 38 = .ok (.getfield 233, 3) := by decide +kernel
theorem dX10_goesThrough_41 : decode cX10_goesThrough 41 = .ok (.if_icmp .ge 70, 3) := by decide +kernel
theorem dX10_goesThrough_44 : decode cX10_goesThrough 44 = .ok (.aload_n 0, 1) := by decide +kernel
theorem dX10_goesThrough_45 : decode cX10_goesThrough 45 = .ok (.getfield 41, 3) := by decide +kernel
theorem dX10_goesThrough_48 : decode cX10_goesThrough 48 = .ok (.iload_n 3, 1) := by decide +kernel
theorem dX10_goesThrough_49 : decode cX10_goesThrough 49 = .ok (.iaload, 1) := by decide +kernel
theorem dX10_goesThrough_50 : decode cX10_goesThrough 50 = .ok (.iload_n 1, 1) := by decide +kernel
theorem dX10_goesThrough_51 : decode cX10_goesThrough 51 = .ok (.if_icmp .ne 54, 3) := by decide +kernel
theorem dX10_goesThrough_54 : decode cX10_goesThrough 54 = .ok (.aload_n 0, 1) := by decide +kernel
theorem dX10_goesThrough_55 : decode cX10_goesThrough 55 = .ok (.iload_n 3, 1) := by decide +kernel
theorem dX10_goesThrough_56 : decode cX10_goesThrough 56 = .ok (.invokevirtual 239, 3) := by decide +kernel
theorem dX10_goesThrough_59 : decode cX10_goesThrough 59 = .ok (.ifCond .ne 6, 3) := by decide +kernel
theorem dX10_goesThrough_62 : decode cX10_goesThrough 62 = .ok (.goto 43, 3) := by decide +kernel
theorem dX10_goesThrough_65 : decode cX10_goesThrough 65 = .ok (.aload_n 0, 1) := by decide +kernel
theorem dX10_goesThrough_66 : decode cX10_goesThrough 66 = .ok (.getfield 56, 3) := by decide +kernel
theorem dX10_goesThrough_69 : decode cX10_goesThrough 69 = .ok (.iload_n 3, 1) := by decide +kernel
theorem dX10_goesThrough_70 : decode cX10_goesThrough 70 = .ok (.baload, 1) := by decide +kernel
theorem dX10_goesThrough_71 : decode cX10_goesThrough 71 = .ok (.ifCond .eq 11, 3) := by decide +kernel
theorem dX10_goesThrough_74 : decode cX10_goesThrough 74 = .ok (.iload_n 2, 1) := by decide +kernel
theorem dX10_goesThrough_75 : decode cX10_goesThrough 75 = .ok (.ifCond .le 7, 3) := by decide +kernel
theorem dX10_goesThrough_78 : decode cX10_goesThrough 78 = .ok (.iconst 1, 1) := by decide +kernel
theorem dX10_goesThrough_79 : decode cX10_goesThrough 79 = .ok (.goto 4, 3) := by decide +kernel
theorem dX10_goesThrough_82 : decode cX10_goesThrough 82 = .ok (.iconst 0, 1) := by decide +kernel
theorem dX10_goesThrough_83 : decode cX10_goesThrough 83 = .ok (.istore 4, 2) := by decide +kernel
theorem dX10_goesThrough_85 : decode cX10_goesThrough 85 = .ok (.iload_n 2, 1) := by decide +kernel
theorem dX10_goesThrough_86 : decode cX10_goesThrough 86 = .ok (.iload 4, 2) := by decide +kernel
theorem dX10_goesThrough_88 : decode cX10_goesThrough 88 = .ok (.ifCond .eq 7, 3) := by decide +kernel
theorem dX10_goesThrough_91 : decode cX10_goesThrough 91 = .ok (.iconst 1, 1) := by decide +kernel
theorem dX10_goesThrough_92 : decode cX10_goesThrough 92 = .ok (.goto 4, 3) := by decide +kernel
theorem dX10_goesThrough_95 : decode cX10_goesThrough 95 = .ok (.iconst 0, 1) := by decide +kernel
theorem dX10_goesThrough_96 : decode cX10_goesThrough 96 = .ok (.isub, 1) := by decide +kernel
theorem dX10_goesThrough_97 : decode cX10_goesThrough 97 = .ok (.istore_n 2, 1) := by decide +kernel
theorem dX10_goesThrough_98 : decode cX10_goesThrough 98 = .ok (.aload_n 0, 1) := by decide +kernel
theorem dX10_goesThrough_99 : decode cX10_goesThrough 99 = .ok (.iload_n 3, 1) := by decide +kernel
theorem dX10_goesThrough_100 : decode cX10_goesThrough 100 = .ok (.iload 4, 2) := by decide +kernel
theorem dX10_goesThrough_102 : decode cX10_goesThrough 102 = .ok (.invokevirtual 350, 3) := by decide +kernel
theorem dX10_goesThrough_105 : decode cX10_goesThrough 105 = .ok (.iinc 3 1, 3) := by decide +kernel
theorem dX10_goesThrough_108 : decode cX10_goesThrough 108 = .ok (.goto (-72), 3) := by decide +kernel
theorem dX10_goesThrough_111 : decode cX10_goesThrough 111 = .ok (.iinc 1 1, 3) := by decide +kernel
theorem dX10_goesThrough_114 : decode cX10_goesThrough 114 = .ok (.goto (-91), 3) := by decide +kernel
theorem dX10_goesThrough_117 : decode cX10_goesThrough 117 = .ok (.return_, 1) := by decide +kernel
theorem dX10_isSum_0 : decode cX10_isSum 0 = .ok (.iload_n 1, 1) := by decide +kernel
theorem dX10_isSum_1 : decode cX10_isSum 1 = .ok (.iconst 0, 1) := by decide +kernel
theorem dX10_isSum_2 : decode cX10_isSum 2 = .ok (.iconst 4, 1) := by decide +kernel
theorem dX10_isSum_3 : decode cX10_isSum 3 = .ok (.invokestatic 175, 3) := by decide +kernel
theorem dX10_isSum_6 : decode cX10_isSum 6 = .ok (.ifCond .ne 47, 3) := by decide +kernel
theorem dX10_isSum_9 : decode cX10_isSum 9 = .ok (.iload_n 1, 1) := by decide +kernel
theorem dX10_isSum_10 : decode cX10_isSum 10 = .ok (.bipush 10, 2) := by decide +kernel
theorem dX10_isSum_12 : decode cX10_isSum 12 = .ok (.bipush 19, 2) := by decide +kernel
theorem dX10_isSum_14 : decode cX10_isSum 14 = .ok (.invokestatic 175, 3) := by decide +kernel
theorem dX10_isSum_17 : decode cX10_isSum 17 = .ok (.ifCond .eq 14, 3) := by decide +kernel
theorem dX10_isSum_20 : decode cX10_isSum 20 = .ok (.aload_n 0, 1) := by decide +kernel
theorem dX10_isSum_21 : decode cX10_isSum 21 = .ok (.iload_n 1, 1) := by decide +kernel
theorem dX10_isSum_22 : decode cX10_isSum 22 = .ok (.bipush 10, 2) := by decide +kernel
theorem dX10_isSum_24 : decode cX10_isSum 24 = .ok (.isub, 1) := by decide +kernel
theorem dX10_isSum_25 : decode cX10_isSum 25 = .ok (.invokevirtual 185, 3) := by decide +kernel
theorem dX10_isSum_28 : decode cX10_isSum 28 = .ok (.ifCond .ne 25, 3) := by decide +kernel
theorem dX10_isSum_31 : decode cX10_isSum 31 = .ok (.iload_n 1, 1) := by decide +kernel
theorem dX10_isSum_32 : decode cX10_isSum 32 = .ok (.bipush 20, 2) := by decide +kernel
theorem dX10_isSum_34 : decode cX10_isSum 34 = .ok (.bipush 39, 2) := by decide +kernel
theorem dX10_isSum_36 : decode cX10_isSum 36 = .ok (.invokestatic 175, 3) := by decide +kernel
theorem dX10_isSum_39 : decode cX10_isSum 39 = .ok (.ifCond .eq 18, 3) := by decide +kernel
theorem dX10_isSum_42 : decode cX10_isSum 42 = .ok (.aload_n 0, 1) := by decide +kernel
theorem dX10_isSum_43 : decode cX10_isSum 43 = .ok (.iload_n 1, 1) := by decide +kernel
theorem dX10_isSum_44 : decode cX10_isSum 44 = .ok (.bipush 10, 2) := by decide +kernel
theorem dX10_isSum_46 : decode cX10_isSum 46 = .ok (.irem, 1) := by decide +kernel
theorem dX10_isSum_47 : decode cX10_isSum 47 = .ok (.invokevirtual 236, 3) := by decide +kernel
theorem dX10_isSum_50 : decode cX10_isSum 50 = .ok (.ifCond .eq 7, 3) := by decide +kernel
theorem dX10_isSum_53 : decode cX10_isSum 53 = .ok (.iconst 1, 1) := by decide +kernel
theorem dX10_isSum_54 : decode cX10_isSum 54 = .ok (.goto 4, 3) := by decide +kernel
theorem dX10_isSum_57 : decode cX10_isSum 57 = .ok (.iconst 0, 1) := by decide +kernel
theorem dX10_isSum_58 : decode cX10_isSum 58 = .ok (.ireturn, 1) := by decide +kernel
theorem dX10_laysWeek_0 : decode cX10_laysWeek 0 = .ok (.aload_n 0, 1) := by decide +kernel
theorem dX10_laysWeek_1 : decode cX10_laysWeek 1 = .ok (.getfield 154, 3) := by decide +kernel
theorem dX10_laysWeek_4 : decode cX10_laysWeek 4 = .ok (.istore_n 1, 1) := by decide +kernel
theorem dX10_laysWeek_5 : decode cX10_laysWeek 5 = .ok (.aload_n 0, 1) := by decide +kernel
theorem dX10_laysWeek_6 : decode cX10_laysWeek 6 = .ok (.invokevirtual 354, 3) := by decide +kernel
theorem dX10_laysWeek_9 : decode cX10_laysWeek 9 = .ok (.aload_n 0, 1) := by decide +kernel
theorem dX10_laysWeek_10 : decode cX10_laysWeek 10 = .ok (.iload_n 1, 1) := by decide +kernel
theorem dX10_laysWeek_11 : decode cX10_laysWeek 11 = .ok (.putfield 154, 3) := by decide +kernel
theorem dX10_laysWeek_14 : decode cX10_laysWeek 14 = .ok (.return_, 1) := by decide +kernel
theorem dX10_week_0 : decode cX10_week 0 = .ok (.aload_n 0, 1) := by decide +kernel
theorem dX10_week_1 : decode cX10_week 1 = .ok (.iload_n 1, 1) := by decide +kernel
theorem dX10_week_2 : decode cX10_week 2 = .ok (.invokevirtual 357, 3) := by decide +kernel
theorem dX10_week_5 : decode cX10_week 5 = .ok (.ifCond .ne 16, 3) := by decide +kernel
theorem dX10_week_8 : decode cX10_week 8 = .ok (.iload_n 1, 1) := by decide +kernel
theorem dX10_week_9 : decode cX10_week 9 = .ok (.bipush 40, 2) := by decide +kernel
theorem dX10_week_11 : decode cX10_week 11 = .ok (.bipush 46, 2) := by decide +kernel
theorem dX10_week_13 : decode cX10_week 13 = .ok (.invokestatic 175, 3) := by decide +kernel
theorem dX10_week_16 : decode cX10_week 16 = .ok (.ifCond .ne 5, 3) := by decide +kernel
theorem dX10_week_19 : decode cX10_week 19 = .ok (.iconst (-1), 1) := by decide +kernel
theorem dX10_week_20 : decode cX10_week 20 = .ok (.ireturn, 1) := by decide +kernel
theorem dX10_week_21 : decode cX10_week 21 = .ok (.aload_n 0, 1) := by decide +kernel
theorem dX10_week_22 : decode cX10_week 22 = .ok (.invokevirtual 360, 3) := by decide +kernel
theorem dX10_week_25 : decode cX10_week 25 = .ok (.aload_n 0, 1) := by decide +kernel
theorem dX10_week_26 : decode cX10_week 26 = .ok (.getfield 102, 3) := by decide +kernel
theorem dX10_week_29 : decode cX10_week 29 = .ok (.iload_n 1, 1) := by decide +kernel
theorem dX10_week_30 : decode cX10_week 30 = .ok (.iaload, 1) := by decide +kernel
theorem dX10_week_31 : decode cX10_week 31 = .ok (.ireturn, 1) := by decide +kernel
theorem dX10_live_0 : decode cX10_live 0 = .ok (.aload_n 0, 1) := by decide +kernel
theorem dX10_live_1 : decode cX10_live 1 = .ok (.invokevirtual 354, 3) := by decide +kernel
theorem dX10_live_4 : decode cX10_live 4 = .ok (.iconst 0, 1) := by decide +kernel
theorem dX10_live_5 : decode cX10_live 5 = .ok (.istore_n 1, 1) := by decide +kernel
theorem dX10_live_6 : decode cX10_live 6 = .ok (.iload_n 1, 1) := by decide +kernel
theorem dX10_live_7 : decode cX10_live 7 = .ok (.bipush 40, 2) := by decide +kernel
theorem dX10_live_9 : decode cX10_live 9 = .ok (.if_icmp .ge 28, 3) := by decide +kernel
theorem dX10_live_12 : decode cX10_live 12 = .ok (.aload_n 0, 1) := by decide +kernel
theorem dX10_live_13 : decode cX10_live 13 = .ok (.getfield 31, 3) := by decide +kernel
theorem dX10_live_16 : decode cX10_live 16 = .ok (.iload_n 1, 1) := by decide +kernel
theorem dX10_live_17 : decode cX10_live 17 = .ok (.aload_n 0, 1) := by decide +kernel
theorem dX10_live_18 : decode cX10_live 18 = .ok (.getfield 31, 3) := by decide +kernel
theorem dX10_live_21 : decode cX10_live 21 = .ok (.iload_n 1, 1) := by decide +kernel
theorem dX10_live_22 : decode cX10_live 22 = .ok (.iaload, 1) := by decide +kernel
theorem dX10_live_23 : decode cX10_live 23 = .ok (.aload_n 0, 1) := by decide +kernel
theorem dX10_live_24 : decode cX10_live 24 = .ok (.getfield 102, 3) := by decide +kernel
theorem dX10_live_27 : decode cX10_live 27 = .ok (.iload_n 1, 1) := by decide +kernel
theorem dX10_live_28 : decode cX10_live 28 = .ok (.iaload, 1) := by decide +kernel
theorem dX10_live_29 : decode cX10_live 29 = .ok (.iadd, 1) := by decide +kernel
theorem dX10_live_30 : decode cX10_live 30 = .ok (.iastore, 1) := by decide +kernel
theorem dX10_live_31 : decode cX10_live 31 = .ok (.iinc 1 1, 3) := by decide +kernel
theorem dX10_live_34 : decode cX10_live 34 = .ok (.goto (-28), 3) := by decide +kernel
theorem dX10_live_37 : decode cX10_live 37 = .ok (.aload_n 0, 1) := by decide +kernel
theorem dX10_live_38 : decode cX10_live 38 = .ok (.getfield 31, 3) := by decide +kernel
theorem dX10_live_41 : decode cX10_live 41 = .ok (.iconst 5, 1) := by decide +kernel
theorem dX10_live_42 : decode cX10_live 42 = .ok (.aload_n 0, 1) := by decide +kernel
theorem dX10_live_43 : decode cX10_live 43 = .ok (.getfield 31, 3) := by decide +kernel
theorem dX10_live_46 : decode cX10_live 46 = .ok (.iconst 5, 1) := by decide +kernel
theorem dX10_live_47 : decode cX10_live 47 = .ok (.iaload, 1) := by decide +kernel
theorem dX10_live_48 : decode cX10_live 48 = .ok (.iconst 1, 1) := by decide +kernel
theorem dX10_live_49 : decode cX10_live 49 = .ok (.iadd, 1) := by decide +kernel
theorem dX10_live_50 : decode cX10_live 50 = .ok (.iastore, 1) := by decide +kernel
theorem dX10_live_51 : decode cX10_live 51 = .ok (.aload_n 0, 1) := by decide +kernel
theorem dX10_live_52 : decode cX10_live 52 = .ok (.getfield 102, 3) := by decide +kernel
theorem dX10_live_55 : decode cX10_live 55 = .ok (.iconst 0, 1) := by decide +kernel
theorem dX10_live_56 : decode cX10_live 56 = .ok (.iaload, 1) := by decide +kernel
theorem dX10_live_57 : decode cX10_live 57 = .ok (.ireturn, 1) := by decide +kernel
theorem dX10_soFar_0 : decode cX10_soFar 0 = .ok (.aload_n 0, 1) := by decide +kernel
theorem dX10_soFar_1 : decode cX10_soFar 1 = .ok (.iload_n 1, 1) := by decide +kernel
theorem dX10_soFar_2 : decode cX10_soFar 2 = .ok (.invokevirtual 357, 3) := by decide +kernel
theorem dX10_soFar_5 : decode cX10_soFar 5 = .ok (.ifCond .ne 8, 3) := by decide +kernel
theorem dX10_soFar_8 : decode cX10_soFar 8 = .ok (.iload_n 1, 1) := by decide +kernel
theorem dX10_soFar_9 : decode cX10_soFar 9 = .ok (.iconst 5, 1) := by decide +kernel
theorem dX10_soFar_10 : decode cX10_soFar 10 = .ok (.if_icmp .ne 12, 3) := by decide +kernel
theorem dX10_soFar_13 : decode cX10_soFar 13 = .ok (.aload_n 0, 1) := by decide +kernel
theorem dX10_soFar_14 : decode cX10_soFar 14 = .ok (.getfield 31, 3) := by decide +kernel
theorem dX10_soFar_17 : decode cX10_soFar 17 = .ok (.iload_n 1, 1) := by decide +kernel
theorem dX10_soFar_18 : decode cX10_soFar 18 = .ok (.iaload, 1) := by decide +kernel
theorem dX10_soFar_19 : decode cX10_soFar 19 = .ok (.goto 4, 3) := by decide +kernel
theorem dX10_soFar_22 : decode cX10_soFar 22 = .ok (.iconst (-1), 1) := by decide +kernel
theorem dX10_soFar_23 : decode cX10_soFar 23 = .ok (.ireturn, 1) := by decide +kernel
theorem dX10_frightened_0 : decode cX10_frightened 0 = .ok (.iconst 0, 1) := by decide +kernel
theorem dX10_frightened_1 : decode cX10_frightened 1 = .ok (.istore 4, 2) := by decide +kernel
theorem dX10_frightened_3 : decode cX10_frightened 3 = .ok (.iconst 0, 1) := by decide +kernel
theorem dX10_frightened_4 : decode cX10_frightened 4 = .ok (.istore 5, 2) := by decide +kernel
theorem dX10_frightened_6 : decode cX10_frightened 6 = .ok (.iload 5, 2) := by decide +kernel
theorem dX10_frightened_8 : decode cX10_frightened 8 = .ok (.bipush 10, 2) := by decide +kernel
theorem dX10_frightened_10 : decode cX10_frightened 10 = .ok (.if_icmp .ge 42, 3) := by decide +kernel
theorem dX10_frightened_13 : decode cX10_frightened 13 = .ok (.aload_n 0, 1) := by decide +kernel
theorem dX10_frightened_14 : decode cX10_frightened 14 = .ok (.iload 5, 2) := by decide +kernel
theorem dX10_frightened_16 : decode cX10_frightened 16 = .ok (.invokevirtual 185, 3) := by decide +kernel
theorem dX10_frightened_19 : decode cX10_frightened 19 = .ok (.ifCond .eq 27, 3) := by decide +kernel
theorem dX10_frightened_22 : decode cX10_frightened 22 = .ok (.aload_n 0, 1) := by decide +kernel
theorem dX10_frightened_23 : decode cX10_frightened 23 = .ok (.iload_n 1, 1) := by decide +kernel
theorem dX10_frightened_24 : decode cX10_frightened 24 = .ok (.iload 5, 2) := by decide +kernel
theorem dX10_frightened_26 : decode cX10_frightened 26 = .ok (.iload_n 2, 1) := by decide +kernel
theorem dX10_frightened_27 : decode cX10_frightened 27 = .ok (.iload_n 3, 1) := by decide +kernel
theorem dX10_frightened_28 : decode cX10_frightened 28 = .ok (.iconst 0, 1) := by decide +kernel
theorem dX10_frightened_29 : decode cX10_frightened 29 = .ok (.invokevirtual 336, 3) := by decide +kernel
theorem dX10_frightened_32 : decode cX10_frightened 32 = .ok (.bipush (-2), 2) := by decide +kernel
theorem dX10_frightened_34 : decode cX10_frightened 34 = .ok (.if_icmp .eq 12, 3) := by decide +kernel
theorem dX10_frightened_37 : decode cX10_frightened 37 = .ok (.iload 4, 2) := by decide +kernel
theorem dX10_frightened_39 : decode cX10_frightened 39 = .ok (.iconst 1, 1) := by decide +kernel
theorem dX10_frightened_40 : decode cX10_frightened 40 = .ok (.iload 5, 2) := by decide +kernel
theorem dX10_frightened_42 : decode cX10_frightened 42 = .ok (.ishl, 1) := by decide +kernel
theorem dX10_frightened_43 : decode cX10_frightened 43 = .ok (.ior, 1) := by decide +kernel
theorem dX10_frightened_44 : decode cX10_frightened 44 = .ok (.istore 4, 2) := by decide +kernel
theorem dX10_frightened_46 : decode cX10_frightened 46 = .ok (.iinc 5 1, 3) := by decide +kernel
theorem dX10_frightened_49 : decode cX10_frightened 49 = .ok (.goto (-43), 3) := by decide +kernel
theorem dX10_frightened_52 : decode cX10_frightened 52 = .ok (.iload 4, 2) := by decide +kernel
theorem dX10_frightened_54 : decode cX10_frightened 54 = .ok (.ireturn, 1) := by decide +kernel
theorem dX10_onceBy_0 : decode cX10_onceBy 0 = .ok (.iload_n 2, 1) := by decide +kernel
theorem dX10_onceBy_1 : decode cX10_onceBy 1 = .ok (.bipush 84, 2) := by decide +kernel
theorem dX10_onceBy_3 : decode cX10_onceBy 3 = .ok (.if_icmp .ne 18, 3) := by decide +kernel
theorem dX10_onceBy_6 : decode cX10_onceBy 6 = .ok (.aload_n 0, 1) := by decide +kernel
theorem dX10_onceBy_7 : decode cX10_onceBy 7 = .ok (.getfield 108, 3) := by decide +kernel
theorem dX10_onceBy_10 : decode cX10_onceBy 10 = .ok (.sipush 1024, 3) := by decide +kernel
theorem dX10_onceBy_13 : decode cX10_onceBy 13 = .ok (.iload_n 1, 1) := by decide +kernel
theorem dX10_onceBy_14 : decode cX10_onceBy 14 = .ok (.iconst 1, 1) := by decide +kernel
theorem dX10_onceBy_15 : decode cX10_onceBy 15 = .ok (.iadd, 1) := by decide +kernel
theorem dX10_onceBy_16 : decode cX10_onceBy 16 = .ok (.imul, 1) := by decide +kernel
theorem dX10_onceBy_17 : decode cX10_onceBy 17 = .ok (.iload_n 3, 1) := by decide +kernel
theorem dX10_onceBy_18 : decode cX10_onceBy 18 = .ok (.iadd, 1) := by decide +kernel
theorem dX10_onceBy_19 : decode cX10_onceBy 19 = .ok (.iaload, 1) := by decide +kernel
theorem dX10_onceBy_20 : decode cX10_onceBy 20 = .ok (.ireturn, 1) := by decide +kernel
theorem dX10_onceBy_21 : decode cX10_onceBy 21 = .ok (.aload_n 0, 1) := by decide +kernel
theorem dX10_onceBy_22 : decode cX10_onceBy 22 = .ok (.getfield 105, 3) := by decide +kernel
theorem dX10_onceBy_25 : decode cX10_onceBy 25 = .ok (.bipush 84, 2) := by decide +kernel
theorem dX10_onceBy_27 : decode cX10_onceBy 27 = .ok (.iload_n 1, 1) := by decide +kernel
theorem dX10_onceBy_28 : decode cX10_onceBy 28 = .ok (.imul, 1) := by decide +kernel
theorem dX10_onceBy_29 : decode cX10_onceBy 29 = .ok (.iload_n 2, 1) := by decide +kernel
theorem dX10_onceBy_30 : decode cX10_onceBy 30 = .ok (.iadd, 1) := by decide +kernel
theorem dX10_onceBy_31 : decode cX10_onceBy 31 = .ok (.iaload, 1) := by decide +kernel
theorem dX10_onceBy_32 : decode cX10_onceBy 32 = .ok (.istore 4, 2) := by decide +kernel
theorem dX10_onceBy_34 : decode cX10_onceBy 34 = .ok (.iload 4, 2) := by decide +kernel
theorem dX10_onceBy_36 : decode cX10_onceBy 36 = .ok (.iload_n 3, 1) := by decide +kernel
theorem dX10_onceBy_37 : decode cX10_onceBy 37 = .ok (.iand, 1) := by decide +kernel
theorem dX10_onceBy_38 : decode cX10_onceBy 38 = .ok (.ifCond .eq 9, 3) := by decide +kernel
theorem dX10_onceBy_41 : decode cX10_onceBy 41 = .ok (.ldc_w 363, 3) := by decide +kernel
theorem dX10_onceBy_44 : decode cX10_onceBy 44 = .ok (.goto 22, 3) := by decide +kernel
theorem dX10_onceBy_47 : decode cX10_onceBy 47 = .ok (.aload_n 0, 1) := by decide +kernel
theorem dX10_onceBy_48 : decode cX10_onceBy 48 = .ok (.getfield 108, 3) := by decide +kernel
theorem dX10_onceBy_51 : decode cX10_onceBy 51 = .ok (.sipush 1024, 3) := by decide +kernel
theorem dX10_onceBy_54 : decode cX10_onceBy 54 = .ok (.iload_n 1, 1) := by decide +kernel
theorem dX10_onceBy_55 : decode cX10_onceBy 55 = .ok (.iconst 1, 1) := by decide +kernel
theorem dX10_onceBy_56 : decode cX10_onceBy 56 = .ok (.iadd, 1) := by decide +kernel
theorem dX10_onceBy_57 : decode cX10_onceBy 57 = .ok (.imul, 1) := by decide +kernel
theorem dX10_onceBy_58 : decode cX10_onceBy 58 = .ok (.iload_n 3, 1) := by decide +kernel
theorem dX10_onceBy_59 : decode cX10_onceBy 59 = .ok (.iload 4, 2) := by decide +kernel
theorem dX10_onceBy_61 : decode cX10_onceBy 61 = .ok (.ior, 1) := by decide +kernel
theorem dX10_onceBy_62 : decode cX10_onceBy 62 = .ok (.iadd, 1) := by decide +kernel
theorem dX10_onceBy_63 : decode cX10_onceBy 63 = .ok (.iaload, 1) := by decide +kernel
theorem dX10_onceBy_64 : decode cX10_onceBy 64 = .ok (.iconst 1, 1) := by decide +kernel
theorem dX10_onceBy_65 : decode cX10_onceBy 65 = .ok (.iadd, 1) := by decide +kernel
theorem dX10_onceBy_66 : decode cX10_onceBy 66 = .ok (.ireturn, 1) := by decide +kernel
theorem dX10_laysOnce_0 : decode cX10_laysOnce 0 = .ok (.iconst 0, 1) := by decide +kernel
theorem dX10_laysOnce_1 : decode cX10_laysOnce 1 = .ok (.istore_n 2, 1) := by decide +kernel
theorem dX10_laysOnce_2 : decode cX10_laysOnce 2 = .ok (.iload_n 2, 1) := by decide +kernel
theorem dX10_laysOnce_3 : decode cX10_laysOnce 3 = .ok (.bipush 10, 2) := by decide +kernel
theorem dX10_laysOnce_5 : decode cX10_laysOnce 5 = .ok (.if_icmp .ge 57, 3) := by decide +kernel
theorem dX10_laysOnce_8 : decode cX10_laysOnce 8 = .ok (.iconst 0, 1) := by decide +kernel
theorem dX10_laysOnce_9 : decode cX10_laysOnce 9 = .ok (.istore_n 3, 1) := by decide +kernel
theorem dX10_laysOnce_10 : decode cX10_laysOnce 10 = .ok (.iload_n 3, 1) := by decide +kernel
theorem dX10_laysOnce_11 : decode cX10_laysOnce 11 = .ok (.bipush 84, 2) := by decide +kernel
theorem dX10_laysOnce_13 : decode cX10_laysOnce 13 = .ok (.if_icmp .ge 43, 3) := by decide +kernel
theorem dX10_laysOnce_16 : decode cX10_laysOnce 16 = .ok (.aload_n 0, 1) := by decide +kernel
theorem dX10_laysOnce_17 : decode cX10_laysOnce 17 = .ok (.iload_n 2, 1) := by decide +kernel
theorem dX10_laysOnce_18 : decode cX10_laysOnce 18 = .ok (.invokevirtual 236, 3) := by decide +kernel
theorem dX10_laysOnce_21 : decode cX10_laysOnce 21 = .ok (.ifCond .eq 35, 3) := by decide +kernel
theorem dX10_laysOnce_24 : decode cX10_laysOnce 24 = .ok (.aload_n 0, 1) := by decide +kernel
theorem dX10_laysOnce_25 : decode cX10_laysOnce 25 = .ok (.getfield 105, 3) := by decide +kernel
theorem dX10_laysOnce_28 : decode cX10_laysOnce 28 = .ok (.bipush 84, 2) := by decide +kernel
theorem dX10_laysOnce_30 : decode cX10_laysOnce 30 = .ok (.iload_n 2, 1) := by decide +kernel
theorem dX10_laysOnce_31 : decode cX10_laysOnce 31 = .ok (.imul, 1) := by decide +kernel
theorem dX10_laysOnce_32 : decode cX10_laysOnce 32 = .ok (.iload_n 3, 1) := by decide +kernel
theorem dX10_laysOnce_33 : decode cX10_laysOnce 33 = .ok (.iadd, 1) := by decide +kernel
theorem dX10_laysOnce_34 : decode cX10_laysOnce 34 = .ok (.aload_n 0, 1) := by decide +kernel
theorem dX10_laysOnce_35 : decode cX10_laysOnce 35 = .ok (.iload_n 2, 1) := by decide +kernel
theorem dX10_laysOnce_36 : decode cX10_laysOnce 36 = .ok (.iload_n 3, 1) := by decide +kernel
theorem dX10_laysOnce_37 : decode cX10_laysOnce 37 = .ok (.bipush 12, 2) := by decide +kernel
theorem dX10_laysOnce_39 : decode cX10_laysOnce 39 = .ok (.idiv, 1) := by decide +kernel
theorem dX10_laysOnce_40 : decode cX10_laysOnce 40 = .ok (.iload_n 3, 1) := by decide +kernel
theorem dX10_laysOnce_41 : decode cX10_laysOnce 41 = .ok (.bipush 12, 2) := by decide +kernel
theorem dX10_laysOnce_43 : decode cX10_laysOnce 43 = .ok (.irem, 1) := by decide +kernel
theorem dX10_laysOnce_44 : decode cX10_laysOnce 44 = .ok (.invokevirtual 364, 3) := by decide +kernel
theorem dX10_laysOnce_47 : decode cX10_laysOnce 47 = .ok (.iload_n 1, 1) := by decide +kernel
theorem dX10_laysOnce_48 : decode cX10_laysOnce 48 = .ok (.iand, 1) := by decide +kernel
theorem dX10_laysOnce_49 : decode cX10_laysOnce 49 = .ok (.iastore, 1) := by decide +kernel
theorem dX10_laysOnce_50 : decode cX10_laysOnce 50 = .ok (.iinc 3 1, 3) := by decide +kernel
theorem dX10_laysOnce_53 : decode cX10_laysOnce 53 = .ok (.goto (-43), 3) := by decide +kernel
theorem dX10_laysOnce_56 : decode cX10_laysOnce 56 = .ok (.iinc 2 1, 3) := by decide +kernel
theorem dX10_laysOnce_59 : decode cX10_laysOnce 59 = .ok (.goto (-57), 3) := by decide +kernel
theorem dX10_laysOnce_62 : decode cX10_laysOnce 62 = .ok (.iconst 0, 1) := by decide +kernel
theorem dX10_laysOnce_63 : decode cX10_laysOnce 63 = .ok (.istore_n 2, 1) := by decide +kernel
theorem dX10_laysOnce_64 : decode cX10_laysOnce 64 = .ok (.iload_n 2, 1) := by decide +kernel
theorem dX10_laysOnce_65 : decode cX10_laysOnce 65 = .ok (.sipush 1024, 3) := by decide +kernel
theorem dX10_laysOnce_68 : decode cX10_laysOnce 68 = .ok (.if_icmp .ge 31, 3) := by decide +kernel
theorem dX10_laysOnce_71 : decode cX10_laysOnce 71 = .ok (.aload_n 0, 1) := by decide +kernel
theorem dX10_laysOnce_72 : decode cX10_laysOnce 72 = .ok (.getfield 108, 3) := by decide +kernel
theorem dX10_laysOnce_75 : decode cX10_laysOnce 75 = .ok (.sipush 10240, 3) := by decide +kernel
theorem dX10_laysOnce_78 : decode cX10_laysOnce 78 = .ok (.iload_n 2, 1) := by decide +kernel
theorem dX10_laysOnce_79 : decode cX10_laysOnce 79 = .ok (.iadd, 1) := by decide +kernel
theorem dX10_laysOnce_80 : decode cX10_laysOnce 80 = .ok (.iload_n 2, 1) := by decide +kernel
theorem dX10_laysOnce_81 : decode cX10_laysOnce 81 = .ok (.iload_n 1, 1) := by decide +kernel
theorem dX10_laysOnce_82 : decode cX10_laysOnce 82 = .ok (.if_icmp .ne 7, 3) := by decide +kernel
theorem dX10_laysOnce_85 : decode cX10_laysOnce 85 = .ok (.iconst 0, 1) := by decide +kernel
theorem dX10_laysOnce_86 : decode cX10_laysOnce 86 = .ok (.goto 6, 3) := by decide +kernel
theorem dX10_laysOnce_89 : decode cX10_laysOnce 89 = .ok (.ldc_w 363, 3) := by decide +kernel
theorem dX10_laysOnce_92 : decode cX10_laysOnce 92 = .ok (.iastore, 1) := by decide +kernel
theorem dX10_laysOnce_93 : decode cX10_laysOnce 93 = .ok (.iinc 2 1, 3) := by decide +kernel
theorem dX10_laysOnce_96 : decode cX10_laysOnce 96 = .ok (.goto (-32), 3) := by decide +kernel
theorem dX10_laysOnce_99 : decode cX10_laysOnce 99 = .ok (.bipush 9, 2) := by decide +kernel
theorem dX10_laysOnce_101 : decode cX10_laysOnce 101 = .ok (.istore_n 2, 1) := by decide +kernel
theorem dX10_laysOnce_102 : decode cX10_laysOnce 102 = .ok (.iload_n 2, 1) := by decide +kernel
theorem dX10_laysOnce_103 : decode cX10_laysOnce 103 = .ok (.ifCond .lt 95, 3) := by decide +kernel
theorem dX10_laysOnce_106 : decode cX10_laysOnce 106 = .ok (.iconst 0, 1) := by decide +kernel
theorem dX10_laysOnce_107 : decode cX10_laysOnce 107 = .ok (.istore_n 3, 1) := by decide +kernel
theorem dX10_laysOnce_108 : decode cX10_laysOnce 108 = .ok (.iload_n 3, 1) := by decide +kernel
theorem dX10_laysOnce_109 : decode cX10_laysOnce 109 = .ok (.sipush 1024, 3) := by decide +kernel
theorem dX10_laysOnce_112 : decode cX10_laysOnce 112 = .ok (.if_icmp .ge 80, 3) := by decide +kernel
theorem dX10_laysOnce_115 : decode cX10_laysOnce 115 = .ok (.aload_n 0, 1) := by decide +kernel
theorem dX10_laysOnce_116 : decode cX10_laysOnce 116 = .ok (.iload_n 2, 1) := by decide +kernel
theorem dX10_laysOnce_117 : decode cX10_laysOnce 117 = .ok (.bipush 84, 2) := by decide +kernel
theorem dX10_laysOnce_119 : decode cX10_laysOnce 119 = .ok (.iload_n 3, 1) := by decide +kernel
theorem dX10_laysOnce_120 : decode cX10_laysOnce 120 = .ok (.invokevirtual 367, 3) := by decide +kernel
theorem dX10_laysOnce_123 : decode cX10_laysOnce 123 = .ok (.istore 4, 2) := by decide +kernel
theorem dX10_laysOnce_125 : decode cX10_laysOnce 125 = .ok (.iconst 0, 1) := by decide +kernel
theorem dX10_laysOnce_126 : decode cX10_laysOnce 126 = .ok (.istore 5, 2) := by decide +kernel
theorem dX10_laysOnce_128 : decode cX10_laysOnce 128 = .ok (.iload 5, 2) := by decide +kernel
theorem dX10_laysOnce_130 : decode cX10_laysOnce 130 = .ok (.bipush 84, 2) := by decide +kernel
theorem dX10_laysOnce_132 : decode cX10_laysOnce 132 = .ok (.if_icmp .ge 40, 3) := by decide +kernel
theorem dX10_laysOnce_135 : decode cX10_laysOnce 135 = .ok (.aload_n 0, 1) := by decide +kernel
theorem dX10_laysOnce_136 : decode cX10_laysOnce 136 = .ok (.iload_n 2, 1) := by decide +kernel
theorem dX10_laysOnce_137 : decode cX10_laysOnce 137 = .ok (.invokevirtual 236, 3) := by decide +kernel
theorem dX10_laysOnce_140 : decode cX10_laysOnce 140 = .ok (.ifCond .eq 32, 3) := by decide +kernel
theorem dX10_laysOnce_143 : decode cX10_laysOnce 143 = .ok (.iload_n 3, 1) := by decide +kernel
theorem dX10_laysOnce_144 : decode cX10_laysOnce 144 = .ok (.iload_n 1, 1) := by decide +kernel
theorem dX10_laysOnce_145 : decode cX10_laysOnce 145 = .ok (.iconst (-1), 1) := by decide +kernel
theorem dX10_laysOnce_146 : decode cX10_laysOnce 146 = .ok (.ixor, 1) := by decide +kernel
theorem dX10_laysOnce_147 : decode cX10_laysOnce 147 = .ok (.iand, 1) := by decide +kernel
theorem dX10_laysOnce_148 : decode cX10_laysOnce 148 = .ok (.ifCond .ne 24, 3) := by decide +kernel
theorem dX10_laysOnce_151 : decode cX10_laysOnce 151 = .ok (.iload 4, 2) := by decide +kernel
theorem dX10_laysOnce_153 : decode cX10_laysOnce 153 = .ok (.aload_n 0, 1) := by decide +kernel
theorem dX10_laysOnce_154 : decode cX10_laysOnce 154 = .ok (.iload_n 2, 1) := by decide +kernel
theorem dX10_laysOnce_155 : decode cX10_laysOnce 155 = .ok (.iload 5, 2) := by decide +kernel
theorem dX10_laysOnce_157 : decode cX10_laysOnce 157 = .ok (.iload_n 3, 1) := by decide +kernel
theorem dX10_laysOnce_158 : decode cX10_laysOnce 158 = .ok (.invokevirtual 367, 3) := by decide +kernel
theorem dX10_laysOnce_161 : decode cX10_laysOnce 161 = .ok (.invokestatic 370, 3) := by decide +kernel
theorem dX10_laysOnce_164 : decode cX10_laysOnce 164 = .ok (.istore 4, 2) := by decide +kernel
theorem dX10_laysOnce_166 : decode cX10_laysOnce 166 = .ok (.iinc 5 1, 3) := by decide +kernel
theorem dX10_laysOnce_169 : decode cX10_laysOnce 169 = .ok (.goto (-41), 3) := by decide +kernel
theorem dX10_laysOnce_172 : decode cX10_laysOnce 172 = .ok (.aload_n 0, 1) := by decide +kernel
theorem dX10_laysOnce_173 : decode cX10_laysOnce 173 = .ok (.getfield 108, 3) := by decide +kernel
theorem dX10_laysOnce_176 : decode cX10_laysOnce 176 = .ok (.sipush 1024, 3) := by decide +kernel
theorem dX10_laysOnce_179 : decode cX10_laysOnce 179 = .ok (.iload_n 2, 1) := by decide +kernel
theorem dX10_laysOnce_180 : decode cX10_laysOnce 180 = .ok (.imul, 1) := by decide +kernel
theorem dX10_laysOnce_181 : decode cX10_laysOnce 181 = .ok (.iload_n 3, 1) := by decide +kernel
theorem dX10_laysOnce_182 : decode cX10_laysOnce 182 = .ok (.iadd, 1) := by decide +kernel
theorem dX10_laysOnce_183 : decode cX10_laysOnce 183 = .ok (.iload 4, 2) := by decide +kernel
theorem dX10_laysOnce_185 : decode cX10_laysOnce 185 = .ok (.iastore, 1) := by decide +kernel
theorem dX10_laysOnce_186 : decode cX10_laysOnce 186 = .ok (.iinc 3 1, 3) := by decide +kernel
theorem dX10_laysOnce_189 : decode cX10_laysOnce 189 = .ok (.goto (-81), 3) := by decide +kernel
theorem dX10_laysOnce_192 : decode cX10_laysOnce 192 = .ok (.iinc 2 (-1), 3) := by decide +kernel
theorem dX10_laysOnce_195 : decode cX10_laysOnce 195 = .ok (.goto (-93), 3) := by decide +kernel
theorem dX10_laysOnce_198 : decode cX10_laysOnce 198 = .ok (.return_, 1) := by decide +kernel
theorem dX10_once_0 : decode cX10_once 0 = .ok (.iload_n 1, 1) := by decide +kernel
theorem dX10_once_1 : decode cX10_once 1 = .ok (.iconst 1, 1) := by decide +kernel
theorem dX10_once_2 : decode cX10_once 2 = .ok (.if_icmp .lt 27, 3) := by decide +kernel
theorem dX10_once_5 : decode cX10_once 5 = .ok (.iload_n 1, 1) := by decide +kernel
theorem dX10_once_6 : decode cX10_once 6 = .ok (.aload_n 0, 1) := by decide +kernel
theorem dX10_once_7 : decode cX10_once 7 = .ok (.getfield 161, 3) := by decide +kernel
theorem dX10_once_10 : decode cX10_once 10 = .ok (.iconst (-1), 1) := by decide +kernel
theorem dX10_once_11 : decode cX10_once 11 = .ok (.ixor, 1) := by decide +kernel
theorem dX10_once_12 : decode cX10_once 12 = .ok (.iand, 1) := by decide +kernel
theorem dX10_once_13 : decode cX10_once 13 = .ok (.ifCond .ne 16, 3) := by decide +kernel
theorem dX10_once_16 : decode cX10_once 16 = .ok (.iload_n 2, 1) := by decide +kernel
theorem dX10_once_17 : decode cX10_once 17 = .ok (.iconst (-1), 1) := by decide +kernel
theorem dX10_once_18 : decode cX10_once 18 = .ok (.if_icmp .eq 14, 3) := by decide +kernel
theorem dX10_once_21 : decode cX10_once 21 = .ok (.aload_n 0, 1) := by decide +kernel
theorem dX10_once_22 : decode cX10_once 22 = .ok (.iload_n 2, 1) := by decide +kernel
theorem dX10_once_23 : decode cX10_once 23 = .ok (.invokevirtual 236, 3) := by decide +kernel
theorem dX10_once_26 : decode cX10_once 26 = .ok (.ifCond .ne 6, 3) := by decide +kernel
theorem dX10_once_29 : decode cX10_once 29 = .ok (.bipush (-3), 2) := by decide +kernel
theorem dX10_once_31 : decode cX10_once 31 = .ok (.ireturn, 1) := by decide +kernel
theorem dX10_once_32 : decode cX10_once 32 = .ok (.aload_n 0, 1) := by decide +kernel
theorem dX10_once_33 : decode cX10_once 33 = .ok (.iload_n 1, 1) := by decide +kernel
theorem dX10_once_34 : decode cX10_once 34 = .ok (.invokevirtual 373, 3) := by decide +kernel
theorem dX10_once_37 : decode cX10_once 37 = .ok (.aload_n 0, 1) := by decide +kernel
theorem dX10_once_38 : decode cX10_once 38 = .ok (.getfield 108, 3) := by decide +kernel
theorem dX10_once_41 : decode cX10_once 41 = .ok (.iconst 0, 1) := by decide +kernel
theorem dX10_once_42 : decode cX10_once 42 = .ok (.iaload, 1) := by decide +kernel
theorem dX10_once_43 : decode cX10_once 43 = .ok (.ldc_w 363, 3) := by decide +kernel
theorem dX10_once_46 : decode cX10_once 46 = .ok (.if_icmp .lt 6, 3) := by decide +kernel
theorem dX10_once_49 : decode cX10_once 49 = .ok (.bipush (-2), 2) := by decide +kernel
theorem dX10_once_51 : decode cX10_once 51 = .ok (.ireturn, 1) := by decide +kernel
theorem dX10_once_52 : decode cX10_once 52 = .ok (.iload_n 2, 1) := by decide +kernel
theorem dX10_once_53 : decode cX10_once 53 = .ok (.iconst (-1), 1) := by decide +kernel
theorem dX10_once_54 : decode cX10_once 54 = .ok (.if_icmp .ne 10, 3) := by decide +kernel
theorem dX10_once_57 : decode cX10_once 57 = .ok (.aload_n 0, 1) := by decide +kernel
theorem dX10_once_58 : decode cX10_once 58 = .ok (.getfield 108, 3) := by decide +kernel
theorem dX10_once_61 : decode cX10_once 61 = .ok (.iconst 0, 1) := by decide +kernel
theorem dX10_once_62 : decode cX10_once 62 = .ok (.iaload, 1) := by decide +kernel
theorem dX10_once_63 : decode cX10_once 63 = .ok (.ireturn, 1) := by decide +kernel
theorem dX10_once_64 : decode cX10_once 64 = .ok (.iconst 0, 1) := by decide +kernel
theorem dX10_once_65 : decode cX10_once 65 = .ok (.istore_n 3, 1) := by decide +kernel
theorem dX10_once_66 : decode cX10_once 66 = .ok (.iconst 0, 1) := by decide +kernel
theorem dX10_once_67 : decode cX10_once 67 = .ok (.istore 4, 2) := by decide +kernel
theorem dX10_once_69 : decode cX10_once 69 = .ok (.iload 4, 2) := by decide +kernel
theorem dX10_once_71 : decode cX10_once 71 = .ok (.iload_n 2, 1) := by decide +kernel
theorem dX10_once_72 : decode cX10_once 72 = .ok (.if_icmp .ge 45, 3) := by decide +kernel
theorem dX10_once_75 : decode cX10_once 75 = .ok (.aload_n 0, 1) := by decide +kernel
theorem dX10_once_76 : decode cX10_once 76 = .ok (.iload 4, 2) := by decide +kernel
theorem dX10_once_78 : decode cX10_once 78 = .ok (.iload_n 3, 1) := by decide +kernel
theorem dX10_once_79 : decode cX10_once 79 = .ok (.invokevirtual 376, 3) := by decide +kernel
theorem dX10_once_82 : decode cX10_once 82 = .ok (.istore 5, 2) := by decide +kernel
theorem dX10_once_84 : decode cX10_once 84 = .ok (.iload 5, 2) := by decide +kernel
theorem dX10_once_86 : decode cX10_once 86 = .ok (.bipush 84, 2) := by decide +kernel
theorem dX10_once_88 : decode cX10_once 88 = .ok (.if_icmp .ne 7, 3) := by decide +kernel
theorem dX10_once_91 : decode cX10_once 91 = .ok (.iload_n 3, 1) := by decide +kernel
theorem dX10_once_92 : decode cX10_once 92 = .ok (.goto 18, 3) := by decide +kernel
theorem dX10_once_95 : decode cX10_once 95 = .ok (.iload_n 3, 1) := by decide +kernel
theorem dX10_once_96 : decode cX10_once 96 = .ok (.aload_n 0, 1) := by decide +kernel
theorem dX10_once_97 : decode cX10_once 97 = .ok (.getfield 105, 3) := by decide +kernel
theorem dX10_once_100 : decode cX10_once 100 = .ok (.bipush 84, 2) := by decide +kernel
theorem dX10_once_102 : decode cX10_once 102 = .ok (.iload 4, 2) := by decide +kernel
theorem dX10_once_104 : decode cX10_once 104 = .ok (.imul, 1) := by decide +kernel
theorem dX10_once_105 : decode cX10_once 105 = .ok (.iload 5, 2) := by decide +kernel
theorem dX10_once_107 : decode cX10_once 107 = .ok (.iadd, 1) := by decide +kernel
theorem dX10_once_108 : decode cX10_once 108 = .ok (.iaload, 1) := by decide +kernel
theorem dX10_once_109 : decode cX10_once 109 = .ok (.ior, 1) := by decide +kernel
theorem dX10_once_110 : decode cX10_once 110 = .ok (.istore_n 3, 1) := by decide +kernel
theorem dX10_once_111 : decode cX10_once 111 = .ok (.iinc 4 1, 3) := by decide +kernel
theorem dX10_once_114 : decode cX10_once 114 = .ok (.goto (-45), 3) := by decide +kernel
theorem dX10_once_117 : decode cX10_once 117 = .ok (.aload_n 0, 1) := by decide +kernel
theorem dX10_once_118 : decode cX10_once 118 = .ok (.iload_n 2, 1) := by decide +kernel
theorem dX10_once_119 : decode cX10_once 119 = .ok (.iload_n 3, 1) := by decide +kernel
theorem dX10_once_120 : decode cX10_once 120 = .ok (.invokevirtual 376, 3) := by decide +kernel
theorem dX10_once_123 : decode cX10_once 123 = .ok (.ireturn, 1) := by decide +kernel
theorem dX10_leastCode_0 : decode cX10_leastCode 0 = .ok (.aload_n 0, 1) := by decide +kernel
theorem dX10_leastCode_1 : decode cX10_leastCode 1 = .ok (.iload_n 1, 1) := by decide +kernel
theorem dX10_leastCode_2 : decode cX10_leastCode 2 = .ok (.invokevirtual 236, 3) := by decide +kernel
theorem dX10_leastCode_5 : decode cX10_leastCode 5 = .ok (.ifCond .eq 7, 3) := by decide +kernel
theorem dX10_leastCode_8 : decode cX10_leastCode 8 = .ok (.iconst 0, 1) := by decide +kernel
theorem dX10_leastCode_9 : decode cX10_leastCode 9 = .ok (.goto 5, 3) := by decide +kernel
theorem dX10_leastCode_12 : decode cX10_leastCode 12 = .ok (.bipush 84, 2) := by decide +kernel
theorem dX10_leastCode_14 : decode cX10_leastCode 14 = .ok (.istore_n 3, 1) := by decide +kernel
theorem dX10_leastCode_15 : decode cX10_leastCode 15 = .ok (.aload_n 0, 1) := by decide +kernel
theorem dX10_leastCode_16 : decode cX10_leastCode 16 = .ok (.iload_n 1, 1) := by decide +kernel
theorem dX10_leastCode_17 : decode cX10_leastCode 17 = .ok (.iload_n 3, 1) := by decide +kernel
theorem dX10_leastCode_18 : decode cX10_leastCode 18 = .ok (.iload_n 2, 1) := by decide +kernel
theorem dX10_leastCode_19 : decode cX10_leastCode 19 = .ok (.invokevirtual 367, 3) := by decide +kernel
theorem dX10_leastCode_22 : decode cX10_leastCode 22 = .ok (.aload_n 0, 1) := by decide +kernel
theorem dX10_leastCode_23 : decode cX10_leastCode 23 = .ok (.getfield 108, 3) := by decide +kernel
theorem dX10_leastCode_26 : decode cX10_leastCode 26 = .ok (.sipush 1024, 3) := by decide +kernel
theorem dX10_leastCode_29 : decode cX10_leastCode 29 = .ok (.iload_n 1, 1) := by decide +kernel
theorem dX10_leastCode_30 : decode cX10_leastCode 30 = .ok (.imul, 1) := by decide +kernel
theorem dX10_leastCode_31 : decode cX10_leastCode 31 = .ok (.iload_n 2, 1) := by decide +kernel
theorem dX10_leastCode_32 : decode cX10_leastCode 32 = .ok (.iadd, 1) := by decide +kernel
theorem dX10_leastCode_33 : decode cX10_leastCode 33 = .ok (.iaload, 1) := by decide +kernel
theorem dX10_leastCode_34 : decode cX10_leastCode 34 = .ok (.if_icmp .eq 10, 3) := by decide +kernel
theorem dX10_leastCode_37 : decode cX10_leastCode 37 = .ok (.iload_n 3, 1) := by decide +kernel
theorem dX10_leastCode_38 : decode cX10_leastCode 38 = .ok (.iconst 1, 1) := by decide +kernel
theorem dX10_leastCode_39 : decode cX10_leastCode 39 = .ok (.iadd, 1) := by decide +kernel
theorem dX10_leastCode_40 : decode cX10_leastCode 40 = .ok (.istore_n 3, 1) := by decide +kernel
theorem dX10_leastCode_41 : decode cX10_leastCode 41 = .ok (.goto (-26), 3) := by decide +kernel
theorem dX10_leastCode_44 : decode cX10_leastCode 44 = .ok (.iload_n 3, 1) := by decide +kernel
theorem dX10_leastCode_45 : decode cX10_leastCode 45 = .ok (.ireturn, 1) := by decide +kernel
theorem dX10_bestWalk_0 : decode cX10_bestWalk 0 = .ok (.aload_n 0, 1) := by decide +kernel
theorem dX10_bestWalk_1 : decode cX10_bestWalk 1 = .ok (.iload_n 1, 1) := by decide +kernel
theorem dX10_bestWalk_2 : decode cX10_bestWalk 2 = .ok (.invokevirtual 236, 3) := by decide +kernel
theorem dX10_bestWalk_5 : decode cX10_bestWalk 5 = .ok (.ifCond .eq 12, 3) := by decide +kernel
theorem dX10_bestWalk_8 : decode cX10_bestWalk 8 = .ok (.iload_n 2, 1) := by decide +kernel
theorem dX10_bestWalk_9 : decode cX10_bestWalk 9 = .ok (.iconst 0, 1) := by decide +kernel
theorem dX10_bestWalk_10 : decode cX10_bestWalk 10 = .ok (.iconst 2, 1) := by decide +kernel
theorem dX10_bestWalk_11 : decode cX10_bestWalk 11 = .ok (.invokestatic 175, 3) := by decide +kernel
theorem dX10_bestWalk_14 : decode cX10_bestWalk 14 = .ok (.ifCond .ne 5, 3) := by decide +kernel
theorem dX10_bestWalk_17 : decode cX10_bestWalk 17 = .ok (.iconst (-1), 1) := by decide +kernel
theorem dX10_bestWalk_18 : decode cX10_bestWalk 18 = .ok (.ireturn, 1) := by decide +kernel
theorem dX10_bestWalk_19 : decode cX10_bestWalk 19 = .ok (.iconst 0, 1) := by decide +kernel
theorem dX10_bestWalk_20 : decode cX10_bestWalk 20 = .ok (.istore_n 3, 1) := by decide +kernel
theorem dX10_bestWalk_21 : decode cX10_bestWalk 21 = .ok (.iload_n 3, 1) := by decide +kernel
theorem dX10_bestWalk_22 : decode cX10_bestWalk 22 = .ok (.aload_n 0, 1) := by decide +kernel
theorem dX10_bestWalk_23 : decode cX10_bestWalk 23 = .ok (.getfield 233, 3) := by decide +kernel
theorem dX10_bestWalk_26 : decode cX10_bestWalk 26 = .ok (.if_icmp .ge 21, 3) := by decide +kernel
theorem dX10_bestWalk_29 : decode cX10_bestWalk 29 = .ok (.aload_n 0, 1) := by decide +kernel
theorem dX10_bestWalk_30 : decode cX10_bestWalk 30 = .ok (.getfield 38, 3) := by decide +kernel
theorem dX10_bestWalk_33 : decode cX10_bestWalk 33 = .ok (.iload_n 3, 1) := by decide +kernel
theorem dX10_bestWalk_34 : decode cX10_bestWalk 34 = .ok (.iaload, 1) := by decide +kernel
theorem dX10_bestWalk_35 : decode cX10_bestWalk 35 = .ok (.iload_n 1, 1) := by decide +kernel
theorem dX10_bestWalk_36 : decode cX10_bestWalk 36 = .ok (.if_icmp .ne 5, 3) := by decide +kernel
theorem dX10_bestWalk_39 : decode cX10_bestWalk 39 = .ok (.iconst (-1), 1) := by decide +kernel
theorem dX10_bestWalk_40 : decode cX10_bestWalk 40 = .ok (.ireturn, 1) := by decide +kernel
theorem dX10_bestWalk_41 : decode cX10_bestWalk 41 = .ok (.iinc 3 1, 3) := by decide +kernel
theorem dX10_bestWalk_44 : decode cX10_bestWalk 44 = .ok (.goto (-23), 3) := by decide +kernel
theorem dX10_bestWalk_47 : decode cX10_bestWalk 47 = .ok (.iconst 0, 1) := by decide +kernel
theorem dX10_bestWalk_48 : decode cX10_bestWalk 48 = .ok (.istore_n 3, 1) := by decide +kernel
theorem dX10_bestWalk_49 : decode cX10_bestWalk 49 = .ok (.iconst (-1), 1) := by decide +kernel
theorem dX10_bestWalk_50 : decode cX10_bestWalk 50 = .ok (.istore 4, 2) := by decide +kernel
theorem dX10_bestWalk_52 : decode cX10_bestWalk 52 = .ok (.iconst 0, 1) := by decide +kernel
theorem dX10_bestWalk_53 : decode cX10_bestWalk 53 = .ok (.istore 5, 2) := by decide +kernel
theorem dX10_bestWalk_55 : decode cX10_bestWalk 55 = .ok (.iload 5, 2) := by decide +kernel
theorem dX10_bestWalk_57 : decode cX10_bestWalk 57 = .ok (.bipush 84, 2) := by decide +kernel
theorem dX10_bestWalk_59 : decode cX10_bestWalk 59 = .ok (.if_icmp .ge 44, 3) := by decide +kernel
theorem dX10_bestWalk_62 : decode cX10_bestWalk 62 = .ok (.aload_n 0, 1) := by decide +kernel
theorem dX10_bestWalk_63 : decode cX10_bestWalk 63 = .ok (.iload_n 1, 1) := by decide +kernel
theorem dX10_bestWalk_64 : decode cX10_bestWalk 64 = .ok (.iload 5, 2) := by decide +kernel
theorem dX10_bestWalk_66 : decode cX10_bestWalk 66 = .ok (.bipush 12, 2) := by decide +kernel
theorem dX10_bestWalk_68 : decode cX10_bestWalk 68 = .ok (.idiv, 1) := by decide +kernel
theorem dX10_bestWalk_69 : decode cX10_bestWalk 69 = .ok (.iload 5, 2) := by decide +kernel
theorem dX10_bestWalk_71 : decode cX10_bestWalk 71 = .ok (.bipush 12, 2) := by decide +kernel
theorem dX10_bestWalk_73 : decode cX10_bestWalk 73 = .ok (.irem, 1) := by decide +kernel
theorem dX10_bestWalk_74 : decode cX10_bestWalk 74 = .ok (.iconst 0, 1) := by decide +kernel
theorem dX10_bestWalk_75 : decode cX10_bestWalk 75 = .ok (.invokevirtual 379, 3) := by decide +kernel
theorem dX10_bestWalk_78 : decode cX10_bestWalk 78 = .ok (.istore 6, 2) := by decide +kernel
theorem dX10_bestWalk_80 : decode cX10_bestWalk 80 = .ok (.iload 6, 2) := by decide +kernel
theorem dX10_bestWalk_82 : decode cX10_bestWalk 82 = .ok (.iload 4, 2) := by decide +kernel
theorem dX10_bestWalk_84 : decode cX10_bestWalk 84 = .ok (.if_icmp .gt 6, 3) := by decide +kernel
theorem dX10_bestWalk_87 : decode cX10_bestWalk 87 = .ok (.goto 10, 3) := by decide +kernel
theorem dX10_bestWalk_90 : decode cX10_bestWalk 90 = .ok (.iload 6, 2) := by decide +kernel
theorem dX10_bestWalk_92 : decode cX10_bestWalk 92 = .ok (.istore 4, 2) := by decide +kernel
theorem dX10_bestWalk_94 : decode cX10_bestWalk 94 = .ok (.iload 5, 2) := by decide +kernel
theorem dX10_bestWalk_96 : decode cX10_bestWalk 96 = .ok (.istore_n 3, 1) := by decide +kernel
theorem dX10_bestWalk_97 : decode cX10_bestWalk 97 = .ok (.iinc 5 1, 3) := by decide +kernel
theorem dX10_bestWalk_100 : decode cX10_bestWalk 100 = .ok (.goto (-45), 3) := by decide +kernel
theorem dX10_bestWalk_103 : decode cX10_bestWalk 103 = .ok (.iload_n 2, 1) := by decide +kernel
theorem dX10_bestWalk_104 : decode cX10_bestWalk 104 = .ok (.ifCond .ne 10, 3) := by decide +kernel
theorem dX10_bestWalk_107 : decode cX10_bestWalk 107 = .ok (.iload_n 3, 1) := by decide +kernel
theorem dX10_bestWalk_108 : decode cX10_bestWalk 108 = .ok (.bipush 12, 2) := by decide +kernel
theorem dX10_bestWalk_110 : decode cX10_bestWalk 110 = .ok (.idiv, 1) := by decide +kernel
theorem dX10_bestWalk_111 : decode cX10_bestWalk 111 = .ok (.goto 17, 3) := by decide +kernel
theorem dX10_bestWalk_114 : decode cX10_bestWalk 114 = .ok (.iload_n 2, 1) := by decide +kernel
theorem dX10_bestWalk_115 : decode cX10_bestWalk 115 = .ok (.iconst 1, 1) := by decide +kernel
theorem dX10_bestWalk_116 : decode cX10_bestWalk 116 = .ok (.if_icmp .ne 10, 3) := by decide +kernel
theorem dX10_bestWalk_119 : decode cX10_bestWalk 119 = .ok (.iload_n 3, 1) := by decide +kernel
theorem dX10_bestWalk_120 : decode cX10_bestWalk 120 = .ok (.bipush 12, 2) := by decide +kernel
theorem dX10_bestWalk_122 : decode cX10_bestWalk 122 = .ok (.irem, 1) := by decide +kernel
theorem dX10_bestWalk_123 : decode cX10_bestWalk 123 = .ok (.goto 5, 3) := by decide +kernel
theorem dX10_bestWalk_126 : decode cX10_bestWalk 126 = .ok (.iload 4, 2) := by decide +kernel
theorem dX10_bestWalk_128 : decode cX10_bestWalk 128 = .ok (.ireturn, 1) := by decide +kernel
theorem dX10_candle_0 : decode cX10_candle 0 = .ok (.iload_n 1, 1) := by decide +kernel
theorem dX10_candle_1 : decode cX10_candle 1 = .ok (.invokestatic 179, 3) := by decide +kernel
theorem dX10_candle_4 : decode cX10_candle 4 = .ok (.ifCond .eq 28, 3) := by decide +kernel
theorem dX10_candle_7 : decode cX10_candle 7 = .ok (.iload_n 2, 1) := by decide +kernel
theorem dX10_candle_8 : decode cX10_candle 8 = .ok (.iconst 1, 1) := by decide +kernel
theorem dX10_candle_9 : decode cX10_candle 9 = .ok (.if_icmp .lt 23, 3) := by decide +kernel
theorem dX10_candle_12 : decode cX10_candle 12 = .ok (.iload_n 2, 1) := by decide +kernel
theorem dX10_candle_13 : decode cX10_candle 13 = .ok (.aload_n 0, 1) := by decide +kernel
theorem dX10_candle_14 : decode cX10_candle 14 = .ok (.getfield 161, 3) := by decide +kernel
theorem dX10_candle_17 : decode cX10_candle 17 = .ok (.iconst (-1), 1) := by decide +kernel
theorem dX10_candle_18 : decode cX10_candle 18 = .ok (.ixor, 1) := by decide +kernel
theorem dX10_candle_19 : decode cX10_candle 19 = .ok (.iand, 1) := by decide +kernel
theorem dX10_candle_20 : decode cX10_candle 20 = .ok (.ifCond .ne 12, 3) := by decide +kernel
theorem dX10_candle_23 : decode cX10_candle 23 = .ok (.iload_n 3, 1) := by decide +kernel
theorem dX10_candle_24 : decode cX10_candle 24 = .ok (.iconst 0, 1) := by decide +kernel
theorem dX10_candle_25 : decode cX10_candle 25 = .ok (.iconst 3, 1) := by decide +kernel
theorem dX10_candle_26 : decode cX10_candle 26 = .ok (.invokestatic 175, 3) := by decide +kernel
theorem dX10_candle_29 : decode cX10_candle 29 = .ok (.ifCond .ne 5, 3) := by decide +kernel
theorem dX10_candle_32 : decode cX10_candle 32 = .ok (.iconst (-1), 1) := by decide +kernel
theorem dX10_candle_33 : decode cX10_candle 33 = .ok (.ireturn, 1) := by decide +kernel
theorem dX10_candle_34 : decode cX10_candle 34 = .ok (.iconst 0, 1) := by decide +kernel
theorem dX10_candle_35 : decode cX10_candle 35 = .ok (.istore 4, 2) := by decide +kernel
theorem dX10_candle_37 : decode cX10_candle 37 = .ok (.iconst (-1), 1) := by decide +kernel
theorem dX10_candle_38 : decode cX10_candle 38 = .ok (.istore 5, 2) := by decide +kernel
theorem dX10_candle_40 : decode cX10_candle 40 = .ok (.iconst 0, 1) := by decide +kernel
theorem dX10_candle_41 : decode cX10_candle 41 = .ok (.istore 6, 2) := by decide +kernel
theorem dX10_candle_43 : decode cX10_candle 43 = .ok (.iconst 0, 1) := by decide +kernel
theorem dX10_candle_44 : decode cX10_candle 44 = .ok (.istore 7, 2) := by decide +kernel
theorem dX10_candle_46 : decode cX10_candle 46 = .ok (.iload 7, 2) := by decide +kernel
theorem dX10_candle_48 : decode cX10_candle 48 = .ok (.bipush 120, 2) := by decide +kernel
theorem dX10_candle_50 : decode cX10_candle 50 = .ok (.if_icmp .ge 74, 3) := by decide +kernel
theorem dX10_candle_53 : decode cX10_candle 53 = .ok (.iload 7, 2) := by decide +kernel
theorem dX10_candle_55 : decode cX10_candle 55 = .ok (.bipush 12, 2) := by decide +kernel
theorem dX10_candle_57 : decode cX10_candle 57 = .ok (.idiv, 1) := by decide +kernel
theorem dX10_candle_58 : decode cX10_candle 58 = .ok (.istore 8, 2) := by decide +kernel
theorem dX10_candle_60 : decode cX10_candle 60 = .ok (.aload_n 0, 1) := by decide +kernel
theorem dX10_candle_61 : decode cX10_candle 61 = .ok (.iload 8, 2) := by decide +kernel
theorem dX10_candle_63 : decode cX10_candle 63 = .ok (.invokevirtual 236, 3) := by decide +kernel
theorem dX10_candle_66 : decode cX10_candle 66 = .ok (.ifCond .eq 52, 3) := by decide +kernel
theorem dX10_candle_69 : decode cX10_candle 69 = .ok (.aload_n 0, 1) := by decide +kernel
theorem dX10_candle_70 : decode cX10_candle 70 = .ok (.iload 8, 2) := by decide +kernel
theorem dX10_candle_72 : decode cX10_candle 72 = .ok (.iload_n 1, 1) := by decide +kernel
theorem dX10_candle_73 : decode cX10_candle 73 = .ok (.iload 7, 2) := by decide +kernel
theorem dX10_candle_75 : decode cX10_candle 75 = .ok (.bipush 12, 2) := by decide +kernel
theorem dX10_candle_77 : decode cX10_candle 77 = .ok (.irem, 1) := by decide +kernel
theorem dX10_candle_78 : decode cX10_candle 78 = .ok (.invokevirtual 364, 3) := by decide +kernel
theorem dX10_candle_81 : decode cX10_candle 81 = .ok (.iload_n 2, 1) := by decide +kernel
theorem dX10_candle_82 : decode cX10_candle 82 = .ok (.if_icmp .eq 6, 3) := by decide +kernel
theorem dX10_candle_85 : decode cX10_candle 85 = .ok (.goto 33, 3) := by decide +kernel
theorem dX10_candle_88 : decode cX10_candle 88 = .ok (.iload 5, 2) := by decide +kernel
theorem dX10_candle_90 : decode cX10_candle 90 = .ok (.iconst (-1), 1) := by decide +kernel
theorem dX10_candle_91 : decode cX10_candle 91 = .ok (.if_icmp .ne 8, 3) := by decide +kernel
theorem dX10_candle_94 : decode cX10_candle 94 = .ok (.iload 7, 2) := by decide +kernel
theorem dX10_candle_96 : decode cX10_candle 96 = .ok (.goto 5, 3) := by decide +kernel
theorem dX10_candle_99 : decode cX10_candle 99 = .ok (.iload 5, 2) := by decide +kernel
theorem dX10_candle_101 : decode cX10_candle 101 = .ok (.istore 5, 2) := by decide +kernel
theorem dX10_candle_103 : decode cX10_candle 103 = .ok (.iload 6, 2) := by decide +kernel
theorem dX10_candle_105 : decode cX10_candle 105 = .ok (.iconst 1, 1) := by decide +kernel
theorem dX10_candle_106 : decode cX10_candle 106 = .ok (.iload 8, 2) := by decide +kernel
theorem dX10_candle_108 : decode cX10_candle 108 = .ok (.ishl, 1) := by decide +kernel
theorem dX10_candle_109 : decode cX10_candle 109 = .ok (.ior, 1) := by decide +kernel
theorem dX10_candle_110 : decode cX10_candle 110 = .ok (.istore 6, 2) := by decide +kernel
theorem dX10_candle_112 : decode cX10_candle 112 = .ok (.iload 4, 2) := by decide +kernel
theorem dX10_candle_114 : decode cX10_candle 114 = .ok (.iconst 1, 1) := by decide +kernel
theorem dX10_candle_115 : decode cX10_candle 115 = .ok (.iadd, 1) := by decide +kernel
theorem dX10_candle_116 : decode cX10_candle 116 = .ok (.istore 4, 2) := by decide +kernel
theorem dX10_candle_118 : decode cX10_candle 118 = .ok (.iinc 7 1, 3) := by decide +kernel
theorem dX10_candle_121 : decode cX10_candle 121 = .ok (.goto (-75), 3) := by decide +kernel
theorem dX10_candle_124 : decode cX10_candle 124 = .ok (.iload_n 3, 1) := by decide +kernel
theorem dX10_candle_125 : decode cX10_candle 125 = .ok (.ifCond .eq 8, 3) := by decide +kernel
theorem dX10_candle_128 : decode cX10_candle 128 = .ok (.iload_n 3, 1) := by decide +kernel
theorem dX10_candle_129 : decode cX10_candle 129 = .ok (.iconst 3, 1) := by decide +kernel
theorem dX10_candle_130 : decode cX10_candle 130 = .ok (.if_icmp .ne 15, 3) := by decide +kernel
theorem dX10_candle_133 : decode cX10_candle 133 = .ok (.iload_n 3, 1) := by decide +kernel
theorem dX10_candle_134 : decode cX10_candle 134 = .ok (.ifCond .ne 8, 3) := by decide +kernel
theorem dX10_candle_137 : decode cX10_candle 137 = .ok (.iload 4, 2) := by decide +kernel
theorem dX10_candle_139 : decode cX10_candle 139 = .ok (.goto 5, 3) := by decide +kernel
theorem dX10_candle_142 : decode cX10_candle 142 = .ok (.iload 6, 2) := by decide +kernel
theorem dX10_candle_144 : decode cX10_candle 144 = .ok (.ireturn, 1) := by decide +kernel
theorem dX10_candle_145 : decode cX10_candle 145 = .ok (.iload 5, 2) := by decide +kernel
theorem dX10_candle_147 : decode cX10_candle 147 = .ok (.iconst (-1), 1) := by decide +kernel
theorem dX10_candle_148 : decode cX10_candle 148 = .ok (.if_icmp .ne 8, 3) := by decide +kernel
theorem dX10_candle_151 : decode cX10_candle 151 = .ok (.bipush (-2), 2) := by decide +kernel
theorem dX10_candle_153 : decode cX10_candle 153 = .ok (.goto 21, 3) := by decide +kernel
theorem dX10_candle_156 : decode cX10_candle 156 = .ok (.iload_n 3, 1) := by decide +kernel
theorem dX10_candle_157 : decode cX10_candle 157 = .ok (.iconst 1, 1) := by decide +kernel
theorem dX10_candle_158 : decode cX10_candle 158 = .ok (.if_icmp .ne 11, 3) := by decide +kernel
theorem dX10_candle_161 : decode cX10_candle 161 = .ok (.iload 5, 2) := by decide +kernel
theorem dX10_candle_163 : decode cX10_candle 163 = .ok (.bipush 12, 2) := by decide +kernel
theorem dX10_candle_165 : decode cX10_candle 165 = .ok (.idiv, 1) := by decide +kernel
theorem dX10_candle_166 : decode cX10_candle 166 = .ok (.goto 8, 3) := by decide +kernel
theorem dX10_candle_169 : decode cX10_candle 169 = .ok (.iload 5, 2) := by decide +kernel
theorem dX10_candle_171 : decode cX10_candle 171 = .ok (.bipush 12, 2) := by decide +kernel
theorem dX10_candle_173 : decode cX10_candle 173 = .ok (.irem, 1) := by decide +kernel
theorem dX10_candle_174 : decode cX10_candle 174 = .ok (.ireturn, 1) := by decide +kernel
theorem dX10_draughts_0 : decode cX10_draughts 0 = .ok (.iconst 0, 1) := by decide +kernel
theorem dX10_draughts_1 : decode cX10_draughts 1 = .ok (.istore_n 1, 1) := by decide +kernel
theorem dX10_draughts_2 : decode cX10_draughts 2 = .ok (.iconst 0, 1) := by decide +kernel
theorem dX10_draughts_3 : decode cX10_draughts 3 = .ok (.istore_n 2, 1) := by decide +kernel
theorem dX10_draughts_4 : decode cX10_draughts 4 = .ok (.iload_n 2, 1) := by decide +kernel
theorem dX10_draughts_5 : decode cX10_draughts 5 = .ok (.bipush 10, 2) := by decide +kernel
theorem dX10_draughts_7 : decode cX10_draughts 7 = .ok (.if_icmp .ge 47, 3) := by decide +kernel
theorem dX10_draughts_10 : decode cX10_draughts 10 = .ok (.aload_n 0, 1) := by decide +kernel
theorem dX10_draughts_11 : decode cX10_draughts 11 = .ok (.iload_n 2, 1) := by decide +kernel
theorem dX10_draughts_12 : decode cX10_draughts 12 = .ok (.invokevirtual 236, 3) := by decide +kernel
theorem dX10_draughts_15 : decode cX10_draughts 15 = .ok (.ifCond .eq 33, 3) := by decide +kernel
theorem dX10_draughts_18 : decode cX10_draughts 18 = .ok (.aload_n 0, 1) := by decide +kernel
theorem dX10_draughts_19 : decode cX10_draughts 19 = .ok (.getfield 31, 3) := by decide +kernel
theorem dX10_draughts_22 : decode cX10_draughts 22 = .ok (.bipush 30, 2) := by decide +kernel
theorem dX10_draughts_24 : decode cX10_draughts 24 = .ok (.iload_n 2, 1) := by decide +kernel
theorem dX10_draughts_25 : decode cX10_draughts 25 = .ok (.iadd, 1) := by decide +kernel
theorem dX10_draughts_26 : decode cX10_draughts 26 = .ok (.iaload, 1) := by decide +kernel
theorem dX10_draughts_27 : decode cX10_draughts 27 = .ok (.ifCond .le 21, 3) := by decide +kernel
theorem dX10_draughts_30 : decode cX10_draughts 30 = .ok (.aload_n 0, 1) := by decide +kernel
theorem dX10_draughts_31 : decode cX10_draughts 31 = .ok (.getfield 31, 3) := by decide +kernel
theorem dX10_draughts_34 : decode cX10_draughts 34 = .ok (.bipush 20, 2) := by decide +kernel
theorem dX10_draughts_36 : decode cX10_draughts 36 = .ok (.iload_n 2, 1) := by decide +kernel
theorem dX10_draughts_37 : decode cX10_draughts 37 = .ok (.iadd, 1) := by decide +kernel
theorem dX10_draughts_38 : decode cX10_draughts 38 = .ok (.iaload, 1) := by decide +kernel
theorem dX10_draughts_39 : decode cX10_draughts 39 = .ok (.ifCond .ne 9, 3) := by decide +kernel
theorem dX10_draughts_42 : decode cX10_draughts 42 = .ok (.iload_n 1, 1) := by decide +kernel
theorem dX10_draughts_43 : decode cX10_draughts 43 = .ok (.iconst 1, 1) := by decide +kernel
theorem dX10_draughts_44 : decode cX10_draughts 44 = .ok (.iload_n 2, 1) := by decide +kernel
theorem dX10_draughts_45 : decode cX10_draughts 45 = .ok (.ishl, 1) := by decide +kernel
theorem dX10_draughts_46 : decode cX10_draughts 46 = .ok (.ior, 1) := by decide +kernel
theorem dX10_draughts_47 : decode cX10_draughts 47 = .ok (.istore_n 1, 1) := by decide +kernel
theorem dX10_draughts_48 : decode cX10_draughts 48 = .ok (.iinc 2 1, 3) := by decide +kernel
theorem dX10_draughts_51 : decode cX10_draughts 51 = .ok (.goto (-47), 3) := by decide +kernel
theorem dX10_draughts_54 : decode cX10_draughts 54 = .ok (.iload_n 1, 1) := by decide +kernel
theorem dX10_draughts_55 : decode cX10_draughts 55 = .ok (.ireturn, 1) := by decide +kernel
theorem dX10_mendedBy_0 : decode cX10_mendedBy 0 = .ok (.aload_n 0, 1) := by decide +kernel
theorem dX10_mendedBy_1 : decode cX10_mendedBy 1 = .ok (.getfield 22, 3) := by decide +kernel
theorem dX10_mendedBy_4 : decode cX10_mendedBy 4 = .ok (.iload_n 1, 1) := by decide +kernel
