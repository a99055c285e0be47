theorem dX9_sleeper_7 : decode cX9_sleeper 7 = .ok (.if_icmp .ge 10, 3) := by decide +kernel
theorem dX9_sleeper_10 : decode cX9_sleeper 10 = .ok (.iload_n 2, 1) := by decide +kernel
theorem dX9_sleeper_11 : decode cX9_sleeper 11 = .ok (.invokestatic 97, 3) := by decide +kernel
theorem dX9_sleeper_14 : decode cX9_sleeper 14 = .ok (.ifCond .ne 5, 3) := by decide +kernel
theorem dX9_sleeper_17 : decode cX9_sleeper 17 = .ok (.iconst 0, 1) := by decide +kernel
theorem dX9_sleeper_18 : decode cX9_sleeper 18 = .ok (.ireturn, 1) := by decide +kernel
theorem dX9_sleeper_19 : decode cX9_sleeper 19 = .ok (.aload_n 0, 1) := by decide +kernel
theorem dX9_sleeper_20 : decode cX9_sleeper 20 = .ok (.getfield 12, 3) := by decide +kernel
theorem dX9_sleeper_23 : decode cX9_sleeper 23 = .ok (.iload_n 1, 1) := by decide +kernel
theorem dX9_sleeper_24 : decode cX9_sleeper 24 = .ok (.iload_n 2, 1) := by decide +kernel
theorem dX9_sleeper_25 : decode cX9_sleeper 25 = .ok (.invokevirtual 113, 3) := by decide +kernel
theorem dX9_sleeper_28 : decode cX9_sleeper 28 = .ok (.iconst 1, 1) := by decide +kernel
theorem dX9_sleeper_29 : decode cX9_sleeper 29 = .ok (.ireturn, 1) := by decide +kernel
theorem dX9_sleeps_0 : decode cX9_sleeps 0 = .ok (.aload_n 0, 1) := by decide +kernel
theorem dX9_sleeps_1 : decode cX9_sleeps 1 = .ok (.getfield 12, 3) := by decide +kernel
theorem dX9_sleeps_4 : decode cX9_sleeps 4 = .ok (.iload_n 1, 1) := by decide +kernel
theorem dX9_sleeps_5 : decode cX9_sleeps 5 = .ok (.invokevirtual 117, 3) := by decide +kernel
theorem dX9_sleeps_8 : decode cX9_sleeps 8 = .ok (.ifCond .eq 18, 3) := by decide +kernel
theorem dX9_sleeps_11 : decode cX9_sleeps 11 = .ok (.iload_n 2, 1) := by decide +kernel
theorem dX9_sleeps_12 : decode cX9_sleeps 12 = .ok (.ifCond .lt 14, 3) := by decide +kernel
theorem dX9_sleeps_15 : decode cX9_sleeps 15 = .ok (.iload_n 3, 1) := by decide +kernel
theorem dX9_sleeps_16 : decode cX9_sleeps 16 = .ok (.bipush 7, 2) := by decide +kernel
theorem dX9_sleeps_18 : decode cX9_sleeps 18 = .ok (.if_icmp .gt 8, 3) := by decide +kernel
theorem dX9_sleeps_21 : decode cX9_sleeps 21 = .ok (.iload_n 2, 1) := by decide +kernel
theorem dX9_sleeps_22 : decode cX9_sleeps 22 = .ok (.iload_n 3, 1) := by decide +kernel
theorem dX9_sleeps_23 : decode cX9_sleeps 23 = .ok (.if_icmp .lt 5, 3) := by decide +kernel
theorem dX9_sleeps_26 : decode cX9_sleeps 26 = .ok (.iconst 0, 1) := by decide +kernel
theorem dX9_sleeps_27 : decode cX9_sleeps 27 = .ok (.ireturn, 1) := by decide +kernel
theorem dX9_sleeps_28 : decode cX9_sleeps 28 = .ok (.iload 4, 2) := by decide +kernel
theorem dX9_sleeps_30 : decode cX9_sleeps 30 = .ok (.iconst (-1), 1) := by decide +kernel
theorem dX9_sleeps_31 : decode cX9_sleeps 31 = .ok (.if_icmp .eq 13, 3) := by decide +kernel
theorem dX9_sleeps_34 : decode cX9_sleeps 34 = .ok (.iload 4, 2) := by decide +kernel
theorem dX9_sleeps_36 : decode cX9_sleeps 36 = .ok (.invokestatic 93, 3) := by decide +kernel
theorem dX9_sleeps_39 : decode cX9_sleeps 39 = .ok (.ifCond .ne 5, 3) := by decide +kernel
theorem dX9_sleeps_42 : decode cX9_sleeps 42 = .ok (.iconst 0, 1) := by decide +kernel
theorem dX9_sleeps_43 : decode cX9_sleeps 43 = .ok (.ireturn, 1) := by decide +kernel
theorem dX9_sleeps_44 : decode cX9_sleeps 44 = .ok (.iload_n 2, 1) := by decide +kernel
theorem dX9_sleeps_45 : decode cX9_sleeps 45 = .ok (.istore 5, 2) := by decide +kernel
theorem dX9_sleeps_47 : decode cX9_sleeps 47 = .ok (.iload 5, 2) := by decide +kernel
theorem dX9_sleeps_49 : decode cX9_sleeps 49 = .ok (.iload_n 3, 1) := by decide +kernel
theorem dX9_sleeps_50 : decode cX9_sleeps 50 = .ok (.if_icmp .ge 38, 3) := by decide +kernel
theorem dX9_sleeps_53 : decode cX9_sleeps 53 = .ok (.aload_n 0, 1) := by decide +kernel
theorem dX9_sleeps_54 : decode cX9_sleeps 54 = .ok (.getfield 12, 3) := by decide +kernel
theorem dX9_sleeps_57 : decode cX9_sleeps 57 = .ok (.getfield 120, 3) := by decide +kernel
theorem dX9_sleeps_60 : decode cX9_sleeps 60 = .ok (.iload 5, 2) := by decide +kernel
theorem dX9_sleeps_62 : decode cX9_sleeps 62 = .ok (.bipush 10, 2) := by decide +kernel
theorem dX9_sleeps_64 : decode cX9_sleeps 64 = .ok (.imul, 1) := by decide +kernel
theorem dX9_sleeps_65 : decode cX9_sleeps 65 = .ok (.iload_n 1, 1) := by decide +kernel
theorem dX9_sleeps_66 : decode cX9_sleeps 66 = .ok (.iadd, 1) := by decide +kernel
theorem dX9_sleeps_67 : decode cX9_sleeps 67 = .ok (.iload 4, 2) := by decide +kernel
theorem dX9_sleeps_69 : decode cX9_sleeps 69 = .ok (.iconst (-1), 1) := by decide +kernel
theorem dX9_sleeps_70 : decode cX9_sleeps 70 = .ok (.if_icmp .ne 9, 3) := by decide +kernel
theorem dX9_sleeps_73 : decode cX9_sleeps 73 = .ok (.sipush 255, 3) := by decide +kernel
theorem dX9_sleeps_76 : decode cX9_sleeps 76 = .ok (.goto 5, 3) := by decide +kernel
theorem dX9_sleeps_79 : decode cX9_sleeps 79 = .ok (.iload 4, 2) := by decide +kernel
theorem dX9_sleeps_81 : decode cX9_sleeps 81 = .ok (.iastore, 1) := by decide +kernel
theorem dX9_sleeps_82 : decode cX9_sleeps 82 = .ok (.iinc 5 1, 3) := by decide +kernel
theorem dX9_sleeps_85 : decode cX9_sleeps 85 = .ok (.goto (-38), 3) := by decide +kernel
theorem dX9_sleeps_88 : decode cX9_sleeps 88 = .ok (.iconst 1, 1) := by decide +kernel
theorem dX9_sleeps_89 : decode cX9_sleeps 89 = .ok (.ireturn, 1) := by decide +kernel
theorem dX9_ghost_0 : decode cX9_ghost 0 = .ok (.iload_n 1, 1) := by decide +kernel
theorem dX9_ghost_1 : decode cX9_ghost 1 = .ok (.ifCond .lt 18, 3) := by decide +kernel
theorem dX9_ghost_4 : decode cX9_ghost 4 = .ok (.iload_n 1, 1) := by decide +kernel
theorem dX9_ghost_5 : decode cX9_ghost 5 = .ok (.bipush 10, 2) := by decide +kernel
theorem dX9_ghost_7 : decode cX9_ghost 7 = .ok (.if_icmp .ge 12, 3) := by decide +kernel
theorem dX9_ghost_10 : decode cX9_ghost 10 = .ok (.iload_n 2, 1) := by decide +kernel
theorem dX9_ghost_11 : decode cX9_ghost 11 = .ok (.ifCond .lt 8, 3) := by decide +kernel
theorem dX9_ghost_14 : decode cX9_ghost 14 = .ok (.iload_n 2, 1) := by decide +kernel
theorem dX9_ghost_15 : decode cX9_ghost 15 = .ok (.iconst 4, 1) := by decide +kernel
theorem dX9_ghost_16 : decode cX9_ghost 16 = .ok (.if_icmp .le 5, 3) := by decide +kernel
theorem dX9_ghost_19 : decode cX9_ghost 19 = .ok (.iconst 0, 1) := by decide +kernel
theorem dX9_ghost_20 : decode cX9_ghost 20 = .ok (.ireturn, 1) := by decide +kernel
theorem dX9_ghost_21 : decode cX9_ghost 21 = .ok (.iload_n 3, 1) := by decide +kernel
theorem dX9_ghost_22 : decode cX9_ghost 22 = .ok (.invokestatic 97, 3) := by decide +kernel
theorem dX9_ghost_25 : decode cX9_ghost 25 = .ok (.ifCond .eq 24, 3) := by decide +kernel
theorem dX9_ghost_28 : decode cX9_ghost 28 = .ok (.iload 4, 2) := by decide +kernel
theorem dX9_ghost_30 : decode cX9_ghost 30 = .ok (.invokestatic 97, 3) := by decide +kernel
theorem dX9_ghost_33 : decode cX9_ghost 33 = .ok (.ifCond .eq 16, 3) := by decide +kernel
theorem dX9_ghost_36 : decode cX9_ghost 36 = .ok (.iload 5, 2) := by decide +kernel
theorem dX9_ghost_38 : decode cX9_ghost 38 = .ok (.ifCond .lt 11, 3) := by decide +kernel
theorem dX9_ghost_41 : decode cX9_ghost 41 = .ok (.iload 5, 2) := by decide +kernel
theorem dX9_ghost_43 : decode cX9_ghost 43 = .ok (.sipush 999, 3) := by decide +kernel
theorem dX9_ghost_46 : decode cX9_ghost 46 = .ok (.if_icmp .le 5, 3) := by decide +kernel
theorem dX9_ghost_49 : decode cX9_ghost 49 = .ok (.iconst 0, 1) := by decide +kernel
theorem dX9_ghost_50 : decode cX9_ghost 50 = .ok (.ireturn, 1) := by decide +kernel
theorem dX9_ghost_51 : decode cX9_ghost 51 = .ok (.aload_n 0, 1) := by decide +kernel
theorem dX9_ghost_52 : decode cX9_ghost 52 = .ok (.getfield 12, 3) := by decide +kernel
theorem dX9_ghost_55 : decode cX9_ghost 55 = .ok (.iload_n 1, 1) := by decide +kernel
theorem dX9_ghost_56 : decode cX9_ghost 56 = .ok (.iload_n 2, 1) := by decide +kernel
theorem dX9_ghost_57 : decode cX9_ghost 57 = .ok (.iload_n 3, 1) := by decide +kernel
theorem dX9_ghost_58 : decode cX9_ghost 58 = .ok (.iload 4, 2) := by decide +kernel
theorem dX9_ghost_60 : decode cX9_ghost 60 = .ok (.iload 5, 2) := by decide +kernel
theorem dX9_ghost_62 : decode cX9_ghost 62 = .ok (.invokevirtual 123, 3) := by decide +kernel
theorem dX9_ghost_65 : decode cX9_ghost 65 = .ok (.iconst 1, 1) := by decide +kernel
theorem dX9_ghost_66 : decode cX9_ghost 66 = .ok (.ireturn, 1) := by decide +kernel
theorem dX9_feed_0 : decode cX9_feed 0 = .ok (.aload_n 0, 1) := by decide +kernel
theorem dX9_feed_1 : decode cX9_feed 1 = .ok (.getfield 22, 3) := by decide +kernel
theorem dX9_feed_4 : decode cX9_feed 4 = .ok (.invokevirtual 127, 3) := by decide +kernel
theorem dX9_feed_7 : decode cX9_feed 7 = .ok (.ifCond .ne 5, 3) := by decide +kernel
theorem dX9_feed_10 : decode cX9_feed 10 = .ok (.iconst (-1), 1) := by decide +kernel
theorem dX9_feed_11 : decode cX9_feed 11 = .ok (.ireturn, 1) := by decide +kernel
theorem dX9_feed_12 : decode cX9_feed 12 = .ok (.aload_n 0, 1) := by decide +kernel
theorem dX9_feed_13 : decode cX9_feed 13 = .ok (.getfield 22, 3) := by decide +kernel
theorem dX9_feed_16 : decode cX9_feed 16 = .ok (.iload_n 1, 1) := by decide +kernel
theorem dX9_feed_17 : decode cX9_feed 17 = .ok (.invokevirtual 131, 3) := by decide +kernel
theorem dX9_feed_20 : decode cX9_feed 20 = .ok (.aload_n 0, 1) := by decide +kernel
theorem dX9_feed_21 : decode cX9_feed 21 = .ok (.getfield 22, 3) := by decide +kernel
theorem dX9_feed_24 : decode cX9_feed 24 = .ok (.iload_n 2, 1) := by decide +kernel
theorem dX9_feed_25 : decode cX9_feed 25 = .ok (.invokevirtual 131, 3) := by decide +kernel
theorem dX9_feed_28 : decode cX9_feed 28 = .ok (.aload_n 0, 1) := by decide +kernel
theorem dX9_feed_29 : decode cX9_feed 29 = .ok (.getfield 22, 3) := by decide +kernel
theorem dX9_feed_32 : decode cX9_feed 32 = .ok (.iload_n 3, 1) := by decide +kernel
theorem dX9_feed_33 : decode cX9_feed 33 = .ok (.invokevirtual 131, 3) := by decide +kernel
theorem dX9_feed_36 : decode cX9_feed 36 = .ok (.aload_n 0, 1) := by decide +kernel
theorem dX9_feed_37 : decode cX9_feed 37 = .ok (.getfield 22, 3) := by decide +kernel
theorem dX9_feed_40 : decode cX9_feed 40 = .ok (.iload 4, 2) := by decide +kernel
theorem dX9_feed_42 : decode cX9_feed 42 = .ok (.invokevirtual 131, 3) := by decide +kernel
theorem dX9_feed_45 : decode cX9_feed 45 = .ok (.aload_n 0, 1) := by decide +kernel
theorem dX9_feed_46 : decode cX9_feed 46 = .ok (.getfield 22, 3) := by decide +kernel
theorem dX9_feed_49 : decode cX9_feed 49 = .ok (.iload 5, 2) := by decide +kernel
theorem dX9_feed_51 : decode cX9_feed 51 = .ok (.invokevirtual 131, 3) := by decide +kernel
theorem dX9_feed_54 : decode cX9_feed 54 = .ok (.aload_n 0, 1) := by decide +kernel
theorem dX9_feed_55 : decode cX9_feed 55 = .ok (.getfield 22, 3) := by decide +kernel
theorem dX9_feed_58 : decode cX9_feed 58 = .ok (.getfield 135, 3) := by decide +kernel
theorem dX9_feed_61 : decode cX9_feed 61 = .ok (.ireturn, 1) := by decide +kernel
theorem dX9_rota_0 : decode cX9_rota 0 = .ok (.iload_n 1, 1) := by decide +kernel
theorem dX9_rota_1 : decode cX9_rota 1 = .ok (.iconst 1, 1) := by decide +kernel
theorem dX9_rota_2 : decode cX9_rota 2 = .ok (.if_icmp .lt 21, 3) := by decide +kernel
theorem dX9_rota_5 : decode cX9_rota 5 = .ok (.iload_n 1, 1) := by decide +kernel
theorem dX9_rota_6 : decode cX9_rota 6 = .ok (.sipush 160, 3) := by decide +kernel
theorem dX9_rota_9 : decode cX9_rota 9 = .ok (.if_icmp .gt 14, 3) := by decide +kernel
theorem dX9_rota_12 : decode cX9_rota 12 = .ok (.iload_n 1, 1) := by decide +kernel
theorem dX9_rota_13 : decode cX9_rota 13 = .ok (.aload_n 0, 1) := by decide +kernel
theorem dX9_rota_14 : decode cX9_rota 14 = .ok (.getfield 22, 3) := by decide +kernel
theorem dX9_rota_17 : decode cX9_rota 17 = .ok (.getfield 135, 3) := by decide +kernel
theorem dX9_rota_20 : decode cX9_rota 20 = .ok (.if_icmp .le 5, 3) := by decide +kernel
theorem dX9_rota_23 : decode cX9_rota 23 = .ok (.iconst (-1), 1) := by decide +kernel
theorem dX9_rota_24 : decode cX9_rota 24 = .ok (.ireturn, 1) := by decide +kernel
theorem dX9_rota_25 : decode cX9_rota 25 = .ok (.aload_n 0, 1) := by decide +kernel
theorem dX9_rota_26 : decode cX9_rota 26 = .ok (.getfield 22, 3) := by decide +kernel
theorem dX9_rota_29 : decode cX9_rota 29 = .ok (.iload_n 1, 1) := by decide +kernel
theorem dX9_rota_30 : decode cX9_rota 30 = .ok (.invokevirtual 138, 3) := by decide +kernel
theorem dX9_rota_33 : decode cX9_rota 33 = .ok (.aload_n 0, 1) := by decide +kernel
theorem dX9_rota_34 : decode cX9_rota 34 = .ok (.getfield 33, 3) := by decide +kernel
theorem dX9_rota_37 : decode cX9_rota 37 = .ok (.aload_n 0, 1) := by decide +kernel
theorem dX9_rota_38 : decode cX9_rota 38 = .ok (.getfield 22, 3) := by decide +kernel
theorem dX9_rota_41 : decode cX9_rota 41 = .ok (.invokevirtual 141, 3) := by decide +kernel
theorem dX9_rota_44 : decode cX9_rota 44 = .ok (.aload_n 0, 1) := by decide +kernel
theorem dX9_rota_45 : decode cX9_rota 45 = .ok (.getfield 22, 3) := by decide +kernel
theorem dX9_rota_48 : decode cX9_rota 48 = .ok (.getfield 145, 3) := by decide +kernel
theorem dX9_rota_51 : decode cX9_rota 51 = .ok (.ifCond .eq 11, 3) := by decide +kernel
theorem dX9_rota_54 : decode cX9_rota 54 = .ok (.aload_n 0, 1) := by decide +kernel
theorem dX9_rota_55 : decode cX9_rota 55 = .ok (.getfield 22, 3) := by decide +kernel
theorem dX9_rota_58 : decode cX9_rota 58 = .ok (.getfield 145, 3) := by decide +kernel
theorem dX9_rota_61 : decode cX9_rota 61 = .ok (.ireturn, 1) := by decide +kernel
theorem dX9_rota_62 : decode cX9_rota 62 = .ok (.aload_n 0, 1) := by decide +kernel
theorem dX9_rota_63 : decode cX9_rota 63 = .ok (.getfield 29, 3) := by decide +kernel
theorem dX9_rota_66 : decode cX9_rota 66 = .ok (.aload_n 0, 1) := by decide +kernel
theorem dX9_rota_67 : decode cX9_rota 67 = .ok (.getfield 33, 3) := by decide +kernel
theorem dX9_rota_70 : decode cX9_rota 70 = .ok (.invokevirtual 148, 3) := by decide +kernel
theorem dX9_rota_73 : decode cX9_rota 73 = .ok (.aload_n 0, 1) := by decide +kernel
theorem dX9_rota_74 : decode cX9_rota 74 = .ok (.getfield 29, 3) := by decide +kernel
theorem dX9_rota_77 : decode cX9_rota 77 = .ok (.getfield 152, 3) := by decide +kernel
theorem dX9_rota_80 : decode cX9_rota 80 = .ok (.ireturn, 1) := by decide +kernel
theorem dX9_law_0 : decode cX9_law 0 = .ok (.iload_n 1, 1) := by decide +kernel
theorem dX9_law_1 : decode cX9_law 1 = .ok (.iconst 1, 1) := by decide +kernel
theorem dX9_law_2 : decode cX9_law 2 = .ok (.if_icmp .lt 21, 3) := by decide +kernel
theorem dX9_law_5 : decode cX9_law 5 = .ok (.iload_n 1, 1) := by decide +kernel
theorem dX9_law_6 : decode cX9_law 6 = .ok (.sipush 200, 3) := by decide +kernel
theorem dX9_law_9 : decode cX9_law 9 = .ok (.if_icmp .gt 14, 3) := by decide +kernel
theorem dX9_law_12 : decode cX9_law 12 = .ok (.iload_n 1, 1) := by decide +kernel
theorem dX9_law_13 : decode cX9_law 13 = .ok (.aload_n 0, 1) := by decide +kernel
theorem dX9_law_14 : decode cX9_law 14 = .ok (.getfield 22, 3) := by decide +kernel
theorem dX9_law_17 : decode cX9_law 17 = .ok (.getfield 135, 3) := by decide +kernel
theorem dX9_law_20 : decode cX9_law 20 = .ok (.if_icmp .le 5, 3) := by decide +kernel
theorem dX9_law_23 : decode cX9_law 23 = .ok (.iconst (-1), 1) := by decide +kernel
theorem dX9_law_24 : decode cX9_law 24 = .ok (.ireturn, 1) := by decide +kernel
theorem dX9_law_25 : decode cX9_law 25 = .ok (.aload_n 0, 1) := by decide +kernel
theorem dX9_law_26 : decode cX9_law 26 = .ok (.getfield 22, 3) := by decide +kernel
theorem dX9_law_29 : decode cX9_law 29 = .ok (.iload_n 1, 1) := by decide +kernel
theorem dX9_law_30 : decode cX9_law 30 = .ok (.invokevirtual 138, 3) := by decide +kernel
theorem dX9_law_33 : decode cX9_law 33 = .ok (.aload_n 0, 1) := by decide +kernel
theorem dX9_law_34 : decode cX9_law 34 = .ok (.getfield 51, 3) := by decide +kernel
theorem dX9_law_37 : decode cX9_law 37 = .ok (.invokevirtual 153, 3) := by decide +kernel
theorem dX9_law_40 : decode cX9_law 40 = .ok (.aload_n 0, 1) := by decide +kernel
theorem dX9_law_41 : decode cX9_law 41 = .ok (.getfield 22, 3) := by decide +kernel
theorem dX9_law_44 : decode cX9_law 44 = .ok (.getfield 145, 3) := by decide +kernel
theorem dX9_law_47 : decode cX9_law 47 = .ok (.ifCond .eq 11, 3) := by decide +kernel
theorem dX9_law_50 : decode cX9_law 50 = .ok (.aload_n 0, 1) := by decide +kernel
theorem dX9_law_51 : decode cX9_law 51 = .ok (.getfield 22, 3) := by decide +kernel
theorem dX9_law_54 : decode cX9_law 54 = .ok (.getfield 145, 3) := by decide +kernel
theorem dX9_law_57 : decode cX9_law 57 = .ok (.ireturn, 1) := by decide +kernel
theorem dX9_law_58 : decode cX9_law 58 = .ok (.aload_n 0, 1) := by decide +kernel
theorem dX9_law_59 : decode cX9_law 59 = .ok (.getfield 39, 3) := by decide +kernel
theorem dX9_law_62 : decode cX9_law 62 = .ok (.aload_n 0, 1) := by decide +kernel
theorem dX9_law_63 : decode cX9_law 63 = .ok (.getfield 43, 3) := by decide +kernel
theorem dX9_law_66 : decode cX9_law 66 = .ok (.invokevirtual 156, 3) := by decide +kernel
theorem dX9_law_69 : decode cX9_law 69 = .ok (.aload_n 0, 1) := by decide +kernel
theorem dX9_law_70 : decode cX9_law 70 = .ok (.getfield 39, 3) := by decide +kernel
theorem dX9_law_73 : decode cX9_law 73 = .ok (.getfield 159, 3) := by decide +kernel
theorem dX9_law_76 : decode cX9_law 76 = .ok (.ireturn, 1) := by decide +kernel
theorem dX9_walk_0 : decode cX9_walk 0 = .ok (.iload_n 1, 1) := by decide +kernel
theorem dX9_walk_1 : decode cX9_walk 1 = .ok (.ifCond .lt 14, 3) := by decide +kernel
theorem dX9_walk_4 : decode cX9_walk 4 = .ok (.iload_n 1, 1) := by decide +kernel
theorem dX9_walk_5 : decode cX9_walk 5 = .ok (.aload_n 0, 1) := by decide +kernel
theorem dX9_walk_6 : decode cX9_walk 6 = .ok (.getfield 29, 3) := by decide +kernel
theorem dX9_walk_9 : decode cX9_walk 9 = .ok (.getfield 152, 3) := by decide +kernel
theorem dX9_walk_12 : decode cX9_walk 12 = .ok (.if_icmp .lt 5, 3) := by decide +kernel
theorem dX9_walk_15 : decode cX9_walk 15 = .ok (.iconst (-1), 1) := by decide +kernel
theorem dX9_walk_16 : decode cX9_walk 16 = .ok (.ireturn, 1) := by decide +kernel
theorem dX9_walk_17 : decode cX9_walk 17 = .ok (.iload_n 2, 1) := by decide +kernel
theorem dX9_walk_18 : decode cX9_walk 18 = .ok (.tableswitch 95 0 4 #[34, 44, 54, 64, 74], 34) := by decide +kernel
theorem dX9_walk_52 : decode cX9_walk 52 = .ok (.aload_n 0, 1) := by decide +kernel
theorem dX9_walk_53 : decode cX9_walk 53 = .ok (.getfield 29, 3) := by decide +kernel
theorem dX9_walk_56 : decode cX9_walk 56 = .ok (.getfield 162, 3) := by decide +kernel
theorem dX9_walk_59 : decode cX9_walk 59 = .ok (.iload_n 1, 1) := by decide +kernel
theorem dX9_walk_60 : decode cX9_walk 60 = .ok (.iaload, 1) := by decide +kernel
theorem dX9_walk_61 : decode cX9_walk 61 = .ok (.ireturn, 1) := by decide +kernel
theorem dX9_walk_62 : decode cX9_walk 62 = .ok (.aload_n 0, 1) := by decide +kernel
theorem dX9_walk_63 : decode cX9_walk 63 = .ok (.getfield 29, 3) := by decide +kernel
theorem dX9_walk_66 : decode cX9_walk 66 = .ok (.getfield 165, 3) := by decide +kernel
theorem dX9_walk_69 : decode cX9_walk 69 = .ok (.iload_n 1, 1) := by decide +kernel
theorem dX9_walk_70 : decode cX9_walk 70 = .ok (.iaload, 1) := by decide +kernel
theorem dX9_walk_71 : decode cX9_walk 71 = .ok (.ireturn, 1) := by decide +kernel
theorem dX9_walk_72 : decode cX9_walk 72 = .ok (.aload_n 0, 1) := by decide +kernel
theorem dX9_walk_73 : decode cX9_walk 73 = .ok (.getfield 29, 3) := by decide +kernel
theorem dX9_walk_76 : decode cX9_walk 76 = .ok (.getfield 168, 3) := by decide +kernel
theorem dX9_walk_79 : decode cX9_walk 79 = .ok (.iload_n 1, 1) := by decide +kernel
theorem dX9_walk_80 : decode cX9_walk 80 = .ok (.iaload, 1) := by decide +kernel
theorem dX9_walk_81 : decode cX9_walk 81 = .ok (.ireturn, 1) := by decide +kernel
theorem dX9_walk_82 : decode cX9_walk 82 = .ok (.aload_n 0, 1) := by decide +kernel
theorem dX9_walk_83 : decode cX9_walk 83 = .ok (.getfield 29, 3) := by decide +kernel
theorem dX9_walk_86 : decode cX9_walk 86 = .ok (.getfield 171, 3) := by decide +kernel
theorem dX9_walk_89 : decode cX9_walk 89 = .ok (.iload_n 1, 1) := by decide +kernel
theorem dX9_walk_90 : decode cX9_walk 90 = .ok (.iaload, 1) := by decide +kernel
theorem dX9_walk_91 : decode cX9_walk 91 = .ok (.ireturn, 1) := by decide +kernel
theorem dX9_walk_92 : decode cX9_walk 92 = .ok (.aload_n 0, 1) := by decide +kernel
theorem dX9_walk_93 : decode cX9_walk 93 = .ok (.getfield 29, 3) := by decide +kernel
theorem dX9_walk_96 : decode cX9_walk 96 = .ok (.iload_n 1, 1) := by decide +kernel
theorem dX9_walk_97 : decode cX9_walk 97 = .ok (.aload_n 0, 1) := by decide +kernel
theorem dX9_walk_98 : decode cX9_walk 98 = .ok (.getfield 12, 3) := by decide +kernel
theorem dX9_walk_101 : decode cX9_walk 101 = .ok (.invokevirtual 174, 3) := by decide +kernel
theorem dX9_walk_104 : decode cX9_walk 104 = .ok (.ifCond .eq 7, 3) := by decide +kernel
theorem dX9_walk_107 : decode cX9_walk 107 = .ok (.iconst 1, 1) := by decide +kernel
theorem dX9_walk_108 : decode cX9_walk 108 = .ok (.goto 4, 3) := by decide +kernel
theorem dX9_walk_111 : decode cX9_walk 111 = .ok (.iconst 0, 1) := by decide +kernel
theorem dX9_walk_112 : decode cX9_walk 112 = .ok (.ireturn, 1) := by decide +kernel
theorem dX9_walk_113 : decode cX9_walk 113 = .ok (.iconst (-1), 1) := by decide +kernel
theorem dX9_walk_114 : decode cX9_walk 114 = .ok (.ireturn, 1) := by decide +kernel
theorem dX9_fright_0 : decode cX9_fright 0 = .ok (.aload_n 0, 1) := by decide +kernel
theorem dX9_fright_1 : decode cX9_fright 1 = .ok (.getfield 12, 3) := by decide +kernel
theorem dX9_fright_4 : decode cX9_fright 4 = .ok (.iload_n 1, 1) := by decide +kernel
theorem dX9_fright_5 : decode cX9_fright 5 = .ok (.invokevirtual 178, 3) := by decide +kernel
theorem dX9_fright_8 : decode cX9_fright 8 = .ok (.ifCond .eq 29, 3) := by decide +kernel
theorem dX9_fright_11 : decode cX9_fright 11 = .ok (.aload_n 0, 1) := by decide +kernel
theorem dX9_fright_12 : decode cX9_fright 12 = .ok (.getfield 12, 3) := by decide +kernel
theorem dX9_fright_15 : decode cX9_fright 15 = .ok (.iload_n 2, 1) := by decide +kernel
theorem dX9_fright_16 : decode cX9_fright 16 = .ok (.invokevirtual 117, 3) := by decide +kernel
theorem dX9_fright_19 : decode cX9_fright 19 = .ok (.ifCond .eq 18, 3) := by decide +kernel
theorem dX9_fright_22 : decode cX9_fright 22 = .ok (.iload_n 3, 1) := by decide +kernel
theorem dX9_fright_23 : decode cX9_fright 23 = .ok (.invokestatic 103, 3) := by decide +kernel
theorem dX9_fright_26 : decode cX9_fright 26 = .ok (.ifCond .eq 11, 3) := by decide +kernel
theorem dX9_fright_29 : decode cX9_fright 29 = .ok (.iload 4, 2) := by decide +kernel
theorem dX9_fright_31 : decode cX9_fright 31 = .ok (.invokestatic 93, 3) := by decide +kernel
theorem dX9_fright_34 : decode cX9_fright 34 = .ok (.ifCond .ne 5, 3) := by decide +kernel
theorem dX9_fright_37 : decode cX9_fright 37 = .ok (.iconst (-1), 1) := by decide +kernel
theorem dX9_fright_38 : decode cX9_fright 38 = .ok (.ireturn, 1) := by decide +kernel
theorem dX9_fright_39 : decode cX9_fright 39 = .ok (.iload 5, 2) := by decide +kernel
theorem dX9_fright_41 : decode cX9_fright 41 = .ok (.ifCond .eq 11, 3) := by decide +kernel
theorem dX9_fright_44 : decode cX9_fright 44 = .ok (.iload 5, 2) := by decide +kernel
theorem dX9_fright_46 : decode cX9_fright 46 = .ok (.iconst 1, 1) := by decide +kernel
theorem dX9_fright_47 : decode cX9_fright 47 = .ok (.if_icmp .eq 5, 3) := by decide +kernel
theorem dX9_fright_50 : decode cX9_fright 50 = .ok (.iconst (-1), 1) := by decide +kernel
theorem dX9_fright_51 : decode cX9_fright 51 = .ok (.ireturn, 1) := by decide +kernel
theorem dX9_fright_52 : decode cX9_fright 52 = .ok (.aload_n 0, 1) := by decide +kernel
theorem dX9_fright_53 : decode cX9_fright 53 = .ok (.getfield 60, 3) := by decide +kernel
theorem dX9_fright_56 : decode cX9_fright 56 = .ok (.iload_n 1, 1) := by decide +kernel
theorem dX9_fright_57 : decode cX9_fright 57 = .ok (.iload_n 2, 1) := by decide +kernel
theorem dX9_fright_58 : decode cX9_fright 58 = .ok (.iload_n 3, 1) := by decide +kernel
theorem dX9_fright_59 : decode cX9_fright 59 = .ok (.iload 4, 2) := by decide +kernel
theorem dX9_fright_61 : decode cX9_fright 61 = .ok (.iload 5, 2) := by decide +kernel
theorem dX9_fright_63 : decode cX9_fright 63 = .ok (.invokevirtual 181, 3) := by decide +kernel
theorem dX9_fright_66 : decode cX9_fright 66 = .ok (.ireturn, 1) := by decide +kernel
theorem dX9_week_0 : decode cX9_week 0 = .ok (.aload_n 0, 1) := by decide +kernel
theorem dX9_week_1 : decode cX9_week 1 = .ok (.aload_n 0, 1) := by decide +kernel
theorem dX9_week_2 : decode cX9_week 2 = .ok (.getfield 69, 3) := by decide +kernel
theorem dX9_week_5 : decode cX9_week 5 = .ok (.getfield 185, 3) := by decide +kernel
theorem dX9_week_8 : decode cX9_week 8 = .ok (.iload_n 1, 1) := by decide +kernel
theorem dX9_week_9 : decode cX9_week 9 = .ok (.invokevirtual 188, 3) := by decide +kernel
theorem dX9_week_12 : decode cX9_week 12 = .ok (.ifCond .ne 5, 3) := by decide +kernel
theorem dX9_week_15 : decode cX9_week 15 = .ok (.iconst (-1), 1) := by decide +kernel
theorem dX9_week_16 : decode cX9_week 16 = .ok (.ireturn, 1) := by decide +kernel
theorem dX9_week_17 : decode cX9_week 17 = .ok (.aload_n 0, 1) := by decide +kernel
theorem dX9_week_18 : decode cX9_week 18 = .ok (.getfield 69, 3) := by decide +kernel
theorem dX9_week_21 : decode cX9_week 21 = .ok (.invokevirtual 192, 3) := by decide +kernel
theorem dX9_week_24 : decode cX9_week 24 = .ok (.aload_n 0, 1) := by decide +kernel
theorem dX9_week_25 : decode cX9_week 25 = .ok (.getfield 69, 3) := by decide +kernel
theorem dX9_week_28 : decode cX9_week 28 = .ok (.getfield 185, 3) := by decide +kernel
theorem dX9_week_31 : decode cX9_week 31 = .ok (.iload_n 1, 1) := by decide +kernel
theorem dX9_week_32 : decode cX9_week 32 = .ok (.iaload, 1) := by decide +kernel
theorem dX9_week_33 : decode cX9_week 33 = .ok (.ireturn, 1) := by decide +kernel
theorem dX9_live_0 : decode cX9_live 0 = .ok (.aload_n 0, 1) := by decide +kernel
theorem dX9_live_1 : decode cX9_live 1 = .ok (.getfield 69, 3) := by decide +kernel
theorem dX9_live_4 : decode cX9_live 4 = .ok (.invokevirtual 192, 3) := by decide +kernel
theorem dX9_live_7 : decode cX9_live 7 = .ok (.iconst 0, 1) := by decide +kernel
theorem dX9_live_8 : decode cX9_live 8 = .ok (.istore_n 1, 1) := by decide +kernel
theorem dX9_live_9 : decode cX9_live 9 = .ok (.iload_n 1, 1) := by decide +kernel
theorem dX9_live_10 : decode cX9_live 10 = .ok (.aload_n 0, 1) := by decide +kernel
theorem dX9_live_11 : decode cX9_live 11 = .ok (.getfield 12, 3) := by decide +kernel
theorem dX9_live_14 : decode cX9_live 14 = .ok (.getfield 195, 3) := by decide +kernel
theorem dX9_live_17 : decode cX9_live 17 = .ok (.arraylength, 1) := by decide +kernel
theorem dX9_live_18 : decode cX9_live 18 = .ok (.if_icmp .ge 30, 3) := by decide +kernel
theorem dX9_live_21 : decode cX9_live 21 = .ok (.aload_n 0, 1) := by decide +kernel
theorem dX9_live_22 : decode cX9_live 22 = .ok (.getfield 12, 3) := by decide +kernel
theorem dX9_live_25 : decode cX9_live 25 = .ok (.getfield 195, 3) := by decide +kernel
theorem dX9_live_28 : decode cX9_live 28 = .ok (.iload_n 1, 1) := by decide +kernel
theorem dX9_live_29 : decode cX9_live 29 = .ok (.dup2, 1) := by decide +kernel
theorem dX9_live_30 : decode cX9_live 30 = .ok (.iaload, 1) := by decide +kernel
theorem dX9_live_31 : decode cX9_live 31 = .ok (.aload_n 0, 1) := by decide +kernel
theorem dX9_live_32 : decode cX9_live 32 = .ok (.getfield 69, 3) := by decide +kernel
theorem dX9_live_35 : decode cX9_live 35 = .ok (.getfield 185, 3) := by decide +kernel
theorem dX9_live_38 : decode cX9_live 38 = .ok (.iload_n 1, 1) := by decide +kernel
theorem dX9_live_39 : decode cX9_live 39 = .ok (.iaload, 1) := by decide +kernel
theorem dX9_live_40 : decode cX9_live 40 = .ok (.iadd, 1) := by decide +kernel
theorem dX9_live_41 : decode cX9_live 41 = .ok (.iastore, 1) := by decide +kernel
theorem dX9_live_42 : decode cX9_live 42 = .ok (.iinc 1 1, 3) := by decide +kernel
theorem dX9_live_45 : decode cX9_live 45 = .ok (.goto (-36), 3) := by decide +kernel
theorem dX9_live_48 : decode cX9_live 48 = .ok (.aload_n 0, 1) := by decide +kernel
theorem dX9_live_49 : decode cX9_live 49 = .ok (.getfield 12, 3) := by decide +kernel
theorem dX9_live_52 : decode cX9_live 52 = .ok (.dup, 1) := by decide +kernel
theorem dX9_live_53 : decode cX9_live 53 = .ok (.getfield 198, 3) := by decide +kernel
theorem dX9_live_56 : decode cX9_live 56 = .ok (.iconst 1, 1) := by decide +kernel
theorem dX9_live_57 : decode cX9_live 57 = .ok (.iadd, 1) := by decide +kernel
theorem dX9_live_58 : decode cX9_live 58 = .ok (.putfield 198, 3) := by decide +kernel
theorem dX9_live_61 : decode cX9_live 61 = .ok (.aload_n 0, 1) := by decide +kernel
theorem dX9_live_62 : decode cX9_live 62 = .ok (.getfield 12, 3) := by decide +kernel
theorem dX9_live_65 : decode cX9_live 65 = .ok (.aload_n 0, 1) := by decide +kernel
theorem dX9_live_66 : decode cX9_live 66 = .ok (.getfield 69, 3) := by decide +kernel
theorem dX9_live_69 : decode cX9_live 69 = .ok (.getfield 201, 3) := by decide +kernel
theorem dX9_live_72 : decode cX9_live 72 = .ok (.putfield 204, 3) := by decide +kernel
theorem dX9_live_75 : decode cX9_live 75 = .ok (.aload_n 0, 1) := by decide +kernel
theorem dX9_live_76 : decode cX9_live 76 = .ok (.getfield 69, 3) := by decide +kernel
theorem dX9_live_79 : decode cX9_live 79 = .ok (.getfield 185, 3) := by decide +kernel
theorem dX9_live_82 : decode cX9_live 82 = .ok (.iconst 0, 1) := by decide +kernel
theorem dX9_live_83 : decode cX9_live 83 = .ok (.iaload, 1) := by decide +kernel
theorem dX9_live_84 : decode cX9_live 84 = .ok (.ireturn, 1) := by decide +kernel
theorem dX9_soFar_0 : decode cX9_soFar 0 = .ok (.iload_n 1, 1) := by decide +kernel
theorem dX9_soFar_1 : decode cX9_soFar 1 = .ok (.iconst 5, 1) := by decide +kernel
theorem dX9_soFar_2 : decode cX9_soFar 2 = .ok (.if_icmp .ne 11, 3) := by decide +kernel
theorem dX9_soFar_5 : decode cX9_soFar 5 = .ok (.aload_n 0, 1) := by decide +kernel
theorem dX9_soFar_6 : decode cX9_soFar 6 = .ok (.getfield 12, 3) := by decide +kernel
theorem dX9_soFar_9 : decode cX9_soFar 9 = .ok (.getfield 198, 3) := by decide +kernel
theorem dX9_soFar_12 : decode cX9_soFar 12 = .ok (.ireturn, 1) := by decide +kernel
theorem dX9_soFar_13 : decode cX9_soFar 13 = .ok (.aload_n 0, 1) := by decide +kernel
theorem dX9_soFar_14 : decode cX9_soFar 14 = .ok (.aload_n 0, 1) := by decide +kernel
theorem dX9_soFar_15 : decode cX9_soFar 15 = .ok (.getfield 12, 3) := by decide +kernel
theorem dX9_soFar_18 : decode cX9_soFar 18 = .ok (.getfield 195, 3) := by decide +kernel
theorem dX9_soFar_21 : decode cX9_soFar 21 = .ok (.iload_n 1, 1) := by decide +kernel
theorem dX9_soFar_22 : decode cX9_soFar 22 = .ok (.invokevirtual 188, 3) := by decide +kernel
theorem dX9_soFar_25 : decode cX9_soFar 25 = .ok (.ifCond .eq 15, 3) := by decide +kernel
theorem dX9_soFar_28 : decode cX9_soFar 28 = .ok (.aload_n 0, 1) := by decide +kernel
theorem dX9_soFar_29 : decode cX9_soFar 29 = .ok (.getfield 12, 3) := by decide +kernel
theorem dX9_soFar_32 : decode cX9_soFar 32 = .ok (.getfield 195, 3) := by decide +kernel
theorem dX9_soFar_35 : decode cX9_soFar 35 = .ok (.iload_n 1, 1) := by decide +kernel
theorem dX9_soFar_36 : decode cX9_soFar 36 = .ok (.iaload, 1) := by decide +kernel
theorem dX9_soFar_37 : decode cX9_soFar 37 = .ok (.goto 4, 3) := by decide +kernel
theorem dX9_soFar_40 : decode cX9_soFar 40 = .ok (.iconst (-1), 1) := by decide +kernel
theorem dX9_soFar_41 : decode cX9_soFar 41 = .ok (.ireturn, 1) := by decide +kernel
theorem dX9_once_0 : decode cX9_once 0 = .ok (.aload_n 0, 1) := by decide +kernel
theorem dX9_once_1 : decode cX9_once 1 = .ok (.iload_n 1, 1) := by decide +kernel
theorem dX9_once_2 : decode cX9_once 2 = .ok (.invokevirtual 205, 3) := by decide +kernel
theorem dX9_once_5 : decode cX9_once 5 = .ok (.ifCond .eq 19, 3) := by decide +kernel
theorem dX9_once_8 : decode cX9_once 8 = .ok (.iload_n 2, 1) := by decide +kernel
theorem dX9_once_9 : decode cX9_once 9 = .ok (.iconst (-1), 1) := by decide +kernel
theorem dX9_once_10 : decode cX9_once 10 = .ok (.if_icmp .eq 17, 3) := by decide +kernel
theorem dX9_once_13 : decode cX9_once 13 = .ok (.aload_n 0, 1) := by decide +kernel
theorem dX9_once_14 : decode cX9_once 14 = .ok (.getfield 12, 3) := by decide +kernel
theorem dX9_once_17 : decode cX9_once 17 = .ok (.iload_n 2, 1) := by decide +kernel
theorem dX9_once_18 : decode cX9_once 18 = .ok (.invokevirtual 178, 3) := by decide +kernel
theorem dX9_once_21 : decode cX9_once 21 = .ok (.ifCond .ne 6, 3) := by decide +kernel
theorem dX9_once_24 : decode cX9_once 24 = .ok (.bipush (-3), 2) := by decide +kernel
theorem dX9_once_26 : decode cX9_once 26 = .ok (.ireturn, 1) := by decide +kernel
theorem dX9_once_27 : decode cX9_once 27 = .ok (.aload_n 0, 1) := by decide +kernel
theorem dX9_once_28 : decode cX9_once 28 = .ok (.getfield 78, 3) := by decide +kernel
theorem dX9_once_31 : decode cX9_once 31 = .ok (.iload_n 1, 1) := by decide +kernel
theorem dX9_once_32 : decode cX9_once 32 = .ok (.invokevirtual 208, 3) := by decide +kernel
theorem dX9_once_35 : decode cX9_once 35 = .ok (.aload_n 0, 1) := by decide +kernel
theorem dX9_once_36 : decode cX9_once 36 = .ok (.getfield 78, 3) := by decide +kernel
theorem dX9_once_39 : decode cX9_once 39 = .ok (.invokevirtual 211, 3) := by decide +kernel
theorem dX9_once_42 : decode cX9_once 42 = .ok (.ifCond .ne 6, 3) := by decide +kernel
theorem dX9_once_45 : decode cX9_once 45 = .ok (.bipush (-2), 2) := by decide +kernel
theorem dX9_once_47 : decode cX9_once 47 = .ok (.ireturn, 1) := by decide +kernel
theorem dX9_once_48 : decode cX9_once 48 = .ok (.iload_n 2, 1) := by decide +kernel
theorem dX9_once_49 : decode cX9_once 49 = .ok (.iconst (-1), 1) := by decide +kernel
theorem dX9_once_50 : decode cX9_once 50 = .ok (.if_icmp .ne 15, 3) := by decide +kernel
theorem dX9_once_53 : decode cX9_once 53 = .ok (.aload_n 0, 1) := by decide +kernel
theorem dX9_once_54 : decode cX9_once 54 = .ok (.getfield 78, 3) := by decide +kernel
theorem dX9_once_57 : decode cX9_once 57 = .ok (.iconst 0, 1) := by decide +kernel
theorem dX9_once_58 : decode cX9_once 58 = .ok (.iload_n 1, 1) := by decide +kernel
theorem dX9_once_59 : decode cX9_once 59 = .ok (.invokevirtual 214, 3) := by decide +kernel
theorem dX9_once_62 : decode cX9_once 62 = .ok (.goto 11, 3) := by decide +kernel
theorem dX9_once_65 : decode cX9_once 65 = .ok (.aload_n 0, 1) := by decide +kernel
theorem dX9_once_66 : decode cX9_once 66 = .ok (.getfield 78, 3) := by decide +kernel
theorem dX9_once_69 : decode cX9_once 69 = .ok (.iload_n 2, 1) := by decide +kernel
theorem dX9_once_70 : decode cX9_once 70 = .ok (.invokevirtual 218, 3) := by decide +kernel
theorem dX9_once_73 : decode cX9_once 73 = .ok (.ireturn, 1) := by decide +kernel
theorem dX9_bestWalk_0 : decode cX9_bestWalk 0 = .ok (.aload_n 0, 1) := by decide +kernel
theorem dX9_bestWalk_1 : decode cX9_bestWalk 1 = .ok (.getfield 12, 3) := by decide +kernel
theorem dX9_bestWalk_4 : decode cX9_bestWalk 4 = .ok (.iload_n 1, 1) := by decide +kernel
theorem dX9_bestWalk_5 : decode cX9_bestWalk 5 = .ok (.invokevirtual 178, 3) := by decide +kernel
theorem dX9_bestWalk_8 : decode cX9_bestWalk 8 = .ok (.ifCond .eq 23, 3) := by decide +kernel
theorem dX9_bestWalk_11 : decode cX9_bestWalk 11 = .ok (.aload_n 0, 1) := by decide +kernel
theorem dX9_bestWalk_12 : decode cX9_bestWalk 12 = .ok (.getfield 29, 3) := by decide +kernel
theorem dX9_bestWalk_15 : decode cX9_bestWalk 15 = .ok (.iload_n 1, 1) := by decide +kernel
theorem dX9_bestWalk_16 : decode cX9_bestWalk 16 = .ok (.invokevirtual 222, 3) := by decide +kernel
theorem dX9_bestWalk_19 : decode cX9_bestWalk 19 = .ok (.ifCond .ne 12, 3) := by decide +kernel
theorem dX9_bestWalk_22 : decode cX9_bestWalk 22 = .ok (.iload_n 2, 1) := by decide +kernel
theorem dX9_bestWalk_23 : decode cX9_bestWalk 23 = .ok (.ifCond .lt 8, 3) := by decide +kernel
theorem dX9_bestWalk_26 : decode cX9_bestWalk 26 = .ok (.iload_n 2, 1) := by decide +kernel
theorem dX9_bestWalk_27 : decode cX9_bestWalk 27 = .ok (.iconst 2, 1) := by decide +kernel
theorem dX9_bestWalk_28 : decode cX9_bestWalk 28 = .ok (.if_icmp .le 5, 3) := by decide +kernel
theorem dX9_bestWalk_31 : decode cX9_bestWalk 31 = .ok (.iconst (-1), 1) := by decide +kernel
theorem dX9_bestWalk_32 : decode cX9_bestWalk 32 = .ok (.ireturn, 1) := by decide +kernel
theorem dX9_bestWalk_33 : decode cX9_bestWalk 33 = .ok (.iconst (-1), 1) := by decide +kernel
theorem dX9_bestWalk_34 : decode cX9_bestWalk 34 = .ok (.istore_n 3, 1) := by decide +kernel
theorem dX9_bestWalk_35 : decode cX9_bestWalk 35 = .ok (.iconst (-1), 1) := by decide +kernel
theorem dX9_bestWalk_36 : decode cX9_bestWalk 36 = .ok (.istore 4, 2) := by decide +kernel
theorem dX9_bestWalk_38 : decode cX9_bestWalk 38 = .ok (.iconst 0, 1) := by decide +kernel
theorem dX9_bestWalk_39 : decode cX9_bestWalk 39 = .ok (.istore 5, 2) := by decide +kernel
theorem dX9_bestWalk_41 : decode cX9_bestWalk 41 = .ok (.iload 5, 2) := by decide +kernel
theorem dX9_bestWalk_43 : decode cX9_bestWalk 43 = .ok (.bipush 84, 2) := by decide +kernel
theorem dX9_bestWalk_45 : decode cX9_bestWalk 45 = .ok (.if_icmp .ge 44, 3) := by decide +kernel
theorem dX9_bestWalk_48 : decode cX9_bestWalk 48 = .ok (.aload_n 0, 1) := by decide +kernel
theorem dX9_bestWalk_49 : decode cX9_bestWalk 49 = .ok (.getfield 60, 3) := by decide +kernel
theorem dX9_bestWalk_52 : decode cX9_bestWalk 52 = .ok (.iload_n 1, 1) := by decide +kernel
theorem dX9_bestWalk_53 : decode cX9_bestWalk 53 = .ok (.iload 5, 2) := by decide +kernel
theorem dX9_bestWalk_55 : decode cX9_bestWalk 55 = .ok (.bipush 12, 2) := by decide +kernel
theorem dX9_bestWalk_57 : decode cX9_bestWalk 57 = .ok (.idiv, 1) := by decide +kernel
theorem dX9_bestWalk_58 : decode cX9_bestWalk 58 = .ok (.iload 5, 2) := by decide +kernel
theorem dX9_bestWalk_60 : decode cX9_bestWalk 60 = .ok (.bipush 12, 2) := by decide +kernel
theorem dX9_bestWalk_62 : decode cX9_bestWalk 62 = .ok (.irem, 1) := by decide +kernel
theorem dX9_bestWalk_63 : decode cX9_bestWalk 63 = .ok (.iconst 0, 1) := by decide +kernel
theorem dX9_bestWalk_64 : decode cX9_bestWalk 64 = .ok (.invokevirtual 225, 3) := by decide +kernel
theorem dX9_bestWalk_67 : decode cX9_bestWalk 67 = .ok (.istore 6, 2) := by decide +kernel
theorem dX9_bestWalk_69 : decode cX9_bestWalk 69 = .ok (.iload 6, 2) := by decide +kernel
theorem dX9_bestWalk_71 : decode cX9_bestWalk 71 = .ok (.iload 4, 2) := by decide +kernel
theorem dX9_bestWalk_73 : decode cX9_bestWalk 73 = .ok (.if_icmp .le 10, 3) := by decide +kernel
theorem dX9_bestWalk_76 : decode cX9_bestWalk 76 = .ok (.iload 6, 2) := by decide +kernel
theorem dX9_bestWalk_78 : decode cX9_bestWalk 78 = .ok (.istore 4, 2) := by decide +kernel
theorem dX9_bestWalk_80 : decode cX9_bestWalk 80 = .ok (.iload 5, 2) := by decide +kernel
theorem dX9_bestWalk_82 : decode cX9_bestWalk 82 = .ok (.istore_n 3, 1) := by decide +kernel
theorem dX9_bestWalk_83 : decode cX9_bestWalk 83 = .ok (.iinc 5 1, 3) := by decide +kernel
theorem dX9_bestWalk_86 : decode cX9_bestWalk 86 = .ok (.goto (-45), 3) := by decide +kernel
theorem dX9_bestWalk_89 : decode cX9_bestWalk 89 = .ok (.iload_n 2, 1) := by decide +kernel
theorem dX9_bestWalk_90 : decode cX9_bestWalk 90 = .ok (.iconst 2, 1) := by decide +kernel
theorem dX9_bestWalk_91 : decode cX9_bestWalk 91 = .ok (.if_icmp .ne 6, 3) := by decide +kernel
theorem dX9_bestWalk_94 : decode cX9_bestWalk 94 = .ok (.iload 4, 2) := by decide +kernel
theorem dX9_bestWalk_96 : decode cX9_bestWalk 96 = .ok (.ireturn, 1) := by decide +kernel
theorem dX9_bestWalk_97 : decode cX9_bestWalk 97 = .ok (.iload_n 2, 1) := by decide +kernel
theorem dX9_bestWalk_98 : decode cX9_bestWalk 98 = .ok (.ifCond .ne 10, 3) := by decide +kernel
theorem dX9_bestWalk_101 : decode cX9_bestWalk 101 = .ok (.iload_n 3, 1) := by decide +kernel
theorem dX9_bestWalk_102 : decode cX9_bestWalk 102 = .ok (.bipush 12, 2) := by decide +kernel
theorem dX9_bestWalk_104 : decode cX9_bestWalk 104 = .ok (.idiv, 1) := by decide +kernel
theorem dX9_bestWalk_105 : decode cX9_bestWalk 105 = .ok (.goto 7, 3) := by decide +kernel
theorem dX9_bestWalk_108 : decode cX9_bestWalk 108 = .ok (.iload_n 3, 1) := by decide +kernel
theorem dX9_bestWalk_109 : decode cX9_bestWalk 109 = .ok (.bipush 12, 2) := by decide +kernel
theorem dX9_bestWalk_111 : decode cX9_bestWalk 111 = .ok (.irem, 1) := by decide +kernel
theorem dX9_bestWalk_112 : decode cX9_bestWalk 112 = .ok (.ireturn, 1) := by decide +kernel
theorem dX9_candle_0 : decode cX9_candle 0 = .ok (.iload_n 1, 1) := by decide +kernel
theorem dX9_candle_1 : decode cX9_candle 1 = .ok (.invokestatic 103, 3) := by decide +kernel
theorem dX9_candle_4 : decode cX9_candle 4 = .ok (.ifCond .eq 20, 3) := by decide +kernel
theorem dX9_candle_7 : decode cX9_candle 7 = .ok (.aload_n 0, 1) := by decide +kernel
theorem dX9_candle_8 : decode cX9_candle 8 = .ok (.iload_n 2, 1) := by decide +kernel
theorem dX9_candle_9 : decode cX9_candle 9 = .ok (.invokevirtual 205, 3) := by decide +kernel
theorem dX9_candle_12 : decode cX9_candle 12 = .ok (.ifCond .eq 12, 3) := by decide +kernel
theorem dX9_candle_15 : decode cX9_candle 15 = .ok (.iload_n 3, 1) := by decide +kernel
theorem dX9_candle_16 : decode cX9_candle 16 = .ok (.ifCond .lt 8, 3) := by decide +kernel
theorem dX9_candle_19 : decode cX9_candle 19 = .ok (.iload_n 3, 1) := by decide +kernel
theorem dX9_candle_20 : decode cX9_candle 20 = .ok (.iconst 3, 1) := by decide +kernel
theorem dX9_candle_21 : decode cX9_candle 21 = .ok (.if_icmp .le 5, 3) := by decide +kernel
theorem dX9_candle_24 : decode cX9_candle 24 = .ok (.iconst (-1), 1) := by decide +kernel
theorem dX9_candle_25 : decode cX9_candle 25 = .ok (.ireturn, 1) := by decide +kernel
theorem dX9_candle_26 : decode cX9_candle 26 = .ok (.iconst 0, 1) := by decide +kernel
theorem dX9_candle_27 : decode cX9_candle 27 = .ok (.istore 4, 2) := by decide +kernel
theorem dX9_candle_29 : decode cX9_candle 29 = .ok (.iconst (-1), 1) := by decide +kernel
theorem dX9_candle_30 : decode cX9_candle 30 = .ok (.istore 5, 2) := by decide +kernel
theorem dX9_candle_32 : decode cX9_candle 32 = .ok (.iconst 0, 1) := by decide +kernel
theorem dX9_candle_33 : decode cX9_candle 33 = .ok (.istore 6, 2) := by decide +kernel
theorem dX9_candle_35 : decode cX9_candle 35 = .ok (.iconst 0, 1) := by decide +kernel
theorem dX9_candle_36 : decode cX9_candle 36 = .ok (.istore 7, 2) := by decide +kernel
theorem dX9_candle_38 : decode cX9_candle 38 = .ok (.iload 7, 2) := by decide +kernel
theorem dX9_candle_40 : decode cX9_candle 40 = .ok (.bipush 10, 2) := by decide +kernel
theorem dX9_candle_42 : decode cX9_candle 42 = .ok (.if_icmp .ge 111, 3) := by decide +kernel
theorem dX9_candle_45 : decode cX9_candle 45 = .ok (.aload_n 0, 1) := by decide +kernel
theorem dX9_candle_46 : decode cX9_candle 46 = .ok (.getfield 12, 3) := by decide +kernel
theorem dX9_candle_49 : decode cX9_candle 49 = .ok (.iload 7, 2) := by decide +kernel
theorem dX9_candle_51 : decode cX9_candle 51 = .ok (.invokevirtual 178, 3) := by decide +kernel
theorem dX9_candle_54 : decode cX9_candle 54 = .ok (.ifCond .eq 23, 3) := by decide +kernel
theorem dX9_candle_57 : decode cX9_candle 57 = .ok (.aload_n 0, 1) := by decide +kernel
theorem dX9_candle_58 : decode cX9_candle 58 = .ok (.getfield 60, 3) := by decide +kernel
theorem dX9_candle_61 : decode cX9_candle 61 = .ok (.iload 7, 2) := by decide +kernel
theorem dX9_candle_63 : decode cX9_candle 63 = .ok (.iload_n 1, 1) := by decide +kernel
theorem dX9_candle_64 : decode cX9_candle 64 = .ok (.aload_n 0, 1) := by decide +kernel
theorem dX9_candle_65 : decode cX9_candle 65 = .ok (.getfield 12, 3) := by decide +kernel
theorem dX9_candle_68 : decode cX9_candle 68 = .ok (.getfield 229, 3) := by decide +kernel
theorem dX9_candle_71 : decode cX9_candle 71 = .ok (.invokevirtual 232, 3) := by decide +kernel
theorem dX9_candle_74 : decode cX9_candle 74 = .ok (.goto 4, 3) := by decide +kernel
theorem dX9_candle_77 : decode cX9_candle 77 = .ok (.iconst 0, 1) := by decide +kernel
theorem dX9_candle_78 : decode cX9_candle 78 = .ok (.istore 8, 2) := by decide +kernel
theorem dX9_candle_80 : decode cX9_candle 80 = .ok (.iconst 0, 1) := by decide +kernel
theorem dX9_candle_81 : decode cX9_candle 81 = .ok (.istore 9, 2) := by decide +kernel
theorem dX9_candle_83 : decode cX9_candle 83 = .ok (.iload 9, 2) := by decide +kernel
theorem dX9_candle_85 : decode cX9_candle 85 = .ok (.bipush 12, 2) := by decide +kernel
theorem dX9_candle_87 : decode cX9_candle 87 = .ok (.if_icmp .ge 60, 3) := by decide +kernel
theorem dX9_candle_90 : decode cX9_candle 90 = .ok (.aload_n 0, 1) := by decide +kernel
theorem dX9_candle_91 : decode cX9_candle 91 = .ok (.getfield 60, 3) := by decide +kernel
theorem dX9_candle_94 : decode cX9_candle 94 = .ok (.iload 7, 2) := by decide +kernel
theorem dX9_candle_96 : decode cX9_candle 96 = .ok (.iload_n 1, 1) := by decide +kernel
theorem dX9_candle_97 : decode cX9_candle 97 = .ok (.iload 9, 2) := by decide +kernel
theorem dX9_candle_99 : decode cX9_candle 99 = .ok (.iload 8, 2) := by decide +kernel
theorem dX9_candle_101 : decode cX9_candle 101 = .ok (.invokevirtual 236, 3) := by decide +kernel
theorem dX9_candle_104 : decode cX9_candle 104 = .ok (.iload_n 2, 1) := by decide +kernel
theorem dX9_candle_105 : decode cX9_candle 105 = .ok (.if_icmp .ne 36, 3) := by decide +kernel
theorem dX9_candle_108 : decode cX9_candle 108 = .ok (.iinc 4 1, 3) := by decide +kernel
theorem dX9_candle_111 : decode cX9_candle 111 = .ok (.iload 5, 2) := by decide +kernel
theorem dX9_candle_113 : decode cX9_candle 113 = .ok (.iconst (-1), 1) := by decide +kernel
theorem dX9_candle_114 : decode cX9_candle 114 = .ok (.if_icmp .ne 14, 3) := by decide +kernel
theorem dX9_candle_117 : decode cX9_candle 117 = .ok (.iload 7, 2) := by decide +kernel
theorem dX9_candle_119 : decode cX9_candle 119 = .ok (.bipush 12, 2) := by decide +kernel
theorem dX9_candle_121 : decode cX9_candle 121 = .ok (.imul, 1) := by decide +kernel
theorem dX9_candle_122 : decode cX9_candle 122 = .ok (.iload 9, 2) := by decide +kernel
theorem dX9_candle_124 : decode cX9_candle 124 = .ok (.iadd, 1) := by decide +kernel
theorem dX9_candle_125 : decode cX9_candle 125 = .ok (.goto 5, 3) := by decide +kernel
theorem dX9_candle_128 : decode cX9_candle 128 = .ok (.iload 5, 2) := by decide +kernel
theorem dX9_candle_130 : decode cX9_candle 130 = .ok (.istore 5, 2) := by decide +kernel
theorem dX9_candle_132 : decode cX9_candle 132 = .ok (.iload 6, 2) := by decide +kernel
theorem dX9_candle_134 : decode cX9_candle 134 = .ok (.iconst 1, 1) := by decide +kernel
theorem dX9_candle_135 : decode cX9_candle 135 = .ok (.iload 7, 2) := by decide +kernel
theorem dX9_candle_137 : decode cX9_candle 137 = .ok (.ishl, 1) := by decide +kernel
theorem dX9_candle_138 : decode cX9_candle 138 = .ok (.ior, 1) := by decide +kernel
theorem dX9_candle_139 : decode cX9_candle 139 = .ok (.istore 6, 2) := by decide +kernel
theorem dX9_candle_141 : decode cX9_candle 141 = .ok (.iinc 9 1, 3) := by decide +kernel
theorem dX9_candle_144 : decode cX9_candle 144 = .ok (.goto (-61), 3) := by decide +kernel
theorem dX9_candle_147 : decode cX9_candle 147 = .ok (.iinc 7 1, 3) := by decide +kernel
theorem dX9_candle_150 : decode cX9_candle 150 = .ok (.goto (-112), 3) := by decide +kernel
theorem dX9_candle_153 : decode cX9_candle 153 = .ok (.iload_n 3, 1) := by decide +kernel
theorem dX9_candle_154 : decode cX9_candle 154 = .ok (.ifCond .eq 8, 3) := by decide +kernel
theorem dX9_candle_157 : decode cX9_candle 157 = .ok (.iload_n 3, 1) := by decide +kernel
theorem dX9_candle_158 : decode cX9_candle 158 = .ok (.iconst 3, 1) := by decide +kernel
theorem dX9_candle_159 : decode cX9_candle 159 = .ok (.if_icmp .ne 15, 3) := by decide +kernel
theorem dX9_candle_162 : decode cX9_candle 162 = .ok (.iload_n 3, 1) := by decide +kernel
theorem dX9_candle_163 : decode cX9_candle 163 = .ok (.ifCond .ne 8, 3) := by decide +kernel
theorem dX9_candle_166 : decode cX9_candle 166 = .ok (.iload 4, 2) := by decide +kernel
theorem dX9_candle_168 : decode cX9_candle 168 = .ok (.goto 5, 3) := by decide +kernel
theorem dX9_candle_171 : decode cX9_candle 171 = .ok (.iload 6, 2) := by decide +kernel
theorem dX9_candle_173 : decode cX9_candle 173 = .ok (.ireturn, 1) := by decide +kernel
theorem dX9_candle_174 : decode cX9_candle 174 = .ok (.iload 5, 2) := by decide +kernel
theorem dX9_candle_176 : decode cX9_candle 176 = .ok (.iconst (-1), 1) := by decide +kernel
theorem dX9_candle_177 : decode cX9_candle 177 = .ok (.if_icmp .ne 6, 3) := by decide +kernel
theorem dX9_candle_180 : decode cX9_candle 180 = .ok (.bipush (-2), 2) := by decide +kernel
theorem dX9_candle_182 : decode cX9_candle 182 = .ok (.ireturn, 1) := by decide +kernel
theorem dX9_candle_183 : decode cX9_candle 183 = .ok (.iload_n 3, 1) := by decide +kernel
theorem dX9_candle_184 : decode cX9_candle 184 = .ok (.iconst 1, 1) := by decide +kernel
theorem dX9_candle_185 : decode cX9_candle 185 = .ok (.if_icmp .ne 11, 3) := by decide +kernel
theorem dX9_candle_188 : decode cX9_candle 188 = .ok (.iload 5, 2) := by decide +kernel
theorem dX9_candle_190 : decode cX9_candle 190 = .ok (.bipush 12, 2) := by decide +kernel
theorem dX9_candle_192 : decode cX9_candle 192 = .ok (.idiv, 1) := by decide +kernel
theorem dX9_candle_193 : decode cX9_candle 193 = .ok (.goto 8, 3) := by decide +kernel
theorem dX9_candle_196 : decode cX9_candle 196 = .ok (.iload 5, 2) := by decide +kernel
theorem dX9_candle_198 : decode cX9_candle 198 = .ok (.bipush 12, 2) := by decide +kernel
theorem dX9_candle_200 : decode cX9_candle 200 = .ok (.irem, 1) := by decide +kernel
theorem dX9_candle_201 : decode cX9_candle 201 = .ok (.ireturn, 1) := by decide +kernel
theorem dX9_draughts_0 : decode cX9_draughts 0 = .ok (.iconst 0, 1) := by decide +kernel
theorem dX9_draughts_1 : decode cX9_draughts 1 = .ok (.istore_n 1, 1) := by decide +kernel
theorem dX9_draughts_2 : decode cX9_draughts 2 = .ok (.iconst 0, 1) := by decide +kernel
theorem dX9_draughts_3 : decode cX9_draughts 3 = .ok (.istore_n 2, 1) := by decide +kernel
theorem dX9_draughts_4 : decode cX9_draughts 4 = .ok (.iload_n 2, 1) := by decide +kernel
theorem dX9_draughts_5 : decode cX9_draughts 5 = .ok (.bipush 10, 2) := by decide +kernel
theorem dX9_draughts_7 : decode cX9_draughts 7 = .ok (.if_icmp .ge 66, 3) := by decide +kernel
theorem dX9_draughts_10 : decode cX9_draughts 10 = .ok (.aload_n 0, 1) := by decide +kernel
theorem dX9_draughts_11 : decode cX9_draughts 11 = .ok (.getfield 12, 3) := by decide +kernel
theorem dX9_draughts_14 : decode cX9_draughts 14 = .ok (.getfield 195, 3) := by decide +kernel
theorem dX9_draughts_17 : decode cX9_draughts 17 = .ok (.bipush 30, 2) := by decide +kernel
theorem dX9_draughts_19 : decode cX9_draughts 19 = .ok (.iload_n 2, 1) := by decide +kernel
theorem dX9_draughts_20 : decode cX9_draughts 20 = .ok (.iadd, 1) := by decide +kernel
theorem dX9_draughts_21 : decode cX9_draughts 21 = .ok (.iaload, 1) := by decide +kernel
theorem dX9_draughts_22 : decode cX9_draughts 22 = .ok (.ifCond .le 7, 3) := by decide +kernel
theorem dX9_draughts_25 : decode cX9_draughts 25 = .ok (.iconst 1, 1) := by decide +kernel
theorem dX9_draughts_26 : decode cX9_draughts 26 = .ok (.goto 4, 3) := by decide +kernel
theorem dX9_draughts_29 : decode cX9_draughts 29 = .ok (.iconst 0, 1) := by decide +kernel
theorem dX9_draughts_30 : decode cX9_draughts 30 = .ok (.istore_n 3, 1) := by decide +kernel
theorem dX9_draughts_31 : decode cX9_draughts 31 = .ok (.aload_n 0, 1) := by decide +kernel
theorem dX9_draughts_32 : decode cX9_draughts 32 = .ok (.getfield 12, 3) := by decide +kernel
theorem dX9_draughts_35 : decode cX9_draughts 35 = .ok (.iload_n 2, 1) := by decide +kernel
theorem dX9_draughts_36 : decode cX9_draughts 36 = .ok (.invokevirtual 178, 3) := by decide +kernel
theorem dX9_draughts_39 : decode cX9_draughts 39 = .ok (.ifCond .eq 28, 3) := by decide +kernel
theorem dX9_draughts_42 : decode cX9_draughts 42 = .ok (.iload_n 3, 1) := by decide +kernel
theorem dX9_draughts_43 : decode cX9_draughts 43 = .ok (.ifCond .eq 24, 3) := by decide +kernel
theorem dX9_draughts_46 : decode cX9_draughts 46 = .ok (.aload_n 0, 1) := by decide +kernel
theorem dX9_draughts_47 : decode cX9_draughts 47 = .ok (.getfield 12, 3) := by decide +kernel
theorem dX9_draughts_50 : decode cX9_draughts 50 = .ok (.getfield 195, 3) := by decide +kernel
theorem dX9_draughts_53 : decode cX9_draughts 53 = .ok (.bipush 20, 2) := by decide +kernel
theorem dX9_draughts_55 : decode cX9_draughts 55 = .ok (.iload_n 2, 1) := by decide +kernel
theorem dX9_draughts_56 : decode cX9_draughts 56 = .ok (.iadd, 1) := by decide +kernel
theorem dX9_draughts_57 : decode cX9_draughts 57 = .ok (.iaload, 1) := by decide +kernel
theorem dX9_draughts_58 : decode cX9_draughts 58 = .ok (.ifCond .ne 9, 3) := by decide +kernel
theorem dX9_draughts_61 : decode cX9_draughts 61 = .ok (.iload_n 1, 1) := by decide +kernel
theorem dX9_draughts_62 : decode cX9_draughts 62 = .ok (.iconst 1, 1) := by decide +kernel
theorem dX9_draughts_63 : decode cX9_draughts 63 = .ok (.iload_n 2, 1) := by decide +kernel
theorem dX9_draughts_64 : decode cX9_draughts 64 = .ok (.ishl, 1) := by decide +kernel
theorem dX9_draughts_65 : decode cX9_draughts 65 = .ok (.ior, 1) := by decide +kernel
theorem dX9_draughts_66 : decode cX9_draughts 66 = .ok (.istore_n 1, 1) := by decide +kernel
theorem dX9_draughts_67 : decode cX9_draughts 67 = .ok (.iinc 2 1, 3) := by decide +kernel
theorem dX9_draughts_70 : decode cX9_draughts 70 = .ok (.goto (-66), 3) := by decide +kernel
theorem dX9_draughts_73 : decode cX9_draughts 73 = .ok (.iload_n 1, 1) := by decide +kernel
theorem dX9_draughts_74 : decode cX9_draughts 74 = .ok (.ireturn, 1) := by decide +kernel
theorem dX9_mended_0 : decode cX9_mended 0 = .ok (.iload_n 2, 1) := by decide +kernel
theorem dX9_mended_1 : decode cX9_mended 1 = .ok (.ifCond .ne 20, 3) := by decide +kernel
theorem dX9_mended_4 : decode cX9_mended 4 = .ok (.aload_n 0, 1) := by decide +kernel
theorem dX9_mended_5 : decode cX9_mended 5 = .ok (.getfield 12, 3) := by decide +kernel
theorem dX9_mended_8 : decode cX9_mended 8 = .ok (.iload_n 1, 1) := by decide +kernel
theorem dX9_mended_9 : decode cX9_mended 9 = .ok (.invokevirtual 178, 3) := by decide +kernel
theorem dX9_mended_12 : decode cX9_mended 12 = .ok (.ifCond .eq 9, 3) := by decide +kernel
theorem dX9_mended_15 : decode cX9_mended 15 = .ok (.aload_n 0, 1) := by decide +kernel
theorem dX9_mended_16 : decode cX9_mended 16 = .ok (.iload_n 1, 1) := by decide +kernel
theorem dX9_mended_17 : decode cX9_mended 17 = .ok (.invokevirtual 239, 3) := by decide +kernel
theorem dX9_mended_20 : decode cX9_mended 20 = .ok (.ireturn, 1) := by decide +kernel
theorem dX9_mended_21 : decode cX9_mended 21 = .ok (.iload_n 2, 1) := by decide +kernel
theorem dX9_mended_22 : decode cX9_mended 22 = .ok (.iconst 1, 1) := by decide +kernel
theorem dX9_mended_23 : decode cX9_mended 23 = .ok (.if_icmp .eq 11, 3) := by decide +kernel
theorem dX9_mended_26 : decode cX9_mended 26 = .ok (.iload_n 2, 1) := by decide +kernel
theorem dX9_mended_27 : decode cX9_mended 27 = .ok (.iconst 2, 1) := by decide +kernel
theorem dX9_mended_28 : decode cX9_mended 28 = .ok (.if_icmp .eq 6, 3) := by decide +kernel
theorem dX9_mended_31 : decode cX9_mended 31 = .ok (.ldc 242, 2) := by decide +kernel
theorem dX9_mended_33 : decode cX9_mended 33 = .ok (.ireturn, 1) := by decide +kernel
theorem dX9_mended_34 : decode cX9_mended 34 = .ok (.ldc 242, 2) := by decide +kernel
theorem dX9_mended_36 : decode cX9_mended 36 = .ok (.istore_n 3, 1) := by decide +kernel
theorem dX9_mended_37 : decode cX9_mended 37 = .ok (.ldc 242, 2) := by decide +kernel
theorem dX9_mended_39 : decode cX9_mended 39 = .ok (.istore 4, 2) := by decide +kernel
theorem dX9_mended_41 : decode cX9_mended 41 = .ok (.iconst 0, 1) := by decide +kernel
theorem dX9_mended_42 : decode cX9_mended 42 = .ok (.istore 5, 2) := by decide +kernel
theorem dX9_mended_44 : decode cX9_mended 44 = .ok (.iload 5, 2) := by decide +kernel
theorem dX9_mended_46 : decode cX9_mended 46 = .ok (.bipush 10, 2) := by decide +kernel
theorem dX9_mended_48 : decode cX9_mended 48 = .ok (.if_icmp .ge 48, 3) := by decide +kernel
theorem dX9_mended_51 : decode cX9_mended 51 = .ok (.aload_n 0, 1) := by decide +kernel
theorem dX9_mended_52 : decode cX9_mended 52 = .ok (.getfield 12, 3) := by decide +kernel
theorem dX9_mended_55 : decode cX9_mended 55 = .ok (.iload 5, 2) := by decide +kernel
theorem dX9_mended_57 : decode cX9_mended 57 = .ok (.invokevirtual 178, 3) := by decide +kernel
theorem dX9_mended_60 : decode cX9_mended 60 = .ok (.ifCond .eq 12, 3) := by decide +kernel
theorem dX9_mended_63 : decode cX9_mended 63 = .ok (.aload_n 0, 1) := by decide +kernel
theorem dX9_mended_64 : decode cX9_mended 64 = .ok (.iload 5, 2) := by decide +kernel
theorem dX9_mended_66 : decode cX9_mended 66 = .ok (.invokevirtual 239, 3) := by decide +kernel
theorem dX9_mended_69 : decode cX9_mended 69 = .ok (.goto 5, 3) := by decide +kernel
theorem dX9_mended_72 : decode cX9_mended 72 = .ok (.ldc 242, 2) := by decide +kernel
theorem dX9_mended_74 : decode cX9_mended 74 = .ok (.istore 6, 2) := by decide +kernel
theorem dX9_mended_76 : decode cX9_mended 76 = .ok (.iload 6, 2) := by decide +kernel
theorem dX9_mended_78 : decode cX9_mended 78 = .ok (.iload 4, 2) := by decide +kernel
theorem dX9_mended_80 : decode cX9_mended 80 = .ok (.if_icmp .le 10, 3) := by decide +kernel
theorem dX9_mended_83 : decode cX9_mended 83 = .ok (.iload 6, 2) := by decide +kernel
theorem dX9_mended_85 : decode cX9_mended 85 = .ok (.istore 4, 2) := by decide +kernel
theorem dX9_mended_87 : decode cX9_mended 87 = .ok (.iload 5, 2) := by decide +kernel
theorem dX9_mended_89 : decode cX9_mended 89 = .ok (.istore_n 3, 1) := by decide +kernel
theorem dX9_mended_90 : decode cX9_mended 90 = .ok (.iinc 5 1, 3) := by decide +kernel
theorem dX9_mended_93 : decode cX9_mended 93 = .ok (.goto (-49), 3) := by decide +kernel
theorem dX9_mended_96 : decode cX9_mended 96 = .ok (.iload_n 2, 1) := by decide +kernel
theorem dX9_mended_97 : decode cX9_mended 97 = .ok (.iconst 1, 1) := by decide +kernel
theorem dX9_mended_98 : decode cX9_mended 98 = .ok (.if_icmp .ne 7, 3) := by decide +kernel
theorem dX9_mended_101 : decode cX9_mended 101 = .ok (.iload_n 3, 1) := by decide +kernel
theorem dX9_mended_102 : decode cX9_mended 102 = .ok (.goto 5, 3) := by decide +kernel
theorem dX9_mended_105 : decode cX9_mended 105 = .ok (.iload 4, 2) := by decide +kernel
theorem dX9_mended_107 : decode cX9_mended 107 = .ok (.ireturn, 1) := by decide +kernel
theorem dX9_mend_0 : decode cX9_mend 0 = .ok (.aload_n 0, 1) := by decide +kernel
theorem dX9_mend_1 : decode cX9_mend 1 = .ok (.getfield 12, 3) := by decide +kernel
theorem dX9_mend_4 : decode cX9_mend 4 = .ok (.iload_n 1, 1) := by decide +kernel
theorem dX9_mend_5 : decode cX9_mend 5 = .ok (.invokevirtual 178, 3) := by decide +kernel
theorem dX9_mend_8 : decode cX9_mend 8 = .ok (.ifCond .eq 17, 3) := by decide +kernel
theorem dX9_mend_11 : decode cX9_mend 11 = .ok (.aload_n 0, 1) := by decide +kernel
theorem dX9_mend_12 : decode cX9_mend 12 = .ok (.getfield 12, 3) := by decide +kernel
theorem dX9_mend_15 : decode cX9_mend 15 = .ok (.getfield 243, 3) := by decide +kernel
theorem dX9_mend_18 : decode cX9_mend 18 = .ok (.iload_n 1, 1) := by decide +kernel
theorem dX9_mend_19 : decode cX9_mend 19 = .ok (.iaload, 1) := by decide +kernel
theorem dX9_mend_20 : decode cX9_mend 20 = .ok (.bipush 9, 2) := by decide +kernel
theorem dX9_mend_22 : decode cX9_mend 22 = .ok (.if_icmp .lt 5, 3) := by decide +kernel
theorem dX9_mend_25 : decode cX9_mend 25 = .ok (.iconst (-1), 1) := by decide +kernel
theorem dX9_mend_26 : decode cX9_mend 26 = .ok (.ireturn, 1) := by decide +kernel
theorem dX9_mend_27 : decode cX9_mend 27 = .ok (.aload_n 0, 1) := by decide +kernel
theorem dX9_mend_28 : decode cX9_mend 28 = .ok (.getfield 12, 3) := by decide +kernel
theorem dX9_mend_31 : decode cX9_mend 31 = .ok (.getfield 243, 3) := by decide +kernel
theorem dX9_mend_34 : decode cX9_mend 34 = .ok (.iload_n 1, 1) := by decide +kernel
theorem dX9_mend_35 : decode cX9_mend 35 = .ok (.dup2, 1) := by decide +kernel
theorem dX9_mend_36 : decode cX9_mend 36 = .ok (.iaload, 1) := by decide +kernel
theorem dX9_mend_37 : decode cX9_mend 37 = .ok (.iconst 1, 1) := by decide +kernel
theorem dX9_mend_38 : decode cX9_mend 38 = .ok (.iadd, 1) := by decide +kernel
theorem dX9_mend_39 : decode cX9_mend 39 = .ok (.iastore, 1) := by decide +kernel
theorem dX9_mend_40 : decode cX9_mend 40 = .ok (.aload_n 0, 1) := by decide +kernel
theorem dX9_mend_41 : decode cX9_mend 41 = .ok (.getfield 12, 3) := by decide +kernel
theorem dX9_mend_44 : decode cX9_mend 44 = .ok (.getfield 243, 3) := by decide +kernel
theorem dX9_mend_47 : decode cX9_mend 47 = .ok (.iload_n 1, 1) := by decide +kernel
theorem dX9_mend_48 : decode cX9_mend 48 = .ok (.iaload, 1) := by decide +kernel
theorem dX9_mend_49 : decode cX9_mend 49 = .ok (.ireturn, 1) := by decide +kernel
theorem dX9_shared_0 : decode cX9_shared 0 = .ok (.iload_n 1, 1) := by decide +kernel
theorem dX9_shared_1 : decode cX9_shared 1 = .ok (.invokestatic 103, 3) := by decide +kernel
theorem dX9_shared_4 : decode cX9_shared 4 = .ok (.ifCond .eq 12, 3) := by decide +kernel
theorem dX9_shared_7 : decode cX9_shared 7 = .ok (.iload_n 2, 1) := by decide +kernel
theorem dX9_shared_8 : decode cX9_shared 8 = .ok (.ifCond .eq 10, 3) := by decide +kernel
theorem dX9_shared_11 : decode cX9_shared 11 = .ok (.iload_n 2, 1) := by decide +kernel
theorem dX9_shared_12 : decode cX9_shared 12 = .ok (.iconst 1, 1) := by decide +kernel
theorem dX9_shared_13 : decode cX9_shared 13 = .ok (.if_icmp .eq 5, 3) := by decide +kernel
theorem dX9_shared_16 : decode cX9_shared 16 = .ok (.iconst (-1), 1) := by decide +kernel
theorem dX9_shared_17 : decode cX9_shared 17 = .ok (.ireturn, 1) := by decide +kernel
theorem dX9_shared_18 : decode cX9_shared 18 = .ok (.aload_n 0, 1) := by decide +kernel
theorem dX9_shared_19 : decode cX9_shared 19 = .ok (.iload_n 1, 1) := by decide +kernel
theorem dX9_shared_20 : decode cX9_shared 20 = .ok (.invokevirtual 246, 3) := by decide +kernel
theorem dX9_shared_23 : decode cX9_shared 23 = .ok (.istore_n 3, 1) := by decide +kernel
theorem dX9_shared_24 : decode cX9_shared 24 = .ok (.iconst 0, 1) := by decide +kernel
theorem dX9_shared_25 : decode cX9_shared 25 = .ok (.istore 4, 2) := by decide +kernel
theorem dX9_shared_27 : decode cX9_shared 27 = .ok (.iconst 0, 1) := by decide +kernel
theorem dX9_shared_28 : decode cX9_shared 28 = .ok (.istore 5, 2) := by decide +kernel
theorem dX9_shared_30 : decode cX9_shared 30 = .ok (.iload 5, 2) := by decide +kernel
theorem dX9_shared_32 : decode cX9_shared 32 = .ok (.aload_n 0, 1) := by decide +kernel
theorem dX9_shared_33 : decode cX9_shared 33 = .ok (.getfield 12, 3) := by decide +kernel
theorem dX9_shared_36 : decode cX9_shared 36 = .ok (.getfield 110, 3) := by decide +kernel
theorem dX9_shared_39 : decode cX9_shared 39 = .ok (.if_icmp .ge 55, 3) := by decide +kernel
theorem dX9_shared_42 : decode cX9_shared 42 = .ok (.aload_n 0, 1) := by decide +kernel
theorem dX9_shared_43 : decode cX9_shared 43 = .ok (.invokevirtual 249, 3) := by decide +kernel
theorem dX9_shared_46 : decode cX9_shared 46 = .ok (.istore 6, 2) := by decide +kernel
theorem dX9_shared_48 : decode cX9_shared 48 = .ok (.aload_n 0, 1) := by decide +kernel
theorem dX9_shared_49 : decode cX9_shared 49 = .ok (.getfield 89, 3) := by decide +kernel
theorem dX9_shared_52 : decode cX9_shared 52 = .ok (.iload 6, 2) := by decide +kernel
theorem dX9_shared_54 : decode cX9_shared 54 = .ok (.iaload, 1) := by decide +kernel
theorem dX9_shared_55 : decode cX9_shared 55 = .ok (.ifCond .gt 6, 3) := by decide +kernel
theorem dX9_shared_58 : decode cX9_shared 58 = .ok (.goto 36, 3) := by decide +kernel
theorem dX9_shared_61 : decode cX9_shared 61 = .ok (.iload 4, 2) := by decide +kernel
theorem dX9_shared_63 : decode cX9_shared 63 = .ok (.iconst 1, 1) := by decide +kernel
theorem dX9_shared_64 : decode cX9_shared 64 = .ok (.iload 6, 2) := by decide +kernel
theorem dX9_shared_66 : decode cX9_shared 66 = .ok (.ishl, 1) := by decide +kernel
theorem dX9_shared_67 : decode cX9_shared 67 = .ok (.ior, 1) := by decide +kernel
theorem dX9_shared_68 : decode cX9_shared 68 = .ok (.istore 4, 2) := by decide +kernel
theorem dX9_shared_70 : decode cX9_shared 70 = .ok (.iload_n 3, 1) := by decide +kernel
theorem dX9_shared_71 : decode cX9_shared 71 = .ok (.aload_n 0, 1) := by decide +kernel
theorem dX9_shared_72 : decode cX9_shared 72 = .ok (.getfield 89, 3) := by decide +kernel
theorem dX9_shared_75 : decode cX9_shared 75 = .ok (.iload 6, 2) := by decide +kernel
theorem dX9_shared_77 : decode cX9_shared 77 = .ok (.iaload, 1) := by decide +kernel
theorem dX9_shared_78 : decode cX9_shared 78 = .ok (.iadd, 1) := by decide +kernel
theorem dX9_shared_79 : decode cX9_shared 79 = .ok (.istore_n 3, 1) := by decide +kernel
theorem dX9_shared_80 : decode cX9_shared 80 = .ok (.aload_n 0, 1) := by decide +kernel
theorem dX9_shared_81 : decode cX9_shared 81 = .ok (.getfield 89, 3) := by decide +kernel
theorem dX9_shared_84 : decode cX9_shared 84 = .ok (.iload 6, 2) := by decide +kernel
theorem dX9_shared_86 : decode cX9_shared 86 = .ok (.iconst 0, 1) := by decide +kernel
theorem dX9_shared_87 : decode cX9_shared 87 = .ok (.iastore, 1) := by decide +kernel
theorem dX9_shared_88 : decode cX9_shared 88 = .ok (.iinc 5 1, 3) := by decide +kernel
theorem dX9_shared_91 : decode cX9_shared 91 = .ok (.goto (-61), 3) := by decide +kernel
theorem dX9_shared_94 : decode cX9_shared 94 = .ok (.iload_n 2, 1) := by decide +kernel
theorem dX9_shared_95 : decode cX9_shared 95 = .ok (.ifCond .ne 8, 3) := by decide +kernel
theorem dX9_shared_98 : decode cX9_shared 98 = .ok (.iload 4, 2) := by decide +kernel
theorem dX9_shared_100 : decode cX9_shared 100 = .ok (.goto 4, 3) := by decide +kernel
theorem dX9_shared_103 : decode cX9_shared 103 = .ok (.iload_n 3, 1) := by decide +kernel
theorem dX9_shared_104 : decode cX9_shared 104 = .ok (.ireturn, 1) := by decide +kernel
theorem dX9_july_0 : decode cX9_july 0 = .ok (.iload_n 1, 1) := by decide +kernel
theorem dX9_july_1 : decode cX9_july 1 = .ok (.iconst 1, 1) := by decide +kernel
theorem dX9_july_2 : decode cX9_july 2 = .ok (.if_icmp .lt 9, 3) := by decide +kernel
theorem dX9_july_5 : decode cX9_july 5 = .ok (.iload_n 1, 1) := by decide +kernel
theorem dX9_july_6 : decode cX9_july 6 = .ok (.bipush 8, 2) := by decide +kernel
theorem dX9_july_8 : decode cX9_july 8 = .ok (.if_icmp .le 5, 3) := by decide +kernel
theorem dX9_july_11 : decode cX9_july 11 = .ok (.iconst (-1), 1) := by decide +kernel
theorem dX9_july_12 : decode cX9_july 12 = .ok (.ireturn, 1) := by decide +kernel
theorem dX9_july_13 : decode cX9_july 13 = .ok (.iload_n 2, 1) := by decide +kernel
theorem dX9_july_14 : decode cX9_july 14 = .ok (.iconst (-1), 1) := by decide +kernel
theorem dX9_july_15 : decode cX9_july 15 = .ok (.if_icmp .eq 15, 3) := by decide +kernel
theorem dX9_july_18 : decode cX9_july 18 = .ok (.iload_n 2, 1) := by decide +kernel
theorem dX9_july_19 : decode cX9_july 19 = .ok (.ifCond .lt 8, 3) := by decide +kernel
theorem dX9_july_22 : decode cX9_july 22 = .ok (.iload_n 2, 1) := by decide +kernel
theorem dX9_july_23 : decode cX9_july 23 = .ok (.iload_n 1, 1) := by decide +kernel
theorem dX9_july_24 : decode cX9_july 24 = .ok (.if_icmp .lt 6, 3) := by decide +kernel
theorem dX9_july_27 : decode cX9_july 27 = .ok (.bipush (-2), 2) := by decide +kernel
theorem dX9_july_29 : decode cX9_july 29 = .ok (.ireturn, 1) := by decide +kernel
theorem dX9_july_30 : decode cX9_july 30 = .ok (.iconst 0, 1) := by decide +kernel
theorem dX9_july_31 : decode cX9_july 31 = .ok (.istore_n 3, 1) := by decide +kernel
theorem dX9_july_32 : decode cX9_july 32 = .ok (.iload_n 3, 1) := by decide +kernel
theorem dX9_july_33 : decode cX9_july 33 = .ok (.bipush 12, 2) := by decide +kernel
theorem dX9_july_35 : decode cX9_july 35 = .ok (.if_icmp .ge 65, 3) := by decide +kernel
theorem dX9_july_38 : decode cX9_july 38 = .ok (.aload_n 0, 1) := by decide +kernel
theorem dX9_july_39 : decode cX9_july 39 = .ok (.getfield 29, 3) := by decide +kernel
theorem dX9_july_42 : decode cX9_july 42 = .ok (.iload_n 3, 1) := by decide +kernel
theorem dX9_july_43 : decode cX9_july 43 = .ok (.aload_n 0, 1) := by decide +kernel
theorem dX9_july_44 : decode cX9_july 44 = .ok (.getfield 12, 3) := by decide +kernel
theorem dX9_july_47 : decode cX9_july 47 = .ok (.invokevirtual 253, 3) := by decide +kernel
theorem dX9_july_50 : decode cX9_july 50 = .ok (.istore 4, 2) := by decide +kernel
theorem dX9_july_52 : decode cX9_july 52 = .ok (.iconst 0, 1) := by decide +kernel
theorem dX9_july_53 : decode cX9_july 53 = .ok (.istore 5, 2) := by decide +kernel
theorem dX9_july_55 : decode cX9_july 55 = .ok (.iload 5, 2) := by decide +kernel
theorem dX9_july_57 : decode cX9_july 57 = .ok (.iload_n 1, 1) := by decide +kernel
theorem dX9_july_58 : decode cX9_july 58 = .ok (.if_icmp .ge 36, 3) := by decide +kernel
theorem dX9_july_61 : decode cX9_july 61 = .ok (.aload_n 0, 1) := by decide +kernel
theorem dX9_july_62 : decode cX9_july 62 = .ok (.getfield 85, 3) := by decide +kernel
theorem dX9_july_65 : decode cX9_july 65 = .ok (.getfield 257, 3) := by decide +kernel
theorem dX9_july_68 : decode cX9_july 68 = .ok (.iload 5, 2) := by decide +kernel
theorem dX9_july_70 : decode cX9_july 70 = .ok (.bipush 12, 2) := by decide +kernel
theorem dX9_july_72 : decode cX9_july 72 = .ok (.imul, 1) := by decide +kernel
theorem dX9_july_73 : decode cX9_july 73 = .ok (.iload_n 3, 1) := by decide +kernel
theorem dX9_july_74 : decode cX9_july 74 = .ok (.iadd, 1) := by decide +kernel
theorem dX9_july_75 : decode cX9_july 75 = .ok (.aload_n 0, 1) := by decide +kernel
theorem dX9_july_76 : decode cX9_july 76 = .ok (.getfield 60, 3) := by decide +kernel
theorem dX9_july_79 : decode cX9_july 79 = .ok (.iload 5, 2) := by decide +kernel
theorem dX9_july_81 : decode cX9_july 81 = .ok (.iload_n 3, 1) := by decide +kernel
theorem dX9_july_82 : decode cX9_july 82 = .ok (.iload 4, 2) := by decide +kernel
theorem dX9_july_84 : decode cX9_july 84 = .ok (.invokevirtual 260, 3) := by decide +kernel
theorem dX9_july_87 : decode cX9_july 87 = .ok (.iastore, 1) := by decide +kernel
theorem dX9_july_88 : decode cX9_july 88 = .ok (.iinc 5 1, 3) := by decide +kernel
theorem dX9_july_91 : decode cX9_july 91 = .ok (.goto (-36), 3) := by decide +kernel
theorem dX9_july_94 : decode cX9_july 94 = .ok (.iinc 3 1, 3) := by decide +kernel
theorem dX9_july_97 : decode cX9_july 97 = .ok (.goto (-65), 3) := by decide +kernel
theorem dX9_july_100 : decode cX9_july 100 = .ok (.aload_n 0, 1) := by decide +kernel
theorem dX9_july_101 : decode cX9_july 101 = .ok (.getfield 85, 3) := by decide +kernel
theorem dX9_july_104 : decode cX9_july 104 = .ok (.iload_n 1, 1) := by decide +kernel
theorem dX9_july_105 : decode cX9_july 105 = .ok (.invokevirtual 263, 3) := by decide +kernel
theorem dX9_july_108 : decode cX9_july 108 = .ok (.iload_n 2, 1) := by decide +kernel
theorem dX9_july_109 : decode cX9_july 109 = .ok (.iconst (-1), 1) := by decide +kernel
theorem dX9_july_110 : decode cX9_july 110 = .ok (.if_icmp .ne 13, 3) := by decide +kernel
theorem dX9_july_113 : decode cX9_july 113 = .ok (.aload_n 0, 1) := by decide +kernel
theorem dX9_july_114 : decode cX9_july 114 = .ok (.getfield 85, 3) := by decide +kernel
theorem dX9_july_117 : decode cX9_july 117 = .ok (.invokevirtual 264, 3) := by decide +kernel
theorem dX9_july_120 : decode cX9_july 120 = .ok (.goto 11, 3) := by decide +kernel
theorem dX9_july_123 : decode cX9_july 123 = .ok (.aload_n 0, 1) := by decide +kernel
theorem dX9_july_124 : decode cX9_july 124 = .ok (.getfield 85, 3) := by decide +kernel
theorem dX9_july_127 : decode cX9_july 127 = .ok (.iload_n 2, 1) := by decide +kernel
theorem dX9_july_128 : decode cX9_july 128 = .ok (.invokevirtual 267, 3) := by decide +kernel
theorem dX9_july_131 : decode cX9_july 131 = .ok (.ireturn, 1) := by decide +kernel
theorem dX9_off_0 : decode cX9_off 0 = .ok (.aload_n 0, 1) := by decide +kernel
theorem dX9_off_1 : decode cX9_off 1 = .ok (.getfield 12, 3) := by decide +kernel
theorem dX9_off_4 : decode cX9_off 4 = .ok (.iload_n 3, 1) := by decide +kernel
theorem dX9_off_5 : decode cX9_off 5 = .ok (.invokevirtual 178, 3) := by decide +kernel
theorem dX9_off_8 : decode cX9_off 8 = .ok (.ifCond .eq 34, 3) := by decide +kernel
theorem dX9_off_11 : decode cX9_off 11 = .ok (.iload_n 1, 1) := by decide +kernel
theorem dX9_off_12 : decode cX9_off 12 = .ok (.iconst 1, 1) := by decide +kernel
theorem dX9_off_13 : decode cX9_off 13 = .ok (.if_icmp .lt 29, 3) := by decide +kernel
theorem dX9_off_16 : decode cX9_off 16 = .ok (.iload_n 1, 1) := by decide +kernel
theorem dX9_off_17 : decode cX9_off 17 = .ok (.aload_n 0, 1) := by decide +kernel
theorem dX9_off_18 : decode cX9_off 18 = .ok (.getfield 12, 3) := by decide +kernel
theorem dX9_off_21 : decode cX9_off 21 = .ok (.getfield 270, 3) := by decide +kernel
theorem dX9_off_24 : decode cX9_off 24 = .ok (.invokestatic 273, 3) := by decide +kernel
theorem dX9_off_27 : decode cX9_off 27 = .ok (.if_icmp .gt 15, 3) := by decide +kernel
theorem dX9_off_30 : decode cX9_off 30 = .ok (.iload_n 2, 1) := by decide +kernel
theorem dX9_off_31 : decode cX9_off 31 = .ok (.iconst 1, 1) := by decide +kernel
theorem dX9_off_32 : decode cX9_off 32 = .ok (.if_icmp .lt 10, 3) := by decide +kernel
theorem dX9_off_35 : decode cX9_off 35 = .ok (.iload_n 2, 1) := by decide +kernel
theorem dX9_off_36 : decode cX9_off 36 = .ok (.sipush 366, 3) := by decide +kernel
theorem dX9_off_39 : decode cX9_off 39 = .ok (.if_icmp .le 5, 3) := by decide +kernel
theorem dX9_off_42 : decode cX9_off 42 = .ok (.iconst (-1), 1) := by decide +kernel
theorem dX9_off_43 : decode cX9_off 43 = .ok (.ireturn, 1) := by decide +kernel
theorem dX9_off_44 : decode cX9_off 44 = .ok (.aload_n 0, 1) := by decide +kernel
theorem dX9_off_45 : decode cX9_off 45 = .ok (.getfield 12, 3) := by decide +kernel
theorem dX9_off_48 : decode cX9_off 48 = .ok (.iload_n 3, 1) := by decide +kernel
theorem dX9_off_49 : decode cX9_off 49 = .ok (.invokevirtual 278, 3) := by decide +kernel
theorem dX9_off_52 : decode cX9_off 52 = .ok (.iload_n 1, 1) := by decide +kernel
theorem dX9_off_53 : decode cX9_off 53 = .ok (.if_icmp .lt 6, 3) := by decide +kernel
theorem dX9_off_56 : decode cX9_off 56 = .ok (.bipush (-2), 2) := by decide +kernel
theorem dX9_off_58 : decode cX9_off 58 = .ok (.ireturn, 1) := by decide +kernel
theorem dX9_off_59 : decode cX9_off 59 = .ok (.aload_n 0, 1) := by decide +kernel
theorem dX9_off_60 : decode cX9_off 60 = .ok (.getfield 89, 3) := by decide +kernel
theorem dX9_off_63 : decode cX9_off 63 = .ok (.iconst 0, 1) := by decide +kernel
theorem dX9_off_64 : decode cX9_off 64 = .ok (.invokestatic 281, 3) := by decide +kernel
theorem dX9_off_67 : decode cX9_off 67 = .ok (.iconst 0, 1) := by decide +kernel
theorem dX9_off_68 : decode cX9_off 68 = .ok (.istore 4, 2) := by decide +kernel
theorem dX9_off_70 : decode cX9_off 70 = .ok (.iload 4, 2) := by decide +kernel
theorem dX9_off_72 : decode cX9_off 72 = .ok (.iload_n 2, 1) := by decide +kernel
theorem dX9_off_73 : decode cX9_off 73 = .ok (.if_icmp .ge 23, 3) := by decide +kernel
theorem dX9_off_76 : decode cX9_off 76 = .ok (.aload_n 0, 1) := by decide +kernel
theorem dX9_off_77 : decode cX9_off 77 = .ok (.getfield 89, 3) := by decide +kernel
theorem dX9_off_80 : decode cX9_off 80 = .ok (.aload_n 0, 1) := by decide +kernel
theorem dX9_off_81 : decode cX9_off 81 = .ok (.iload_n 1, 1) := by decide +kernel
theorem dX9_off_82 : decode cX9_off 82 = .ok (.invokevirtual 286, 3) := by decide +kernel
theorem dX9_off_85 : decode cX9_off 85 = .ok (.dup2, 1) := by decide +kernel
theorem dX9_off_86 : decode cX9_off 86 = .ok (.iaload, 1) := by decide +kernel
theorem dX9_off_87 : decode cX9_off 87 = .ok (.iconst 1, 1) := by decide +kernel
theorem dX9_off_88 : decode cX9_off 88 = .ok (.iadd, 1) := by decide +kernel
theorem dX9_off_89 : decode cX9_off 89 = .ok (.iastore, 1) := by decide +kernel
theorem dX9_off_90 : decode cX9_off 90 = .ok (.iinc 4 1, 3) := by decide +kernel
theorem dX9_off_93 : decode cX9_off 93 = .ok (.goto (-23), 3) := by decide +kernel
theorem dX9_off_96 : decode cX9_off 96 = .ok (.aload_n 0, 1) := by decide +kernel
theorem dX9_off_97 : decode cX9_off 97 = .ok (.getfield 89, 3) := by decide +kernel
theorem dX9_off_100 : decode cX9_off 100 = .ok (.iload_n 3, 1) := by decide +kernel
theorem dX9_off_101 : decode cX9_off 101 = .ok (.iaload, 1) := by decide +kernel
theorem dX9_off_102 : decode cX9_off 102 = .ok (.ireturn, 1) := by decide +kernel
theorem dX9_bids_0 : decode cX9_bids 0 = .ok (.iload_n 1, 1) := by decide +kernel
theorem dX9_bids_1 : decode cX9_bids 1 = .ok (.ifCond .lt 28, 3) := by decide +kernel
theorem dX9_bids_4 : decode cX9_bids 4 = .ok (.iload_n 1, 1) := by decide +kernel
theorem dX9_bids_5 : decode cX9_bids 5 = .ok (.bipush 20, 2) := by decide +kernel
theorem dX9_bids_7 : decode cX9_bids 7 = .ok (.if_icmp .gt 22, 3) := by decide +kernel
theorem dX9_bids_10 : decode cX9_bids 10 = .ok (.iload_n 2, 1) := by decide +kernel
theorem dX9_bids_11 : decode cX9_bids 11 = .ok (.ifCond .lt 18, 3) := by decide +kernel
theorem dX9_bids_14 : decode cX9_bids 14 = .ok (.iload_n 2, 1) := by decide +kernel
theorem dX9_bids_15 : decode cX9_bids 15 = .ok (.bipush 20, 2) := by decide +kernel
theorem dX9_bids_17 : decode cX9_bids 17 = .ok (.if_icmp .gt 12, 3) := by decide +kernel
theorem dX9_bids_20 : decode cX9_bids 20 = .ok (.iload_n 3, 1) := by decide +kernel
theorem dX9_bids_21 : decode cX9_bids 21 = .ok (.ifCond .lt 8, 3) := by decide +kernel
theorem dX9_bids_24 : decode cX9_bids 24 = .ok (.iload_n 3, 1) := by decide +kernel
theorem dX9_bids_25 : decode cX9_bids 25 = .ok (.iconst 2, 1) := by decide +kernel
theorem dX9_bids_26 : decode cX9_bids 26 = .ok (.if_icmp .le 5, 3) := by decide +kernel
theorem dX9_bids_29 : decode cX9_bids 29 = .ok (.iconst (-1), 1) := by decide +kernel
theorem dX9_bids_30 : decode cX9_bids 30 = .ok (.ireturn, 1) := by decide +kernel
theorem dX9_bids_31 : decode cX9_bids 31 = .ok (.iconst 0, 1) := by decide +kernel
theorem dX9_bids_32 : decode cX9_bids 32 = .ok (.istore 4, 2) := by decide +kernel
theorem dX9_bids_34 : decode cX9_bids 34 = .ok (.iconst 0, 1) := by decide +kernel
theorem dX9_bids_35 : decode cX9_bids 35 = .ok (.istore 5, 2) := by decide +kernel
theorem dX9_bids_37 : decode cX9_bids 37 = .ok (.iconst 0, 1) := by decide +kernel
theorem dX9_bids_38 : decode cX9_bids 38 = .ok (.istore 6, 2) := by decide +kernel
theorem dX9_bids_40 : decode cX9_bids 40 = .ok (.iconst 1, 1) := by decide +kernel
theorem dX9_bids_41 : decode cX9_bids 41 = .ok (.istore 7, 2) := by decide +kernel
theorem dX9_bids_43 : decode cX9_bids 43 = .ok (.iload 7, 2) := by decide +kernel
theorem dX9_bids_45 : decode cX9_bids 45 = .ok (.bipush 9, 2) := by decide +kernel
theorem dX9_bids_47 : decode cX9_bids 47 = .ok (.if_icmp .gt 68, 3) := by decide +kernel
theorem dX9_bids_50 : decode cX9_bids 50 = .ok (.iconst 1, 1) := by decide +kernel
theorem dX9_bids_51 : decode cX9_bids 51 = .ok (.istore 8, 2) := by decide +kernel
theorem dX9_bids_53 : decode cX9_bids 53 = .ok (.iload 8, 2) := by decide +kernel
theorem dX9_bids_55 : decode cX9_bids 55 = .ok (.bipush 9, 2) := by decide +kernel
theorem dX9_bids_57 : decode cX9_bids 57 = .ok (.if_icmp .gt 52, 3) := by decide +kernel
theorem dX9_bids_60 : decode cX9_bids 60 = .ok (.iload_n 1, 1) := by decide +kernel
theorem dX9_bids_61 : decode cX9_bids 61 = .ok (.iload_n 2, 1) := by decide +kernel
theorem dX9_bids_62 : decode cX9_bids 62 = .ok (.iload 7, 2) := by decide +kernel
theorem dX9_bids_64 : decode cX9_bids 64 = .ok (.iload 8, 2) := by decide +kernel
theorem dX9_bids_66 : decode cX9_bids 66 = .ok (.invokestatic 289, 3) := by decide +kernel
theorem dX9_bids_69 : decode cX9_bids 69 = .ok (.ifCond .eq 34, 3) := by decide +kernel
theorem dX9_bids_72 : decode cX9_bids 72 = .ok (.iload 4, 2) := by decide +kernel
theorem dX9_bids_74 : decode cX9_bids 74 = .ok (.ifCond .ne 8, 3) := by decide +kernel
theorem dX9_bids_77 : decode cX9_bids 77 = .ok (.iload 7, 2) := by decide +kernel
theorem dX9_bids_79 : decode cX9_bids 79 = .ok (.goto 5, 3) := by decide +kernel
theorem dX9_bids_82 : decode cX9_bids 82 = .ok (.iload 5, 2) := by decide +kernel
theorem dX9_bids_84 : decode cX9_bids 84 = .ok (.istore 5, 2) := by decide +kernel
theorem dX9_bids_86 : decode cX9_bids 86 = .ok (.iload 4, 2) := by decide +kernel
theorem dX9_bids_88 : decode cX9_bids 88 = .ok (.ifCond .ne 8, 3) := by decide +kernel
theorem dX9_bids_91 : decode cX9_bids 91 = .ok (.iload 8, 2) := by decide +kernel
theorem dX9_bids_93 : decode cX9_bids 93 = .ok (.goto 5, 3) := by decide +kernel
theorem dX9_bids_96 : decode cX9_bids 96 = .ok (.iload 6, 2) := by decide +kernel
theorem dX9_bids_98 : decode cX9_bids 98 = .ok (.istore 6, 2) := by decide +kernel
theorem dX9_bids_100 : decode cX9_bids 100 = .ok (.iinc 4 1, 3) := by decide +kernel
theorem dX9_bids_103 : decode cX9_bids 103 = .ok (.iinc 8 1, 3) := by decide +kernel
theorem dX9_bids_106 : decode cX9_bids 106 = .ok (.goto (-53), 3) := by decide +kernel
theorem dX9_bids_109 : decode cX9_bids 109 = .ok (.iinc 7 1, 3) := by decide +kernel
theorem dX9_bids_112 : decode cX9_bids 112 = .ok (.goto (-69), 3) := by decide +kernel
theorem dX9_bids_115 : decode cX9_bids 115 = .ok (.iload_n 3, 1) := by decide +kernel
theorem dX9_bids_116 : decode cX9_bids 116 = .ok (.ifCond .ne 6, 3) := by decide +kernel
theorem dX9_bids_119 : decode cX9_bids 119 = .ok (.iload 4, 2) := by decide +kernel
theorem dX9_bids_121 : decode cX9_bids 121 = .ok (.ireturn, 1) := by decide +kernel
theorem dX9_bids_122 : decode cX9_bids 122 = .ok (.iload 4, 2) := by decide +kernel
theorem dX9_bids_124 : decode cX9_bids 124 = .ok (.ifCond .ne 6, 3) := by decide +kernel
theorem dX9_bids_127 : decode cX9_bids 127 = .ok (.bipush (-2), 2) := by decide +kernel
theorem dX9_bids_129 : decode cX9_bids 129 = .ok (.ireturn, 1) := by decide +kernel
theorem dX9_bids_130 : decode cX9_bids 130 = .ok (.iload_n 3, 1) := by decide +kernel
theorem dX9_bids_131 : decode cX9_bids 131 = .ok (.iconst 1, 1) := by decide +kernel
theorem dX9_bids_132 : decode cX9_bids 132 = .ok (.if_icmp .ne 8, 3) := by decide +kernel
theorem dX9_bids_135 : decode cX9_bids 135 = .ok (.iload 5, 2) := by decide +kernel
theorem dX9_bids_137 : decode cX9_bids 137 = .ok (.goto 5, 3) := by decide +kernel
theorem dX9_bids_140 : decode cX9_bids 140 = .ok (.iload 6, 2) := by decide +kernel
theorem dX9_bids_142 : decode cX9_bids 142 = .ok (.ireturn, 1) := by decide +kernel
theorem dX9_odds_0 : decode cX9_odds 0 = .ok (.iload_n 1, 1) := by decide +kernel
theorem dX9_odds_1 : decode cX9_odds 1 = .ok (.invokestatic 103, 3) := by decide +kernel
theorem dX9_odds_4 : decode cX9_odds 4 = .ok (.ifCond .eq 23, 3) := by decide +kernel
theorem dX9_odds_7 : decode cX9_odds 7 = .ok (.aload_n 0, 1) := by decide +kernel
theorem dX9_odds_8 : decode cX9_odds 8 = .ok (.getfield 12, 3) := by decide +kernel
theorem dX9_odds_11 : decode cX9_odds 11 = .ok (.iload_n 2, 1) := by decide +kernel
theorem dX9_odds_12 : decode cX9_odds 12 = .ok (.invokevirtual 117, 3) := by decide +kernel
theorem dX9_odds_15 : decode cX9_odds 15 = .ok (.ifCond .eq 12, 3) := by decide +kernel
theorem dX9_odds_18 : decode cX9_odds 18 = .ok (.iload_n 3, 1) := by decide +kernel
theorem dX9_odds_19 : decode cX9_odds 19 = .ok (.ifCond .eq 10, 3) := by decide +kernel
theorem dX9_odds_22 : decode cX9_odds 22 = .ok (.iload_n 3, 1) := by decide +kernel
theorem dX9_odds_23 : decode cX9_odds 23 = .ok (.iconst 1, 1) := by decide +kernel
theorem dX9_odds_24 : decode cX9_odds 24 = .ok (.if_icmp .eq 5, 3) := by decide +kernel
theorem dX9_odds_27 : decode cX9_odds 27 = .ok (.iconst (-1), 1) := by decide +kernel
theorem dX9_odds_28 : decode cX9_odds 28 = .ok (.ireturn, 1) := by decide +kernel
theorem dX9_odds_29 : decode cX9_odds 29 = .ok (.aload_n 0, 1) := by decide +kernel
theorem dX9_odds_30 : decode cX9_odds 30 = .ok (.getfield 69, 3) := by decide +kernel
theorem dX9_odds_33 : decode cX9_odds 33 = .ok (.iload_n 1, 1) := by decide +kernel
theorem dX9_odds_34 : decode cX9_odds 34 = .ok (.iload_n 2, 1) := by decide +kernel
theorem dX9_odds_35 : decode cX9_odds 35 = .ok (.iload_n 3, 1) := by decide +kernel
theorem dX9_odds_36 : decode cX9_odds 36 = .ok (.invokevirtual 293, 3) := by decide +kernel
theorem dX9_odds_39 : decode cX9_odds 39 = .ok (.ireturn, 1) := by decide +kernel
theorem dX9_seed_0 : decode cX9_seed 0 = .ok (.iload_n 1, 1) := by decide +kernel
theorem dX9_seed_1 : decode cX9_seed 1 = .ok (.ifCond .lt 10, 3) := by decide +kernel
theorem dX9_seed_4 : decode cX9_seed 4 = .ok (.iload_n 1, 1) := by decide +kernel
theorem dX9_seed_5 : decode cX9_seed 5 = .ok (.ldc_w 296, 3) := by decide +kernel
theorem dX9_seed_8 : decode cX9_seed 8 = .ok (.if_icmp .le 5, 3) := by decide +kernel
theorem dX9_seed_11 : decode cX9_seed 11 = .ok (.iconst 0, 1) := by decide +kernel
theorem dX9_seed_12 : decode cX9_seed 12 = .ok (.ireturn, 1) := by decide +kernel
theorem dX9_seed_13 : decode cX9_seed 13 = .ok (.aload_n 0, 1) := by decide +kernel
theorem dX9_seed_14 : decode cX9_seed 14 = .ok (.getfield 12, 3) := by decide +kernel
theorem dX9_seed_17 : decode cX9_seed 17 = .ok (.iload_n 1, 1) := by decide +kernel
theorem dX9_seed_18 : decode cX9_seed 18 = .ok (.putfield 204, 3) := by decide +kernel
theorem dX9_seed_21 : decode cX9_seed 21 = .ok (.iconst 1, 1) := by decide +kernel
theorem dX9_seed_22 : decode cX9_seed 22 = .ok (.ireturn, 1) := by decide +kernel
theorem dX9_keep_0 : decode cX9_keep 0 = .ok (.aload_n 0, 1) := by decide +kernel
theorem dX9_keep_1 : decode cX9_keep 1 = .ok (.getfield 16, 3) := by decide +kernel
theorem dX9_keep_4 : decode cX9_keep 4 = .ok (.aload_n 0, 1) := by decide +kernel
theorem dX9_keep_5 : decode cX9_keep 5 = .ok (.getfield 12, 3) := by decide +kernel
theorem dX9_keep_8 : decode cX9_keep 8 = .ok (.invokevirtual 297, 3) := by decide +kernel
theorem dX9_keep_11 : decode cX9_keep 11 = .ok (.aload_n 0, 1) := by decide +kernel
theorem dX9_keep_12 : decode cX9_keep 12 = .ok (.iconst 1, 1) := by decide +kernel
theorem dX9_keep_13 : decode cX9_keep 13 = .ok (.putfield 300, 3) := by decide +kernel
theorem dX9_keep_16 : decode cX9_keep 16 = .ok (.aload_n 0, 1) := by decide +kernel
theorem dX9_keep_17 : decode cX9_keep 17 = .ok (.getfield 12, 3) := by decide +kernel
theorem dX9_keep_20 : decode cX9_keep 20 = .ok (.getfield 198, 3) := by decide +kernel
theorem dX9_keep_23 : decode cX9_keep 23 = .ok (.ireturn, 1) := by decide +kernel
theorem dX9_undo_0 : decode cX9_undo 0 = .ok (.aload_n 0, 1) := by decide +kernel
theorem dX9_undo_1 : decode cX9_undo 1 = .ok (.getfield 300, 3) := by decide +kernel
theorem dX9_undo_4 : decode cX9_undo 4 = .ok (.ifCond .eq 14, 3) := by decide +kernel
theorem dX9_undo_7 : decode cX9_undo 7 = .ok (.aload_n 0, 1) := by decide +kernel
theorem dX9_undo_8 : decode cX9_undo 8 = .ok (.getfield 12, 3) := by decide +kernel
theorem dX9_undo_11 : decode cX9_undo 11 = .ok (.aload_n 0, 1) := by decide +kernel
theorem dX9_undo_12 : decode cX9_undo 12 = .ok (.getfield 16, 3) := by decide +kernel
theorem dX9_undo_15 : decode cX9_undo 15 = .ok (.invokevirtual 297, 3) := by decide +kernel
theorem dX9_undo_18 : decode cX9_undo 18 = .ok (.aload_n 0, 1) := by decide +kernel
theorem dX9_undo_19 : decode cX9_undo 19 = .ok (.getfield 300, 3) := by decide +kernel
theorem dX9_undo_22 : decode cX9_undo 22 = .ok (.ireturn, 1) := by decide +kernel
theorem dX9_check_0 : decode cX9_check 0 = .ok (.iload_n 1, 1) := by decide +kernel
theorem dX9_check_1 : decode cX9_check 1 = .ok (.ifCond .lt 22, 3) := by decide +kernel
theorem dX9_check_4 : decode cX9_check 4 = .ok (.iload_n 1, 1) := by decide +kernel
theorem dX9_check_5 : decode cX9_check 5 = .ok (.bipush 10, 2) := by decide +kernel
theorem dX9_check_7 : decode cX9_check 7 = .ok (.if_icmp .gt 16, 3) := by decide +kernel
theorem dX9_check_10 : decode cX9_check 10 = .ok (.iconst 4, 1) := by decide +kernel
theorem dX9_check_11 : decode cX9_check 11 = .ok (.iload_n 1, 1) := by decide +kernel
theorem dX9_check_12 : decode cX9_check 12 = .ok (.imul, 1) := by decide +kernel
theorem dX9_check_13 : decode cX9_check 13 = .ok (.aload_n 0, 1) := by decide +kernel
theorem dX9_check_14 : decode cX9_check 14 = .ok (.getfield 22, 3) := by decide +kernel
theorem dX9_check_17 : decode cX9_check 17 = .ok (.getfield 135, 3) := by decide +kernel
theorem dX9_check_20 : decode cX9_check 20 = .ok (.if_icmp .le 6, 3) := by decide +kernel
theorem dX9_check_23 : decode cX9_check 23 = .ok (.bipush (-2), 2) := by decide +kernel
theorem dX9_check_25 : decode cX9_check 25 = .ok (.ireturn, 1) := by decide +kernel
theorem dX9_check_26 : decode cX9_check 26 = .ok (.aload_n 0, 1) := by decide +kernel
theorem dX9_check_27 : decode cX9_check 27 = .ok (.getfield 22, 3) := by decide +kernel
theorem dX9_check_30 : decode cX9_check 30 = .ok (.iconst 4, 1) := by decide +kernel
theorem dX9_check_31 : decode cX9_check 31 = .ok (.iload_n 1, 1) := by decide +kernel
theorem dX9_check_32 : decode cX9_check 32 = .ok (.imul, 1) := by decide +kernel
theorem dX9_check_33 : decode cX9_check 33 = .ok (.invokevirtual 138, 3) := by decide +kernel
theorem dX9_check_36 : decode cX9_check 36 = .ok (.iconst 0, 1) := by decide +kernel
theorem dX9_check_37 : decode cX9_check 37 = .ok (.istore_n 2, 1) := by decide +kernel
theorem dX9_check_38 : decode cX9_check 38 = .ok (.iload_n 2, 1) := by decide +kernel
theorem dX9_check_39 : decode cX9_check 39 = .ok (.iload_n 1, 1) := by decide +kernel
theorem dX9_check_40 : decode cX9_check 40 = .ok (.if_icmp .ge 53, 3) := by decide +kernel
theorem dX9_check_43 : decode cX9_check 43 = .ok (.aload_n 0, 1) := by decide +kernel
theorem dX9_check_44 : decode cX9_check 44 = .ok (.getfield 12, 3) := by decide +kernel
theorem dX9_check_47 : decode cX9_check 47 = .ok (.iload_n 2, 1) := by decide +kernel
theorem dX9_check_48 : decode cX9_check 48 = .ok (.invokevirtual 117, 3) := by decide +kernel
theorem dX9_check_51 : decode cX9_check 51 = .ok (.ifCond .eq 18, 3) := by decide +kernel
theorem dX9_check_54 : decode cX9_check 54 = .ok (.aload_n 0, 1) := by decide +kernel
theorem dX9_check_55 : decode cX9_check 55 = .ok (.getfield 12, 3) := by decide +kernel
theorem dX9_check_58 : decode cX9_check 58 = .ok (.getfield 195, 3) := by decide +kernel
theorem dX9_check_61 : decode cX9_check 61 = .ok (.bipush 10, 2) := by decide +kernel
theorem dX9_check_63 : decode cX9_check 63 = .ok (.iload_n 2, 1) := by decide +kernel
theorem dX9_check_64 : decode cX9_check 64 = .ok (.iadd, 1) := by decide +kernel
theorem dX9_check_65 : decode cX9_check 65 = .ok (.iaload, 1) := by decide +kernel
theorem dX9_check_66 : decode cX9_check 66 = .ok (.goto 4, 3) := by decide +kernel
theorem dX9_check_69 : decode cX9_check 69 = .ok (.iconst 0, 1) := by decide +kernel
theorem dX9_check_70 : decode cX9_check 70 = .ok (.istore_n 3, 1) := by decide +kernel
theorem dX9_check_71 : decode cX9_check 71 = .ok (.aload_n 0, 1) := by decide +kernel
theorem dX9_check_72 : decode cX9_check 72 = .ok (.getfield 22, 3) := by decide +kernel
theorem dX9_check_75 : decode cX9_check 75 = .ok (.iconst 4, 1) := by decide +kernel
theorem dX9_check_76 : decode cX9_check 76 = .ok (.iload_n 2, 1) := by decide +kernel
theorem dX9_check_77 : decode cX9_check 77 = .ok (.imul, 1) := by decide +kernel
theorem dX9_check_78 : decode cX9_check 78 = .ok (.invokevirtual 304, 3) := by decide +kernel
theorem dX9_check_81 : decode cX9_check 81 = .ok (.iload_n 3, 1) := by decide +kernel
theorem dX9_check_82 : decode cX9_check 82 = .ok (.if_icmp .eq 5, 3) := by decide +kernel
theorem dX9_check_85 : decode cX9_check 85 = .ok (.iload_n 2, 1) := by decide +kernel
theorem dX9_check_86 : decode cX9_check 86 = .ok (.ireturn, 1) := by decide +kernel
theorem dX9_check_87 : decode cX9_check 87 = .ok (.iinc 2 1, 3) := by decide +kernel
theorem dX9_check_90 : decode cX9_check 90 = .ok (.goto (-52), 3) := by decide +kernel
theorem dX9_check_93 : decode cX9_check 93 = .ok (.iconst (-1), 1) := by decide +kernel
theorem dX9_check_94 : decode cX9_check 94 = .ok (.ireturn, 1) := by decide +kernel
theorem dX9_count_0 : decode cX9_count 0 = .ok (.iload_n 1, 1) := by decide +kernel
theorem dX9_count_1 : decode cX9_count 1 = .ok (.tableswitch 111 0 7 #[47, 55, 63, 71, 79, 87, 95, 103], 47) := by decide +kernel
theorem dX9_count_48 : decode cX9_count 48 = .ok (.aload_n 0, 1) := by decide +kernel
theorem dX9_count_49 : decode cX9_count 49 = .ok (.getfield 29, 3) := by decide +kernel
theorem dX9_count_52 : decode cX9_count 52 = .ok (.getfield 152, 3) := by decide +kernel
theorem dX9_count_55 : decode cX9_count 55 = .ok (.ireturn, 1) := by decide +kernel
theorem dX9_count_56 : decode cX9_count 56 = .ok (.aload_n 0, 1) := by decide +kernel
theorem dX9_count_57 : decode cX9_count 57 = .ok (.getfield 39, 3) := by decide +kernel
theorem dX9_count_60 : decode cX9_count 60 = .ok (.getfield 159, 3) := by decide +kernel
theorem dX9_count_63 : decode cX9_count 63 = .ok (.ireturn, 1) := by decide +kernel
theorem dX9_count_64 : decode cX9_count 64 = .ok (.aload_n 0, 1) := by decide +kernel
theorem dX9_count_65 : decode cX9_count 65 = .ok (.getfield 22, 3) := by decide +kernel
theorem dX9_count_68 : decode cX9_count 68 = .ok (.getfield 135, 3) := by decide +kernel
theorem dX9_count_71 : decode cX9_count 71 = .ok (.ireturn, 1) := by decide +kernel
theorem dX9_count_72 : decode cX9_count 72 = .ok (.aload_n 0, 1) := by decide +kernel
theorem dX9_count_73 : decode cX9_count 73 = .ok (.getfield 12, 3) := by decide +kernel
theorem dX9_count_76 : decode cX9_count 76 = .ok (.getfield 204, 3) := by decide +kernel
theorem dX9_count_79 : decode cX9_count 79 = .ok (.ireturn, 1) := by decide +kernel
theorem dX9_count_80 : decode cX9_count 80 = .ok (.aload_n 0, 1) := by decide +kernel
theorem dX9_count_81 : decode cX9_count 81 = .ok (.getfield 12, 3) := by decide +kernel
theorem dX9_count_84 : decode cX9_count 84 = .ok (.getfield 110, 3) := by decide +kernel
theorem dX9_count_87 : decode cX9_count 87 = .ok (.ireturn, 1) := by decide +kernel
theorem dX9_count_88 : decode cX9_count 88 = .ok (.aload_n 0, 1) := by decide +kernel
theorem dX9_count_89 : decode cX9_count 89 = .ok (.getfield 12, 3) := by decide +kernel
theorem dX9_count_92 : decode cX9_count 92 = .ok (.getfield 106, 3) := by decide +kernel
theorem dX9_count_95 : decode cX9_count 95 = .ok (.ireturn, 1) := by decide +kernel
theorem dX9_count_96 : decode cX9_count 96 = .ok (.aload_n 0, 1) := by decide +kernel
theorem dX9_count_97 : decode cX9_count 97 = .ok (.getfield 12, 3) := by decide +kernel
theorem dX9_count_100 : decode cX9_count 100 = .ok (.getfield 270, 3) := by decide +kernel
theorem dX9_count_103 : decode cX9_count 103 = .ok (.ireturn, 1) := by decide +kernel
theorem dX9_count_104 : decode cX9_count 104 = .ok (.aload_n 0, 1) := by decide +kernel
theorem dX9_count_105 : decode cX9_count 105 = .ok (.getfield 12, 3) := by decide +kernel
theorem dX9_count_108 : decode cX9_count 108 = .ok (.getfield 229, 3) := by decide +kernel
theorem dX9_count_111 : decode cX9_count 111 = .ok (.ireturn, 1) := by decide +kernel
theorem dX9_count_112 : decode cX9_count 112 = .ok (.aload_n 0, 1) := by decide +kernel
theorem dX9_count_113 : decode cX9_count 113 = .ok (.iload_n 1, 1) := by decide +kernel
theorem dX9_count_114 : decode cX9_count 114 = .ok (.invokevirtual 307, 3) := by decide +kernel
theorem dX9_count_117 : decode cX9_count 117 = .ok (.ireturn, 1) := by decide +kernel
theorem dX9_countInHouse_0 : decode cX9_countInHouse 0 = .ok (.iload_n 1, 1) := by decide +kernel
theorem dX9_countInHouse_1 : decode cX9_countInHouse 1 = .ok (.bipush 10, 2) := by decide +kernel
theorem dX9_countInHouse_3 : decode cX9_countInHouse 3 = .ok (.if_icmp .lt 22, 3) := by decide +kernel
theorem dX9_countInHouse_6 : decode cX9_countInHouse 6 = .ok (.iload_n 1, 1) := by decide +kernel
theorem dX9_countInHouse_7 : decode cX9_countInHouse 7 = .ok (.bipush 22, 2) := by decide +kernel
theorem dX9_countInHouse_9 : decode cX9_countInHouse 9 = .ok (.if_icmp .ge 16, 3) := by decide +kernel
theorem dX9_countInHouse_12 : decode cX9_countInHouse 12 = .ok (.aload_n 0, 1) := by decide +kernel
theorem dX9_countInHouse_13 : decode cX9_countInHouse 13 = .ok (.getfield 12, 3) := by decide +kernel
theorem dX9_countInHouse_16 : decode cX9_countInHouse 16 = .ok (.getfield 100, 3) := by decide +kernel
theorem dX9_countInHouse_19 : decode cX9_countInHouse 19 = .ok (.iload_n 1, 1) := by decide +kernel
theorem dX9_countInHouse_20 : decode cX9_countInHouse 20 = .ok (.bipush 10, 2) := by decide +kernel
theorem dX9_countInHouse_22 : decode cX9_countInHouse 22 = .ok (.isub, 1) := by decide +kernel
theorem dX9_countInHouse_23 : decode cX9_countInHouse 23 = .ok (.iaload, 1) := by decide +kernel
theorem dX9_countInHouse_24 : decode cX9_countInHouse 24 = .ok (.ireturn, 1) := by decide +kernel
theorem dX9_countInHouse_25 : decode cX9_countInHouse 25 = .ok (.iload_n 1, 1) := by decide +kernel
theorem dX9_countInHouse_26 : decode cX9_countInHouse 26 = .ok (.bipush 30, 2) := by decide +kernel
theorem dX9_countInHouse_28 : decode cX9_countInHouse 28 = .ok (.if_icmp .lt 72, 3) := by decide +kernel
theorem dX9_countInHouse_31 : decode cX9_countInHouse 31 = .ok (.iload_n 1, 1) := by decide +kernel
theorem dX9_countInHouse_32 : decode cX9_countInHouse 32 = .ok (.bipush 60, 2) := by decide +kernel
theorem dX9_countInHouse_34 : decode cX9_countInHouse 34 = .ok (.if_icmp .ge 66, 3) := by decide +kernel
theorem dX9_countInHouse_37 : decode cX9_countInHouse 37 = .ok (.aload_n 0, 1) := by decide +kernel
theorem dX9_countInHouse_38 : decode cX9_countInHouse 38 = .ok (.getfield 12, 3) := by decide +kernel
theorem dX9_countInHouse_41 : decode cX9_countInHouse 41 = .ok (.iload_n 1, 1) := by decide +kernel
theorem dX9_countInHouse_42 : decode cX9_countInHouse 42 = .ok (.bipush 10, 2) := by decide +kernel
theorem dX9_countInHouse_44 : decode cX9_countInHouse 44 = .ok (.irem, 1) := by decide +kernel
theorem dX9_countInHouse_45 : decode cX9_countInHouse 45 = .ok (.invokevirtual 178, 3) := by decide +kernel
theorem dX9_countInHouse_48 : decode cX9_countInHouse 48 = .ok (.ifCond .eq 52, 3) := by decide +kernel
theorem dX9_countInHouse_51 : decode cX9_countInHouse 51 = .ok (.iload_n 1, 1) := by decide +kernel
theorem dX9_countInHouse_52 : decode cX9_countInHouse 52 = .ok (.bipush 10, 2) := by decide +kernel
theorem dX9_countInHouse_54 : decode cX9_countInHouse 54 = .ok (.irem, 1) := by decide +kernel
theorem dX9_countInHouse_55 : decode cX9_countInHouse 55 = .ok (.istore_n 2, 1) := by decide +kernel
theorem dX9_countInHouse_56 : decode cX9_countInHouse 56 = .ok (.iload_n 1, 1) := by decide +kernel
theorem dX9_countInHouse_57 : decode cX9_countInHouse 57 = .ok (.bipush 40, 2) := by decide +kernel
theorem dX9_countInHouse_59 : decode cX9_countInHouse 59 = .ok (.if_icmp .ge 13, 3) := by decide +kernel
theorem dX9_countInHouse_62 : decode cX9_countInHouse 62 = .ok (.aload_n 0, 1) := by decide +kernel
theorem dX9_countInHouse_63 : decode cX9_countInHouse 63 = .ok (.getfield 12, 3) := by decide +kernel
theorem dX9_countInHouse_66 : decode cX9_countInHouse 66 = .ok (.getfield 243, 3) := by decide +kernel
theorem dX9_countInHouse_69 : decode cX9_countInHouse 69 = .ok (.iload_n 2, 1) := by decide +kernel
theorem dX9_countInHouse_70 : decode cX9_countInHouse 70 = .ok (.iaload, 1) := by decide +kernel
theorem dX9_countInHouse_71 : decode cX9_countInHouse 71 = .ok (.ireturn, 1) := by decide +kernel
theorem dX9_countInHouse_72 : decode cX9_countInHouse 72 = .ok (.iload_n 1, 1) := by decide +kernel
theorem dX9_countInHouse_73 : decode cX9_countInHouse 73 = .ok (.bipush 50, 2) := by decide +kernel
theorem dX9_countInHouse_75 : decode cX9_countInHouse 75 = .ok (.if_icmp .ge 15, 3) := by decide +kernel
theorem dX9_countInHouse_78 : decode cX9_countInHouse 78 = .ok (.aload_n 0, 1) := by decide +kernel
theorem dX9_countInHouse_79 : decode cX9_countInHouse 79 = .ok (.getfield 12, 3) := by decide +kernel
theorem dX9_countInHouse_82 : decode cX9_countInHouse 82 = .ok (.getfield 310, 3) := by decide +kernel
theorem dX9_countInHouse_85 : decode cX9_countInHouse 85 = .ok (.iload_n 2, 1) := by decide +kernel
theorem dX9_countInHouse_86 : decode cX9_countInHouse 86 = .ok (.iaload, 1) := by decide +kernel
theorem dX9_countInHouse_87 : decode cX9_countInHouse 87 = .ok (.goto 12, 3) := by decide +kernel
theorem dX9_countInHouse_90 : decode cX9_countInHouse 90 = .ok (.aload_n 0, 1) := by decide +kernel
theorem dX9_countInHouse_91 : decode cX9_countInHouse 91 = .ok (.getfield 12, 3) := by decide +kernel
theorem dX9_countInHouse_94 : decode cX9_countInHouse 94 = .ok (.getfield 313, 3) := by decide +kernel
theorem dX9_countInHouse_97 : decode cX9_countInHouse 97 = .ok (.iload_n 2, 1) := by decide +kernel
theorem dX9_countInHouse_98 : decode cX9_countInHouse 98 = .ok (.iaload, 1) := by decide +kernel
theorem dX9_countInHouse_99 : decode cX9_countInHouse 99 = .ok (.ireturn, 1) := by decide +kernel
theorem dX9_countInHouse_100 : decode cX9_countInHouse 100 = .ok (.iload_n 1, 1) := by decide +kernel
theorem dX9_countInHouse_101 : decode cX9_countInHouse 101 = .ok (.bipush 100, 2) := by decide +kernel
theorem dX9_countInHouse_103 : decode cX9_countInHouse 103 = .ok (.if_icmp .lt 37, 3) := by decide +kernel
theorem dX9_countInHouse_106 : decode cX9_countInHouse 106 = .ok (.iload_n 1, 1) := by decide +kernel
theorem dX9_countInHouse_107 : decode cX9_countInHouse 107 = .ok (.sipush 170, 3) := by decide +kernel
theorem dX9_countInHouse_110 : decode cX9_countInHouse 110 = .ok (.if_icmp .ge 30, 3) := by decide +kernel
theorem dX9_countInHouse_113 : decode cX9_countInHouse 113 = .ok (.aload_n 0, 1) := by decide +kernel
theorem dX9_countInHouse_114 : decode cX9_countInHouse 114 = .ok (.getfield 12, 3) := by decide +kernel
theorem dX9_countInHouse_117 : decode cX9_countInHouse 117 = .ok (.iload_n 1, 1) := by decide +kernel
theorem dX9_countInHouse_118 : decode cX9_countInHouse 118 = .ok (.bipush 10, 2) := by decide +kernel
theorem dX9_countInHouse_120 : decode cX9_countInHouse 120 = .ok (.irem, 1) := by decide +kernel
theorem dX9_countInHouse_121 : decode cX9_countInHouse 121 = .ok (.invokevirtual 117, 3) := by decide +kernel
theorem dX9_countInHouse_124 : decode cX9_countInHouse 124 = .ok (.ifCond .eq 16, 3) := by decide +kernel
theorem dX9_countInHouse_127 : decode cX9_countInHouse 127 = .ok (.aload_n 0, 1) := by decide +kernel
theorem dX9_countInHouse_128 : decode cX9_countInHouse 128 = .ok (.getfield 12, 3) := by decide +kernel
theorem dX9_countInHouse_131 : decode cX9_countInHouse 131 = .ok (.getfield 120, 3) := by decide +kernel
theorem dX9_countInHouse_134 : decode cX9_countInHouse 134 = .ok (.iload_n 1, 1) := by decide +kernel
theorem dX9_countInHouse_135 : decode cX9_countInHouse 135 = .ok (.bipush 100, 2) := by decide +kernel
theorem dX9_countInHouse_137 : decode cX9_countInHouse 137 = .ok (.isub, 1) := by decide +kernel
theorem dX9_countInHouse_138 : decode cX9_countInHouse 138 = .ok (.iaload, 1) := by decide +kernel
theorem dX9_countInHouse_139 : decode cX9_countInHouse 139 = .ok (.ireturn, 1) := by decide +kernel
theorem dX9_countInHouse_140 : decode cX9_countInHouse 140 = .ok (.iconst (-1), 1) := by decide +kernel
theorem dX9_countInHouse_141 : decode cX9_countInHouse 141 = .ok (.ireturn, 1) := by decide +kernel
theorem dX9_isRoom_0 : decode cX9_isRoom 0 = .ok (.iload_n 0, 1) := by decide +kernel
theorem dX9_isRoom_1 : decode cX9_isRoom 1 = .ok (.ifCond .lt 13, 3) := by decide +kernel
theorem dX9_isRoom_4 : decode cX9_isRoom 4 = .ok (.iload_n 0, 1) := by decide +kernel
theorem dX9_isRoom_5 : decode cX9_isRoom 5 = .ok (.bipush 12, 2) := by decide +kernel
theorem dX9_isRoom_7 : decode cX9_isRoom 7 = .ok (.if_icmp .ge 7, 3) := by decide +kernel
theorem dX9_isRoom_10 : decode cX9_isRoom 10 = .ok (.iconst 1, 1) := by decide +kernel
theorem dX9_isRoom_11 : decode cX9_isRoom 11 = .ok (.goto 4, 3) := by decide +kernel
theorem dX9_isRoom_14 : decode cX9_isRoom 14 = .ok (.iconst 0, 1) := by decide +kernel
theorem dX9_isRoom_15 : decode cX9_isRoom 15 = .ok (.ireturn, 1) := by decide +kernel
theorem dX9_isNight_0 : decode cX9_isNight 0 = .ok (.iload_n 0, 1) := by decide +kernel
theorem dX9_isNight_1 : decode cX9_isNight 1 = .ok (.ifCond .lt 13, 3) := by decide +kernel
theorem dX9_isNight_4 : decode cX9_isNight 4 = .ok (.iload_n 0, 1) := by decide +kernel
theorem dX9_isNight_5 : decode cX9_isNight 5 = .ok (.bipush 7, 2) := by decide +kernel
theorem dX9_isNight_7 : decode cX9_isNight 7 = .ok (.if_icmp .ge 7, 3) := by decide +kernel
theorem dX9_isNight_10 : decode cX9_isNight 10 = .ok (.iconst 1, 1) := by decide +kernel
theorem dX9_isNight_11 : decode cX9_isNight 11 = .ok (.goto 4, 3) := by decide +kernel
theorem dX9_isNight_14 : decode cX9_isNight 14 = .ok (.iconst 0, 1) := by decide +kernel
theorem dX9_isNight_15 : decode cX9_isNight 15 = .ok (.ireturn, 1) := by decide +kernel
theorem dX9_isDigit_0 : decode cX9_isDigit 0 = .ok (.iload_n 0, 1) := by decide +kernel
theorem dX9_isDigit_1 : decode cX9_isDigit 1 = .ok (.ifCond .lt 13, 3) := by decide +kernel
theorem dX9_isDigit_4 : decode cX9_isDigit 4 = .ok (.iload_n 0, 1) := by decide +kernel
theorem dX9_isDigit_5 : decode cX9_isDigit 5 = .ok (.bipush 9, 2) := by decide +kernel
theorem dX9_isDigit_7 : decode cX9_isDigit 7 = .ok (.if_icmp .gt 7, 3) := by decide +kernel
theorem dX9_isDigit_10 : decode cX9_isDigit 10 = .ok (.iconst 1, 1) := by decide +kernel
theorem dX9_isDigit_11 : decode cX9_isDigit 11 = .ok (.goto 4, 3) := by decide +kernel
theorem dX9_isDigit_14 : decode cX9_isDigit 14 = .ok (.iconst 0, 1) := by decide +kernel
theorem dX9_isDigit_15 : decode cX9_isDigit 15 = .ok (.ireturn, 1) := by decide +kernel
theorem dX9_areSleepers_0 : decode cX9_areSleepers 0 = .ok (.iload_n 1, 1) := by decide +kernel
theorem dX9_areSleepers_1 : decode cX9_areSleepers 1 = .ok (.ifCond .eq 21, 3) := by decide +kernel
theorem dX9_areSleepers_4 : decode cX9_areSleepers 4 = .ok (.iload_n 1, 1) := by decide +kernel
theorem dX9_areSleepers_5 : decode cX9_areSleepers 5 = .ok (.aload_n 0, 1) := by decide +kernel
theorem dX9_areSleepers_6 : decode cX9_areSleepers 6 = .ok (.getfield 12, 3) := by decide +kernel
theorem dX9_areSleepers_9 : decode cX9_areSleepers 9 = .ok (.getfield 229, 3) := by decide +kernel
theorem dX9_areSleepers_12 : decode cX9_areSleepers 12 = .ok (.iconst (-1), 1) := by decide +kernel
theorem dX9_areSleepers_13 : decode cX9_areSleepers 13 = .ok (.ixor, 1) := by decide +kernel
theorem dX9_areSleepers_14 : decode cX9_areSleepers 14 = .ok (.iand, 1) := by decide +kernel
theorem dX9_areSleepers_15 : decode cX9_areSleepers 15 = .ok (.ifCond .ne 7, 3) := by decide +kernel
theorem dX9_areSleepers_18 : decode cX9_areSleepers 18 = .ok (.iconst 1, 1) := by decide +kernel
theorem dX9_areSleepers_19 : decode cX9_areSleepers 19 = .ok (.goto 4, 3) := by decide +kernel
theorem dX9_areSleepers_22 : decode cX9_areSleepers 22 = .ok (.iconst 0, 1) := by decide +kernel
theorem dX9_areSleepers_23 : decode cX9_areSleepers 23 = .ok (.ireturn, 1) := by decide +kernel
theorem dX9_isSum_0 : decode cX9_isSum 0 = .ok (.iload_n 2, 1) := by decide +kernel
theorem dX9_isSum_1 : decode cX9_isSum 1 = .ok (.ifCond .lt 9, 3) := by decide +kernel
theorem dX9_isSum_4 : decode cX9_isSum 4 = .ok (.iload_n 2, 1) := by decide +kernel
theorem dX9_isSum_5 : decode cX9_isSum 5 = .ok (.aload_n 1, 1) := by decide +kernel
theorem dX9_isSum_6 : decode cX9_isSum 6 = .ok (.arraylength, 1) := by decide +kernel
theorem dX9_isSum_7 : decode cX9_isSum 7 = .ok (.if_icmp .lt 5, 3) := by decide +kernel
theorem dX9_isSum_10 : decode cX9_isSum 10 = .ok (.iconst 0, 1) := by decide +kernel
theorem dX9_isSum_11 : decode cX9_isSum 11 = .ok (.ireturn, 1) := by decide +kernel
theorem dX9_isSum_12 : decode cX9_isSum 12 = .ok (.iload_n 2, 1) := by decide +kernel
theorem dX9_isSum_13 : decode cX9_isSum 13 = .ok (.bipush 10, 2) := by decide +kernel
theorem dX9_isSum_15 : decode cX9_isSum 15 = .ok (.if_icmp .ge 14, 3) := by decide +kernel
theorem dX9_isSum_18 : decode cX9_isSum 18 = .ok (.iload_n 2, 1) := by decide +kernel
theorem dX9_isSum_19 : decode cX9_isSum 19 = .ok (.iconst 4, 1) := by decide +kernel
theorem dX9_isSum_20 : decode cX9_isSum 20 = .ok (.if_icmp .gt 7, 3) := by decide +kernel
theorem dX9_isSum_23 : decode cX9_isSum 23 = .ok (.iconst 1, 1) := by decide +kernel
theorem dX9_isSum_24 : decode cX9_isSum 24 = .ok (.goto 4, 3) := by decide +kernel
theorem dX9_isSum_27 : decode cX9_isSum 27 = .ok (.iconst 0, 1) := by decide +kernel
theorem dX9_isSum_28 : decode cX9_isSum 28 = .ok (.ireturn, 1) := by decide +kernel
theorem dX9_isSum_29 : decode cX9_isSum 29 = .ok (.iload_n 2, 1) := by decide +kernel
theorem dX9_isSum_30 : decode cX9_isSum 30 = .ok (.bipush 20, 2) := by decide +kernel
theorem dX9_isSum_32 : decode cX9_isSum 32 = .ok (.if_icmp .ge 15, 3) := by decide +kernel
theorem dX9_isSum_35 : decode cX9_isSum 35 = .ok (.aload_n 0, 1) := by decide +kernel
theorem dX9_isSum_36 : decode cX9_isSum 36 = .ok (.getfield 12, 3) := by decide +kernel
theorem dX9_isSum_39 : decode cX9_isSum 39 = .ok (.iload_n 2, 1) := by decide +kernel
theorem dX9_isSum_40 : decode cX9_isSum 40 = .ok (.bipush 10, 2) := by decide +kernel
theorem dX9_isSum_42 : decode cX9_isSum 42 = .ok (.isub, 1) := by decide +kernel
theorem dX9_isSum_43 : decode cX9_isSum 43 = .ok (.invokevirtual 117, 3) := by decide +kernel
theorem dX9_isSum_46 : decode cX9_isSum 46 = .ok (.ireturn, 1) := by decide +kernel
theorem dX9_isSum_47 : decode cX9_isSum 47 = .ok (.iload_n 2, 1) := by decide +kernel
theorem dX9_isSum_48 : decode cX9_isSum 48 = .ok (.bipush 40, 2) := by decide +kernel
theorem dX9_isSum_50 : decode cX9_isSum 50 = .ok (.if_icmp .ge 17, 3) := by decide +kernel
theorem dX9_isSum_53 : decode cX9_isSum 53 = .ok (.aload_n 0, 1) := by decide +kernel
theorem dX9_isSum_54 : decode cX9_isSum 54 = .ok (.getfield 12, 3) := by decide +kernel
theorem dX9_isSum_57 : decode cX9_isSum 57 = .ok (.iload_n 2, 1) := by decide +kernel
theorem dX9_isSum_58 : decode cX9_isSum 58 = .ok (.bipush 10, 2) := by decide +kernel
theorem dX9_isSum_60 : decode cX9_isSum 60 = .ok (.irem, 1) := by decide +kernel
theorem dX9_isSum_61 : decode cX9_isSum 61 = .ok (.invokevirtual 178, 3) := by decide +kernel
theorem dX9_isSum_64 : decode cX9_isSum 64 = .ok (.ifCond .eq 7, 3) := by decide +kernel
theorem dX9_isSum_67 : decode cX9_isSum 67 = .ok (.iconst 1, 1) := by decide +kernel
theorem dX9_isSum_68 : decode cX9_isSum 68 = .ok (.goto 4, 3) := by decide +kernel
theorem dX9_isSum_71 : decode cX9_isSum 71 = .ok (.iconst 0, 1) := by decide +kernel
theorem dX9_isSum_72 : decode cX9_isSum 72 = .ok (.ireturn, 1) := by decide +kernel
theorem dX9_gainByMending_0 : decode cX9_gainByMending 0 = .ok (.aload_n 0, 1) := by decide +kernel
theorem dX9_gainByMending_1 : decode cX9_gainByMending 1 = .ok (.getfield 12, 3) := by decide +kernel
theorem dX9_gainByMending_4 : decode cX9_gainByMending 4 = .ok (.getfield 243, 3) := by decide +kernel
theorem dX9_gainByMending_7 : decode cX9_gainByMending 7 = .ok (.iload_n 1, 1) := by decide +kernel
theorem dX9_gainByMending_8 : decode cX9_gainByMending 8 = .ok (.iaload, 1) := by decide +kernel
theorem dX9_gainByMending_9 : decode cX9_gainByMending 9 = .ok (.istore_n 2, 1) := by decide +kernel
theorem dX9_gainByMending_10 : decode cX9_gainByMending 10 = .ok (.iload_n 2, 1) := by decide +kernel
theorem dX9_gainByMending_11 : decode cX9_gainByMending 11 = .ok (.bipush 9, 2) := by decide +kernel
theorem dX9_gainByMending_13 : decode cX9_gainByMending 13 = .ok (.if_icmp .lt 5, 3) := by decide +kernel
theorem dX9_gainByMending_16 : decode cX9_gainByMending 16 = .ok (.iconst 0, 1) := by decide +kernel
theorem dX9_gainByMending_17 : decode cX9_gainByMending 17 = .ok (.ireturn, 1) := by decide +kernel
theorem dX9_gainByMending_18 : decode cX9_gainByMending 18 = .ok (.aload_n 0, 1) := by decide +kernel
theorem dX9_gainByMending_19 : decode cX9_gainByMending 19 = .ok (.getfield 69, 3) := by decide +kernel
theorem dX9_gainByMending_22 : decode cX9_gainByMending 22 = .ok (.invokevirtual 192, 3) := by decide +kernel
theorem dX9_gainByMending_25 : decode cX9_gainByMending 25 = .ok (.aload_n 0, 1) := by decide +kernel
theorem dX9_gainByMending_26 : decode cX9_gainByMending 26 = .ok (.getfield 69, 3) := by decide +kernel
theorem dX9_gainByMending_29 : decode cX9_gainByMending 29 = .ok (.getfield 185, 3) := by decide +kernel
theorem dX9_gainByMending_32 : decode cX9_gainByMending 32 = .ok (.iconst 0, 1) := by decide +kernel
theorem dX9_gainByMending_33 : decode cX9_gainByMending 33 = .ok (.iaload, 1) := by decide +kernel
theorem dX9_gainByMending_34 : decode cX9_gainByMending 34 = .ok (.istore_n 3, 1) := by decide +kernel
theorem dX9_gainByMending_35 : decode cX9_gainByMending 35 = .ok (.aload_n 0, 1) := by decide +kernel
theorem dX9_gainByMending_36 : decode cX9_gainByMending 36 = .ok (.getfield 12, 3) := by decide +kernel
theorem dX9_gainByMending_39 : decode cX9_gainByMending 39 = .ok (.getfield 243, 3) := by decide +kernel
theorem dX9_gainByMending_42 : decode cX9_gainByMending 42 = .ok (.iload_n 1, 1) := by decide +kernel
theorem dX9_gainByMending_43 : decode cX9_gainByMending 43 = .ok (.iload_n 2, 1) := by decide +kernel
theorem dX9_gainByMending_44 : decode cX9_gainByMending 44 = .ok (.iconst 1, 1) := by decide +kernel
theorem dX9_gainByMending_45 : decode cX9_gainByMending 45 = .ok (.iadd, 1) := by decide +kernel
theorem dX9_gainByMending_46 : decode cX9_gainByMending 46 = .ok (.iastore, 1) := by decide +kernel
theorem dX9_gainByMending_47 : decode cX9_gainByMending 47 = .ok (.aload_n 0, 1) := by decide +kernel
theorem dX9_gainByMending_48 : decode cX9_gainByMending 48 = .ok (.getfield 69, 3) := by decide +kernel
theorem dX9_gainByMending_51 : decode cX9_gainByMending 51 = .ok (.invokevirtual 192, 3) := by decide +kernel
theorem dX9_gainByMending_54 : decode cX9_gainByMending 54 = .ok (.aload_n 0, 1) := by decide +kernel
theorem dX9_gainByMending_55 : decode cX9_gainByMending 55 = .ok (.getfield 12, 3) := by decide +kernel
theorem dX9_gainByMending_58 : decode cX9_gainByMending 58 = .ok (.getfield 243, 3) := by decide +kernel
theorem dX9_gainByMending_61 : decode cX9_gainByMending 61 = .ok (.iload_n 1, 1) := by decide +kernel
theorem dX9_gainByMending_62 : decode cX9_gainByMending 62 = .ok (.iload_n 2, 1) := by decide +kernel
theorem dX9_gainByMending_63 : decode cX9_gainByMending 63 = .ok (.iastore, 1) := by decide +kernel
theorem dX9_gainByMending_64 : decode cX9_gainByMending 64 = .ok (.aload_n 0, 1) := by decide +kernel
theorem dX9_gainByMending_65 : decode cX9_gainByMending 65 = .ok (.getfield 69, 3) := by decide +kernel
theorem dX9_gainByMending_68 : decode cX9_gainByMending 68 = .ok (.getfield 185, 3) := by decide +kernel
theorem dX9_gainByMending_71 : decode cX9_gainByMending 71 = .ok (.iconst 0, 1) := by decide +kernel
theorem dX9_gainByMending_72 : decode cX9_gainByMending 72 = .ok (.iaload, 1) := by decide +kernel
theorem dX9_gainByMending_73 : decode cX9_gainByMending 73 = .ok (.iload_n 3, 1) := by decide +kernel
theorem dX9_gainByMending_74 : decode cX9_gainByMending 74 = .ok (.isub, 1) := by decide +kernel
theorem dX9_gainByMending_75 : decode cX9_gainByMending 75 = .ok (.ireturn, 1) := by decide +kernel
theorem dX9_weighChains_0 : decode cX9_weighChains 0 = .ok (.aload_n 0, 1) := by decide +kernel
theorem dX9_weighChains_1 : decode cX9_weighChains 1 = .ok (.getfield 89, 3) := by decide +kernel
theorem dX9_weighChains_4 : decode cX9_weighChains 4 = .ok (.iconst 0, 1) := by decide +kernel
theorem dX9_weighChains_5 : decode cX9_weighChains 5 = .ok (.invokestatic 281, 3) := by decide +kernel
theorem dX9_weighChains_8 : decode cX9_weighChains 8 = .ok (.iconst 0, 1) := by decide +kernel
theorem dX9_weighChains_9 : decode cX9_weighChains 9 = .ok (.istore_n 2, 1) := by decide +kernel
theorem dX9_weighChains_10 : decode cX9_weighChains 10 = .ok (.iconst 0, 1) := by decide +kernel
theorem dX9_weighChains_11 : decode cX9_weighChains 11 = .ok (.istore_n 3, 1) := by decide +kernel
theorem dX9_weighChains_12 : decode cX9_weighChains 12 = .ok (.iload_n 3, 1) := by decide +kernel
theorem dX9_weighChains_13 : decode cX9_weighChains 13 = .ok (.aload_n 0, 1) := by decide +kernel
theorem dX9_weighChains_14 : decode cX9_weighChains 14 = .ok (.getfield 29, 3) := by decide +kernel
theorem dX9_weighChains_17 : decode cX9_weighChains 17 = .ok (.getfield 152, 3) := by decide +kernel
theorem dX9_weighChains_20 : decode cX9_weighChains 20 = .ok (.if_icmp .ge 105, 3) := by decide +kernel
theorem dX9_weighChains_23 : decode cX9_weighChains 23 = .ok (.aload_n 0, 1) := by decide +kernel
theorem dX9_weighChains_24 : decode cX9_weighChains 24 = .ok (.getfield 29, 3) := by decide +kernel
theorem dX9_weighChains_27 : decode cX9_weighChains 27 = .ok (.getfield 165, 3) := by decide +kernel
theorem dX9_weighChains_30 : decode cX9_weighChains 30 = .ok (.iload_n 3, 1) := by decide +kernel
theorem dX9_weighChains_31 : decode cX9_weighChains 31 = .ok (.iaload, 1) := by decide +kernel
theorem dX9_weighChains_32 : decode cX9_weighChains 32 = .ok (.iload_n 1, 1) := by decide +kernel
theorem dX9_weighChains_33 : decode cX9_weighChains 33 = .ok (.if_icmp .ne 86, 3) := by decide +kernel
theorem dX9_weighChains_36 : decode cX9_weighChains 36 = .ok (.aload_n 0, 1) := by decide +kernel
theorem dX9_weighChains_37 : decode cX9_weighChains 37 = .ok (.getfield 29, 3) := by decide +kernel
theorem dX9_weighChains_40 : decode cX9_weighChains 40 = .ok (.iload_n 3, 1) := by decide +kernel
theorem dX9_weighChains_41 : decode cX9_weighChains 41 = .ok (.aload_n 0, 1) := by decide +kernel
theorem dX9_weighChains_42 : decode cX9_weighChains 42 = .ok (.getfield 12, 3) := by decide +kernel
theorem dX9_weighChains_45 : decode cX9_weighChains 45 = .ok (.invokevirtual 174, 3) := by decide +kernel
theorem dX9_weighChains_48 : decode cX9_weighChains 48 = .ok (.ifCond .eq 71, 3) := by decide +kernel
theorem dX9_weighChains_51 : decode cX9_weighChains 51 = .ok (.aload_n 0, 1) := by decide +kernel
theorem dX9_weighChains_52 : decode cX9_weighChains 52 = .ok (.getfield 29, 3) := by decide +kernel
theorem dX9_weighChains_55 : decode cX9_weighChains 55 = .ok (.getfield 162, 3) := by decide +kernel
theorem dX9_weighChains_58 : decode cX9_weighChains 58 = .ok (.iload_n 3, 1) := by decide +kernel
theorem dX9_weighChains_59 : decode cX9_weighChains 59 = .ok (.iaload, 1) := by decide +kernel
theorem dX9_weighChains_60 : decode cX9_weighChains 60 = .ok (.istore 4, 2) := by decide +kernel
theorem dX9_weighChains_62 : decode cX9_weighChains 62 = .ok (.aload_n 0, 1) := by decide +kernel
theorem dX9_weighChains_63 : decode cX9_weighChains 63 = .ok (.getfield 60, 3) := by decide +kernel
theorem dX9_weighChains_66 : decode cX9_weighChains 66 = .ok (.iload 4, 2) := by decide +kernel
theorem dX9_weighChains_68 : decode cX9_weighChains 68 = .ok (.iload_n 1, 1) := by decide +kernel
theorem dX9_weighChains_69 : decode cX9_weighChains 69 = .ok (.aload_n 0, 1) := by decide +kernel
theorem dX9_weighChains_70 : decode cX9_weighChains 70 = .ok (.getfield 29, 3) := by decide +kernel
theorem dX9_weighChains_73 : decode cX9_weighChains 73 = .ok (.getfield 168, 3) := by decide +kernel
theorem dX9_weighChains_76 : decode cX9_weighChains 76 = .ok (.iload_n 3, 1) := by decide +kernel
theorem dX9_weighChains_77 : decode cX9_weighChains 77 = .ok (.iaload, 1) := by decide +kernel
theorem dX9_weighChains_78 : decode cX9_weighChains 78 = .ok (.iconst 0, 1) := by decide +kernel
theorem dX9_weighChains_79 : decode cX9_weighChains 79 = .ok (.invokevirtual 225, 3) := by decide +kernel
theorem dX9_weighChains_82 : decode cX9_weighChains 82 = .ok (.istore 5, 2) := by decide +kernel
theorem dX9_weighChains_84 : decode cX9_weighChains 84 = .ok (.aload_n 0, 1) := by decide +kernel
theorem dX9_weighChains_85 : decode cX9_weighChains 85 = .ok (.getfield 89, 3) := by decide +kernel
theorem dX9_weighChains_88 : decode cX9_weighChains 88 = .ok (.iload 4, 2) := by decide +kernel
theorem dX9_weighChains_90 : decode cX9_weighChains 90 = .ok (.aload_n 0, 1) := by decide +kernel
theorem dX9_weighChains_91 : decode cX9_weighChains 91 = .ok (.getfield 60, 3) := by decide +kernel
theorem dX9_weighChains_94 : decode cX9_weighChains 94 = .ok (.iload 4, 2) := by decide +kernel
theorem dX9_weighChains_96 : decode cX9_weighChains 96 = .ok (.iload_n 1, 1) := by decide +kernel
theorem dX9_weighChains_97 : decode cX9_weighChains 97 = .ok (.aload_n 0, 1) := by decide +kernel
theorem dX9_weighChains_98 : decode cX9_weighChains 98 = .ok (.getfield 29, 3) := by decide +kernel
theorem dX9_weighChains_101 : decode cX9_weighChains 101 = .ok (.getfield 168, 3) := by decide +kernel
theorem dX9_weighChains_104 : decode cX9_weighChains 104 = .ok (.iload_n 3, 1) := by decide +kernel
theorem dX9_weighChains_105 : decode cX9_weighChains 105 = .ok (.iaload, 1) := by decide +kernel
theorem dX9_weighChains_106 : decode cX9_weighChains 106 = .ok (.iconst 1, 1) := by decide +kernel
theorem dX9_weighChains_107 : decode cX9_weighChains 107 = .ok (.invokevirtual 225, 3) := by decide +kernel
theorem dX9_weighChains_110 : decode cX9_weighChains 110 = .ok (.iload 5, 2) := by decide +kernel
theorem dX9_weighChains_112 : decode cX9_weighChains 112 = .ok (.isub, 1) := by decide +kernel
theorem dX9_weighChains_113 : decode cX9_weighChains 113 = .ok (.iastore, 1) := by decide +kernel
theorem dX9_weighChains_114 : decode cX9_weighChains 114 = .ok (.iload_n 2, 1) := by decide +kernel
theorem dX9_weighChains_115 : decode cX9_weighChains 115 = .ok (.iload 5, 2) := by decide +kernel
theorem dX9_weighChains_117 : decode cX9_weighChains 117 = .ok (.iadd, 1) := by decide +kernel
theorem dX9_weighChains_118 : decode cX9_weighChains 118 = .ok (.istore_n 2, 1) := by decide +kernel
theorem dX9_weighChains_119 : decode cX9_weighChains 119 = .ok (.iinc 3 1, 3) := by decide +kernel
theorem dX9_weighChains_122 : decode cX9_weighChains 122 = .ok (.goto (-110), 3) := by decide +kernel
theorem dX9_weighChains_125 : decode cX9_weighChains 125 = .ok (.iload_n 2, 1) := by decide +kernel
theorem dX9_weighChains_126 : decode cX9_weighChains 126 = .ok (.ireturn, 1) := by decide +kernel
theorem dX9_dearest_0 : decode cX9_dearest 0 = .ok (.iconst 0, 1) := by decide +kernel
theorem dX9_dearest_1 : decode cX9_dearest 1 = .ok (.istore_n 1, 1) := by decide +kernel
theorem dX9_dearest_2 : decode cX9_dearest 2 = .ok (.iconst 1, 1) := by decide +kernel
theorem dX9_dearest_3 : decode cX9_dearest 3 = .ok (.istore_n 2, 1) := by decide +kernel
theorem dX9_dearest_4 : decode cX9_dearest 4 = .ok (.iload_n 2, 1) := by decide +kernel
theorem dX9_dearest_5 : decode cX9_dearest 5 = .ok (.bipush 10, 2) := by decide +kernel
theorem dX9_dearest_7 : decode cX9_dearest 7 = .ok (.if_icmp .ge 26, 3) := by decide +kernel
theorem dX9_dearest_10 : decode cX9_dearest 10 = .ok (.aload_n 0, 1) := by decide +kernel
theorem dX9_dearest_11 : decode cX9_dearest 11 = .ok (.getfield 89, 3) := by decide +kernel
theorem dX9_dearest_14 : decode cX9_dearest 14 = .ok (.iload_n 2, 1) := by decide +kernel
theorem dX9_dearest_15 : decode cX9_dearest 15 = .ok (.iaload, 1) := by decide +kernel
theorem dX9_dearest_16 : decode cX9_dearest 16 = .ok (.aload_n 0, 1) := by decide +kernel
theorem dX9_dearest_17 : decode cX9_dearest 17 = .ok (.getfield 89, 3) := by decide +kernel
theorem dX9_dearest_20 : decode cX9_dearest 20 = .ok (.iload_n 1, 1) := by decide +kernel
theorem dX9_dearest_21 : decode cX9_dearest 21 = .ok (.iaload, 1) := by decide +kernel
theorem dX9_dearest_22 : decode cX9_dearest 22 = .ok (.if_icmp .le 5, 3) := by decide +kernel
theorem dX9_dearest_25 : decode cX9_dearest 25 = .ok (.iload_n 2, 1) := by decide +kernel
theorem dX9_dearest_26 : decode cX9_dearest 26 = .ok (.istore_n 1, 1) := by decide +kernel
theorem dX9_dearest_27 : decode cX9_dearest 27 = .ok (.iinc 2 1, 3) := by decide +kernel
theorem dX9_dearest_30 : decode cX9_dearest 30 = .ok (.goto (-26), 3) := by decide +kernel
theorem dX9_dearest_33 : decode cX9_dearest 33 = .ok (.iload_n 1, 1) := by decide +kernel
theorem dX9_dearest_34 : decode cX9_dearest 34 = .ok (.ireturn, 1) := by decide +kernel
theorem dX9_nextOff_0 : decode cX9_nextOff 0 = .ok (.iconst (-1), 1) := by decide +kernel
theorem dX9_nextOff_1 : decode cX9_nextOff 1 = .ok (.istore_n 2, 1) := by decide +kernel
theorem dX9_nextOff_2 : decode cX9_nextOff 2 = .ok (.iload_n 1, 1) := by decide +kernel
theorem dX9_nextOff_3 : decode cX9_nextOff 3 = .ok (.istore_n 3, 1) := by decide +kernel
theorem dX9_nextOff_4 : decode cX9_nextOff 4 = .ok (.iconst 0, 1) := by decide +kernel
theorem dX9_nextOff_5 : decode cX9_nextOff 5 = .ok (.istore 4, 2) := by decide +kernel
theorem dX9_nextOff_7 : decode cX9_nextOff 7 = .ok (.iload 4, 2) := by decide +kernel
theorem dX9_nextOff_9 : decode cX9_nextOff 9 = .ok (.bipush 10, 2) := by decide +kernel
theorem dX9_nextOff_11 : decode cX9_nextOff 11 = .ok (.if_icmp .ge 77, 3) := by decide +kernel
theorem dX9_nextOff_14 : decode cX9_nextOff 14 = .ok (.iload_n 3, 1) := by decide +kernel
theorem dX9_nextOff_15 : decode cX9_nextOff 15 = .ok (.ifCond .le 73, 3) := by decide +kernel
theorem dX9_nextOff_18 : decode cX9_nextOff 18 = .ok (.aload_n 0, 1) := by decide +kernel
theorem dX9_nextOff_19 : decode cX9_nextOff 19 = .ok (.getfield 12, 3) := by decide +kernel
theorem dX9_nextOff_22 : decode cX9_nextOff 22 = .ok (.iload 4, 2) := by decide +kernel
theorem dX9_nextOff_24 : decode cX9_nextOff 24 = .ok (.invokevirtual 178, 3) := by decide +kernel
theorem dX9_nextOff_27 : decode cX9_nextOff 27 = .ok (.ifCond .eq 55, 3) := by decide +kernel
theorem dX9_nextOff_30 : decode cX9_nextOff 30 = .ok (.iinc 3 (-1), 3) := by decide +kernel
theorem dX9_nextOff_33 : decode cX9_nextOff 33 = .ok (.iload_n 2, 1) := by decide +kernel
theorem dX9_nextOff_34 : decode cX9_nextOff 34 = .ok (.iconst (-1), 1) := by decide +kernel
theorem dX9_nextOff_35 : decode cX9_nextOff 35 = .ok (.if_icmp .eq 44, 3) := by decide +kernel
theorem dX9_nextOff_38 : decode cX9_nextOff 38 = .ok (.aload_n 0, 1) := by decide +kernel
theorem dX9_nextOff_39 : decode cX9_nextOff 39 = .ok (.getfield 12, 3) := by decide +kernel
theorem dX9_nextOff_42 : decode cX9_nextOff 42 = .ok (.getfield 313, 3) := by decide +kernel
theorem dX9_nextOff_45 : decode cX9_nextOff 45 = .ok (.iload 4, 2) := by decide +kernel
theorem dX9_nextOff_47 : decode cX9_nextOff 47 = .ok (.iaload, 1) := by decide +kernel
theorem dX9_nextOff_48 : decode cX9_nextOff 48 = .ok (.aload_n 0, 1) := by decide +kernel
theorem dX9_nextOff_49 : decode cX9_nextOff 49 = .ok (.getfield 89, 3) := by decide +kernel
theorem dX9_nextOff_52 : decode cX9_nextOff 52 = .ok (.iload_n 2, 1) := by decide +kernel
theorem dX9_nextOff_53 : decode cX9_nextOff 53 = .ok (.iaload, 1) := by decide +kernel
theorem dX9_nextOff_54 : decode cX9_nextOff 54 = .ok (.iconst 1, 1) := by decide +kernel
theorem dX9_nextOff_55 : decode cX9_nextOff 55 = .ok (.iadd, 1) := by decide +kernel
theorem dX9_nextOff_56 : decode cX9_nextOff 56 = .ok (.imul, 1) := by decide +kernel
theorem dX9_nextOff_57 : decode cX9_nextOff 57 = .ok (.aload_n 0, 1) := by decide +kernel
theorem dX9_nextOff_58 : decode cX9_nextOff 58 = .ok (.getfield 12, 3) := by decide +kernel
theorem dX9_nextOff_61 : decode cX9_nextOff 61 = .ok (.getfield 313, 3) := by decide +kernel
theorem dX9_nextOff_64 : decode cX9_nextOff 64 = .ok (.iload_n 2, 1) := by decide +kernel
theorem dX9_nextOff_65 : decode cX9_nextOff 65 = .ok (.iaload, 1) := by decide +kernel
theorem dX9_nextOff_66 : decode cX9_nextOff 66 = .ok (.aload_n 0, 1) := by decide +kernel
theorem dX9_nextOff_67 : decode cX9_nextOff 67 = .ok (.getfield 89, 3) := by decide +kernel
theorem dX9_nextOff_70 : decode cX9_nextOff 70 = .ok (.iload 4, 2) := by decide +kernel
theorem dX9_nextOff_72 : decode cX9_nextOff 72 = .ok (.iaload, 1) := by decide +kernel
theorem dX9_nextOff_73 : decode cX9_nextOff 73 = .ok (.iconst 1, 1) := by decide +kernel
theorem dX9_nextOff_74 : decode cX9_nextOff 74 = .ok (.iadd, 1) := by decide +kernel
theorem dX9_nextOff_75 : decode cX9_nextOff 75 = .ok (.imul, 1) := by decide +kernel
theorem dX9_nextOff_76 : decode cX9_nextOff 76 = .ok (.if_icmp .le 6, 3) := by decide +kernel
theorem dX9_nextOff_79 : decode cX9_nextOff 79 = .ok (.iload 4, 2) := by decide +kernel
theorem dX9_nextOff_81 : decode cX9_nextOff 81 = .ok (.istore_n 2, 1) := by decide +kernel
theorem dX9_nextOff_82 : decode cX9_nextOff 82 = .ok (.iinc 4 1, 3) := by decide +kernel
theorem dX9_nextOff_85 : decode cX9_nextOff 85 = .ok (.goto (-78), 3) := by decide +kernel
theorem dX9_nextOff_88 : decode cX9_nextOff 88 = .ok (.iload_n 2, 1) := by decide +kernel
theorem dX9_nextOff_89 : decode cX9_nextOff 89 = .ok (.iconst (-1), 1) := by decide +kernel
theorem dX9_nextOff_90 : decode cX9_nextOff 90 = .ok (.if_icmp .ne 7, 3) := by decide +kernel
theorem dX9_nextOff_93 : decode cX9_nextOff 93 = .ok (.iconst 0, 1) := by decide +kernel
theorem dX9_nextOff_94 : decode cX9_nextOff 94 = .ok (.goto 4, 3) := by decide +kernel
theorem dX9_nextOff_97 : decode cX9_nextOff 97 = .ok (.iload_n 2, 1) := by decide +kernel
theorem dX9_nextOff_98 : decode cX9_nextOff 98 = .ok (.ireturn, 1) := by decide +kernel
theorem dX9_gainOfFirst_0 : decode cX9_gainOfFirst 0 = .ok (.iload_n 1, 1) := by decide +kernel
theorem dX9_gainOfFirst_1 : decode cX9_gainOfFirst 1 = .ok (.iload_n 2, 1) := by decide +kernel
theorem dX9_gainOfFirst_2 : decode cX9_gainOfFirst 2 = .ok (.if_icmp .lt 9, 3) := by decide +kernel
theorem dX9_gainOfFirst_5 : decode cX9_gainOfFirst 5 = .ok (.iload_n 0, 1) := by decide +kernel
theorem dX9_gainOfFirst_6 : decode cX9_gainOfFirst 6 = .ok (.iload_n 1, 1) := by decide +kernel
theorem dX9_gainOfFirst_7 : decode cX9_gainOfFirst 7 = .ok (.isub, 1) := by decide +kernel
theorem dX9_gainOfFirst_8 : decode cX9_gainOfFirst 8 = .ok (.goto 4, 3) := by decide +kernel
theorem dX9_gainOfFirst_11 : decode cX9_gainOfFirst 11 = .ok (.iconst 0, 1) := by decide +kernel
theorem dX9_gainOfFirst_12 : decode cX9_gainOfFirst 12 = .ok (.ireturn, 1) := by decide +kernel
theorem dX9_gainOfSecond_0 : decode cX9_gainOfSecond 0 = .ok (.iload_n 2, 1) := by decide +kernel
theorem dX9_gainOfSecond_1 : decode cX9_gainOfSecond 1 = .ok (.iload_n 1, 1) := by decide +kernel
theorem dX9_gainOfSecond_2 : decode cX9_gainOfSecond 2 = .ok (.if_icmp .le 9, 3) := by decide +kernel
theorem dX9_gainOfSecond_5 : decode cX9_gainOfSecond 5 = .ok (.iload_n 0, 1) := by decide +kernel
theorem dX9_gainOfSecond_6 : decode cX9_gainOfSecond 6 = .ok (.iload_n 2, 1) := by decide +kernel
theorem dX9_gainOfSecond_7 : decode cX9_gainOfSecond 7 = .ok (.isub, 1) := by decide +kernel
theorem dX9_gainOfSecond_8 : decode cX9_gainOfSecond 8 = .ok (.goto 4, 3) := by decide +kernel
theorem dX9_gainOfSecond_11 : decode cX9_gainOfSecond 11 = .ok (.iconst 0, 1) := by decide +kernel
theorem dX9_gainOfSecond_12 : decode cX9_gainOfSecond 12 = .ok (.ireturn, 1) := by decide +kernel
theorem dX9_isSettled_0 : decode cX9_isSettled 0 = .ok (.iload_n 0, 1) := by decide +kernel
theorem dX9_isSettled_1 : decode cX9_isSettled 1 = .ok (.iload_n 2, 1) := by decide +kernel
theorem dX9_isSettled_2 : decode cX9_isSettled 2 = .ok (.iload_n 3, 1) := by decide +kernel
theorem dX9_isSettled_3 : decode cX9_isSettled 3 = .ok (.invokestatic 316, 3) := by decide +kernel
theorem dX9_isSettled_6 : decode cX9_isSettled 6 = .ok (.istore 4, 2) := by decide +kernel
theorem dX9_isSettled_8 : decode cX9_isSettled 8 = .ok (.iload_n 1, 1) := by decide +kernel
theorem dX9_isSettled_9 : decode cX9_isSettled 9 = .ok (.iload_n 2, 1) := by decide +kernel
theorem dX9_isSettled_10 : decode cX9_isSettled 10 = .ok (.iload_n 3, 1) := by decide +kernel
theorem dX9_isSettled_11 : decode cX9_isSettled 11 = .ok (.invokestatic 319, 3) := by decide +kernel
theorem dX9_isSettled_14 : decode cX9_isSettled 14 = .ok (.istore 5, 2) := by decide +kernel
theorem dX9_isSettled_16 : decode cX9_isSettled 16 = .ok (.iconst 1, 1) := by decide +kernel
theorem dX9_isSettled_17 : decode cX9_isSettled 17 = .ok (.istore 6, 2) := by decide +kernel
theorem dX9_isSettled_19 : decode cX9_isSettled 19 = .ok (.iload 6, 2) := by decide +kernel
theorem dX9_isSettled_21 : decode cX9_isSettled 21 = .ok (.bipush 9, 2) := by decide +kernel
theorem dX9_isSettled_23 : decode cX9_isSettled 23 = .ok (.if_icmp .gt 35, 3) := by decide +kernel
theorem dX9_isSettled_26 : decode cX9_isSettled 26 = .ok (.iload_n 0, 1) := by decide +kernel
theorem dX9_isSettled_27 : decode cX9_isSettled 27 = .ok (.iload 6, 2) := by decide +kernel
theorem dX9_isSettled_29 : decode cX9_isSettled 29 = .ok (.iload_n 3, 1) := by decide +kernel
theorem dX9_isSettled_30 : decode cX9_isSettled 30 = .ok (.invokestatic 316, 3) := by decide +kernel
theorem dX9_isSettled_33 : decode cX9_isSettled 33 = .ok (.iload 4, 2) := by decide +kernel
theorem dX9_isSettled_35 : decode cX9_isSettled 35 = .ok (.if_icmp .gt 15, 3) := by decide +kernel
theorem dX9_isSettled_38 : decode cX9_isSettled 38 = .ok (.iload_n 1, 1) := by decide +kernel
theorem dX9_isSettled_39 : decode cX9_isSettled 39 = .ok (.iload_n 2, 1) := by decide +kernel
theorem dX9_isSettled_40 : decode cX9_isSettled 40 = .ok (.iload 6, 2) := by decide +kernel
theorem dX9_isSettled_42 : decode cX9_isSettled 42 = .ok (.invokestatic 319, 3) := by decide +kernel
theorem dX9_isSettled_45 : decode cX9_isSettled 45 = .ok (.iload 5, 2) := by decide +kernel
theorem dX9_isSettled_47 : decode cX9_isSettled 47 = .ok (.if_icmp .le 5, 3) := by decide +kernel
theorem dX9_isSettled_50 : decode cX9_isSettled 50 = .ok (.iconst 0, 1) := by decide +kernel
theorem dX9_isSettled_51 : decode cX9_isSettled 51 = .ok (.ireturn, 1) := by decide +kernel
theorem dX9_isSettled_52 : decode cX9_isSettled 52 = .ok (.iinc 6 1, 3) := by decide +kernel
theorem dX9_isSettled_55 : decode cX9_isSettled 55 = .ok (.goto (-36), 3) := by decide +kernel
theorem dX9_isSettled_58 : decode cX9_isSettled 58 = .ok (.iconst 1, 1) := by decide +kernel
theorem dX9_isSettled_59 : decode cX9_isSettled 59 = .ok (.ireturn, 1) := by decide +kernel
theorem dX10_init_0 : decode cX10_init 0 = .ok (.aload_n 0, 1) := by decide +kernel
theorem dX10_init_1 : decode cX10_init 1 = .ok (.invokespecial 1, 3) := by decide +kernel
theorem dX10_init_4 : decode cX10_init 4 = .ok (.aload_n 0, 1) := by decide +kernel
theorem dX10_init_5 : decode cX10_init 5 = .ok (.bipush 12, 2) := by decide +kernel
theorem dX10_init_7 : decode cX10_init 7 = .ok (.newarray .int, 2) := by decide +kernel
theorem dX10_init_9 : decode cX10_init 9 = .ok (.putfield 7, 3) := by decide +kernel
theorem dX10_init_12 : decode cX10_init 12 = .ok (.aload_n 0, 1) := by decide +kernel
theorem dX10_init_13 : decode cX10_init 13 = .ok (.bipush 10, 2) := by decide +kernel
theorem dX10_init_15 : decode cX10_init 15 = .ok (.newarray .int, 2) := by decide +kernel
theorem dX10_init_17 : decode cX10_init 17 = .ok (.putfield 13, 3) := by decide +kernel
theorem dX10_init_20 : decode cX10_init 20 = .ok (.aload_n 0, 1) := by decide +kernel
theorem dX10_init_21 : decode cX10_init 21 = .ok (.bipush 70, 2) := by decide +kernel
theorem dX10_init_23 : decode cX10_init 23 = .ok (.newarray .int, 2) := by decide +kernel
theorem dX10_init_25 : decode cX10_init 25 = .ok (.putfield 16, 3) := by decide +kernel
theorem dX10_init_28 : decode cX10_init 28 = .ok (.aload_n 0, 1) := by decide +kernel
theorem dX10_init_29 : decode cX10_init 29 = .ok (.bipush 10, 2) := by decide +kernel
theorem dX10_init_31 : decode cX10_init 31 = .ok (.newarray .int, 2) := by decide +kernel
theorem dX10_init_33 : decode cX10_init 33 = .ok (.putfield 19, 3) := by decide +kernel
theorem dX10_init_36 : decode cX10_init 36 = .ok (.aload_n 0, 1) := by decide +kernel
theorem dX10_init_37 : decode cX10_init 37 = .ok (.bipush 10, 2) := by decide +kernel
theorem dX10_init_39 : decode cX10_init 39 = .ok (.newarray .int, 2) := by decide +kernel
theorem dX10_init_41 : decode cX10_init 41 = .ok (.putfield 22, 3) := by decide +kernel
theorem dX10_init_44 : decode cX10_init 44 = .ok (.aload_n 0, 1) := by decide +kernel
theorem dX10_init_45 : decode cX10_init 45 = .ok (.bipush 10, 2) := by decide +kernel
theorem dX10_init_47 : decode cX10_init 47 = .ok (.newarray .int, 2) := by decide +kernel
theorem dX10_init_49 : decode cX10_init 49 = .ok (.putfield 25, 3) := by decide +kernel
theorem dX10_init_52 : decode cX10_init 52 = .ok (.aload_n 0, 1) := by decide +kernel
theorem dX10_init_53 : decode cX10_init 53 = .ok (.bipush 10, 2) := by decide +kernel
theorem dX10_init_55 : decode cX10_init 55 = .ok (.newarray .int, 2) := by decide +kernel
theorem dX10_init_57 : decode cX10_init 57 = .ok (.putfield 28, 3) := by decide +kernel
theorem dX10_init_60 : decode cX10_init 60 = .ok (.aload_n 0, 1) := by decide +kernel
theorem dX10_init_61 : decode cX10_init 61 = .ok (.bipush 47, 2) := by decide +kernel
theorem dX10_init_63 : decode cX10_init 63 = .ok (.newarray .int, 2) := by decide +kernel
theorem dX10_init_65 : decode cX10_init 65 = .ok (.putfield 31, 3) := by decide +kernel
theorem dX10_init_68 : decode cX10_init 68 = .ok (.aload_n 0, 1) := by decide +kernel
theorem dX10_init_69 : decode cX10_init 69 = .ok (.sipush 220, 3) := by decide +kernel
theorem dX10_init_72 : decode cX10_init 72 = .ok (.newarray .byte, 2) := by decide +kernel
theorem dX10_init_74 : decode cX10_init 74 = .ok (.putfield 34, 3) := by decide +kernel
theorem dX10_init_77 : decode cX10_init 77 = .ok (.aload_n 0, 1) := by decide +kernel
theorem dX10_init_78 : decode cX10_init 78 = .ok (.bipush 16, 2) := by decide +kernel
theorem dX10_init_80 : decode cX10_init 80 = .ok (.newarray .int, 2) := by decide +kernel
theorem dX10_init_82 : decode cX10_init 82 = .ok (.putfield 38, 3) := by decide +kernel
theorem dX10_init_85 : decode cX10_init 85 = .ok (.aload_n 0, 1) := by decide +kernel
theorem dX10_init_86 : decode cX10_init 86 = .ok (.bipush 16, 2) := by decide +kernel
theorem dX10_init_88 : decode cX10_init 88 = .ok (.newarray .int, 2) := by decide +kernel
theorem dX10_init_90 : decode cX10_init 90 = .ok (.putfield 41, 3) := by decide +kernel
theorem dX10_init_93 : decode cX10_init 93 = .ok (.aload_n 0, 1) := by decide +kernel
theorem dX10_init_94 : decode cX10_init 94 = .ok (.bipush 16, 2) := by decide +kernel
theorem dX10_init_96 : decode cX10_init 96 = .ok (.newarray .int, 2) := by decide +kernel
theorem dX10_init_98 : decode cX10_init 98 = .ok (.putfield 44, 3) := by decide +kernel
theorem dX10_init_101 : decode cX10_init 101 = .ok (.aload_n 0, 1) := by decide +kernel
theorem dX10_init_102 : decode cX10_init 102 = .ok (.bipush 16, 2) := by decide +kernel
theorem dX10_init_104 : decode cX10_init 104 = .ok (.newarray .int, 2) := by decide +kernel
theorem dX10_init_106 : decode cX10_init 106 = .ok (.putfield 47, 3) := by decide +kernel
theorem dX10_init_109 : decode cX10_init 109 = .ok (.aload_n 0, 1) := by decide +kernel
theorem dX10_init_110 : decode cX10_init 110 = .ok (.bipush 16, 2) := by decide +kernel
theorem dX10_init_112 : decode cX10_init 112 = .ok (.newarray .int, 2) := by decide +kernel
theorem dX10_init_114 : decode cX10_init 114 = .ok (.putfield 50, 3) := by decide +kernel
theorem dX10_init_117 : decode cX10_init 117 = .ok (.aload_n 0, 1) := by decide +kernel
theorem dX10_init_118 : decode cX10_init 118 = .ok (.bipush 16, 2) := by decide +kernel
theorem dX10_init_120 : decode cX10_init 120 = .ok (.newarray .int, 2) := by decide +kernel
theorem dX10_init_122 : decode cX10_init 122 = .ok (.putfield 53, 3) := by decide +kernel
theorem dX10_init_125 : decode cX10_init 125 = .ok (.aload_n 0, 1) := by decide +kernel
theorem dX10_init_126 : decode cX10_init 126 = .ok (.bipush 16, 2) := by decide +kernel
theorem dX10_init_128 : decode cX10_init 128 = .ok (.newarray .boolean, 2) := by decide +kernel
theorem dX10_init_130 : decode cX10_init 130 = .ok (.putfield 56, 3) := by decide +kernel
theorem dX10_init_133 : decode cX10_init 133 = .ok (.aload_n 0, 1) := by decide +kernel
theorem dX10_init_134 : decode cX10_init 134 = .ok (.bipush 16, 2) := by decide +kernel
theorem dX10_init_136 : decode cX10_init 136 = .ok (.newarray .boolean, 2) := by decide +kernel
theorem dX10_init_138 : decode cX10_init 138 = .ok (.putfield 60, 3) := by decide +kernel
theorem dX10_init_141 : decode cX10_init 141 = .ok (.aload_n 0, 1) := by decide +kernel
theorem dX10_init_142 : decode cX10_init 142 = .ok (.sipush 220, 3) := by decide +kernel
theorem dX10_init_145 : decode cX10_init 145 = .ok (.newarray .int, 2) := by decide +kernel
theorem dX10_init_147 : decode cX10_init 147 = .ok (.putfield 63, 3) := by decide +kernel
theorem dX10_init_150 : decode cX10_init 150 = .ok (.aload_n 0, 1) := by decide +kernel
theorem dX10_init_151 : decode cX10_init 151 = .ok (.sipush 220, 3) := by decide +kernel
theorem dX10_init_154 : decode cX10_init 154 = .ok (.newarray .int, 2) := by decide +kernel
theorem dX10_init_156 : decode cX10_init 156 = .ok (.putfield 66, 3) := by decide +kernel
theorem dX10_init_159 : decode cX10_init 159 = .ok (.aload_n 0, 1) := by decide +kernel
theorem dX10_init_160 : decode cX10_init 160 = .ok (.bipush 14, 2) := by decide +kernel
theorem dX10_init_162 : decode cX10_init 162 = .ok (.newarray .int, 2) := by decide +kernel
theorem dX10_init_164 : decode cX10_init 164 = .ok (.putfield 69, 3) := by decide +kernel
theorem dX10_init_167 : decode cX10_init 167 = .ok (.aload_n 0, 1) := by decide +kernel
theorem dX10_init_168 : decode cX10_init 168 = .ok (.bipush 14, 2) := by decide +kernel
theorem dX10_init_170 : decode cX10_init 170 = .ok (.newarray .int, 2) := by decide +kernel
theorem dX10_init_172 : decode cX10_init 172 = .ok (.putfield 72, 3) := by decide +kernel
theorem dX10_init_175 : decode cX10_init 175 = .ok (.aload_n 0, 1) := by decide +kernel
theorem dX10_init_176 : decode cX10_init 176 = .ok (.bipush 14, 2) := by decide +kernel
theorem dX10_init_178 : decode cX10_init 178 = .ok (.newarray .int, 2) := by decide +kernel
theorem dX10_init_180 : decode cX10_init 180 = .ok (.putfield 75, 3) := by decide +kernel
