theorem dJ7_fill_53178_0 : decode cJ7_fill_53178 0 = .ok (.iconst 0, 1) := by decide +kernel
theorem dJ7_fill_53178_1 : decode cJ7_fill_53178 1 = .ok (.istore_n 2, 1) := by decide +kernel
theorem dJ7_fill_53178_2 : decode cJ7_fill_53178 2 = .ok (.aload_n 0, 1) := by decide +kernel
theorem dJ7_fill_53178_3 : decode cJ7_fill_53178 3 = .ok (.arraylength, 1) := by decide +kernel
theorem dJ7_fill_53178_4 : decode cJ7_fill_53178 4 = .ok (.istore_n 3, 1) := by decide +kernel
theorem dJ7_fill_53178_5 : decode cJ7_fill_53178 5 = .ok (.iload_n 2, 1) := by decide +kernel
theorem dJ7_fill_53178_6 : decode cJ7_fill_53178 6 = .ok (.iload_n 3, 1) := by decide +kernel
theorem dJ7_fill_53178_7 : decode cJ7_fill_53178 7 = .ok (.if_icmp .ge 13, 3) := by decide +kernel
theorem dJ7_fill_53178_10 : decode cJ7_fill_53178 10 = .ok (.aload_n 0, 1) := by decide +kernel
theorem dJ7_fill_53178_11 : decode cJ7_fill_53178 11 = .ok (.iload_n 2, 1) := by decide +kernel
theorem dJ7_fill_53178_12 : decode cJ7_fill_53178 12 = .ok (.iload_n 1, 1) := by decide +kernel
theorem dJ7_fill_53178_13 : decode cJ7_fill_53178 13 = .ok (.iastore, 1) := by decide +kernel
theorem dJ7_fill_53178_14 : decode cJ7_fill_53178 14 = .ok (.iinc 2 1, 3) := by decide +kernel
theorem dJ7_fill_53178_17 : decode cJ7_fill_53178 17 = .ok (.goto (-12), 3) := by decide +kernel
theorem dJ7_fill_53178_20 : decode cJ7_fill_53178 20 = .ok (.return_, 1) := by decide +kernel
theorem dJ7_fill_d0a16_0 : decode cJ7_fill_d0a16 0 = .ok (.iconst 0, 1) := by decide +kernel
theorem dJ7_fill_d0a16_1 : decode cJ7_fill_d0a16 1 = .ok (.istore_n 3, 1) := by decide +kernel
theorem dJ7_fill_d0a16_2 : decode cJ7_fill_d0a16 2 = .ok (.aload_n 0, 1) := by decide +kernel
theorem dJ7_fill_d0a16_3 : decode cJ7_fill_d0a16 3 = .ok (.arraylength, 1) := by decide +kernel
theorem dJ7_fill_d0a16_4 : decode cJ7_fill_d0a16 4 = .ok (.istore 4, 2) := by decide +kernel
theorem dJ7_fill_d0a16_6 : decode cJ7_fill_d0a16 6 = .ok (.iload_n 3, 1) := by decide +kernel
theorem dJ7_fill_d0a16_7 : decode cJ7_fill_d0a16 7 = .ok (.iload 4, 2) := by decide +kernel
theorem dJ7_fill_d0a16_9 : decode cJ7_fill_d0a16 9 = .ok (.if_icmp .ge 13, 3) := by decide +kernel
theorem dJ7_fill_d0a16_12 : decode cJ7_fill_d0a16 12 = .ok (.aload_n 0, 1) := by decide +kernel
theorem dJ7_fill_d0a16_13 : decode cJ7_fill_d0a16 13 = .ok (.iload_n 3, 1) := by decide +kernel
theorem dJ7_fill_d0a16_14 : decode cJ7_fill_d0a16 14 = .ok (.lload_n 1, 1) := by decide +kernel
theorem dJ7_fill_d0a16_15 : decode cJ7_fill_d0a16 15 = .ok (.lastore, 1) := by decide +kernel
theorem dJ7_fill_d0a16_16 : decode cJ7_fill_d0a16 16 = .ok (.iinc 3 1, 3) := by decide +kernel
theorem dJ7_fill_d0a16_19 : decode cJ7_fill_d0a16 19 = .ok (.goto (-13), 3) := by decide +kernel
theorem dJ7_fill_d0a16_22 : decode cJ7_fill_d0a16 22 = .ok (.return_, 1) := by decide +kernel
theorem dX1_lastWordOf_0 : decode cX1_lastWordOf 0 = .ok (.aload_n 0, 1) := by decide +kernel
theorem dX1_lastWordOf_1 : decode cX1_lastWordOf 1 = .ok (.getfield 46, 3) := by decide +kernel
theorem dX1_lastWordOf_4 : decode cX1_lastWordOf 4 = .ok (.iload_n 1, 1) := by decide +kernel
theorem dX1_lastWordOf_5 : decode cX1_lastWordOf 5 = .ok (.iaload, 1) := by decide +kernel
theorem dX1_lastWordOf_6 : decode cX1_lastWordOf 6 = .ok (.ifCond .ne 7, 3) := by decide +kernel
theorem dX1_lastWordOf_9 : decode cX1_lastWordOf 9 = .ok (.iconst (-1), 1) := by decide +kernel
theorem dX1_lastWordOf_10 : decode cX1_lastWordOf 10 = .ok (.goto 18, 3) := by decide +kernel
theorem dX1_lastWordOf_13 : decode cX1_lastWordOf 13 = .ok (.aload_n 0, 1) := by decide +kernel
theorem dX1_lastWordOf_14 : decode cX1_lastWordOf 14 = .ok (.getfield 43, 3) := by decide +kernel
theorem dX1_lastWordOf_17 : decode cX1_lastWordOf 17 = .ok (.iload_n 1, 1) := by decide +kernel
theorem dX1_lastWordOf_18 : decode cX1_lastWordOf 18 = .ok (.iaload, 1) := by decide +kernel
theorem dX1_lastWordOf_19 : decode cX1_lastWordOf 19 = .ok (.aload_n 0, 1) := by decide +kernel
theorem dX1_lastWordOf_20 : decode cX1_lastWordOf 20 = .ok (.getfield 46, 3) := by decide +kernel
theorem dX1_lastWordOf_23 : decode cX1_lastWordOf 23 = .ok (.iload_n 1, 1) := by decide +kernel
theorem dX1_lastWordOf_24 : decode cX1_lastWordOf 24 = .ok (.iaload, 1) := by decide +kernel
theorem dX1_lastWordOf_25 : decode cX1_lastWordOf 25 = .ok (.iadd, 1) := by decide +kernel
theorem dX1_lastWordOf_26 : decode cX1_lastWordOf 26 = .ok (.iconst 1, 1) := by decide +kernel
theorem dX1_lastWordOf_27 : decode cX1_lastWordOf 27 = .ok (.isub, 1) := by decide +kernel
theorem dX1_lastWordOf_28 : decode cX1_lastWordOf 28 = .ok (.ireturn, 1) := by decide +kernel
theorem dX9_has_0 : decode cX9_has 0 = .ok (.iload_n 0, 1) := by decide +kernel
theorem dX9_has_1 : decode cX9_has 1 = .ok (.iload_n 1, 1) := by decide +kernel
theorem dX9_has_2 : decode cX9_has 2 = .ok (.iushr, 1) := by decide +kernel
theorem dX9_has_3 : decode cX9_has 3 = .ok (.iconst 1, 1) := by decide +kernel
theorem dX9_has_4 : decode cX9_has 4 = .ok (.iand, 1) := by decide +kernel
theorem dX9_has_5 : decode cX9_has 5 = .ok (.ifCond .eq 7, 3) := by decide +kernel
theorem dX9_has_8 : decode cX9_has 8 = .ok (.iconst 1, 1) := by decide +kernel
theorem dX9_has_9 : decode cX9_has 9 = .ok (.goto 4, 3) := by decide +kernel
theorem dX9_has_12 : decode cX9_has 12 = .ok (.iconst 0, 1) := by decide +kernel
theorem dX9_has_13 : decode cX9_has 13 = .ok (.ireturn, 1) := by decide +kernel
theorem dX1_at_0 : decode cX1_at 0 = .ok (.iload_n 1, 1) := by decide +kernel
theorem dX1_at_1 : decode cX1_at 1 = .ok (.ifCond .lt 11, 3) := by decide +kernel
theorem dX1_at_4 : decode cX1_at 4 = .ok (.iload_n 1, 1) := by decide +kernel
theorem dX1_at_5 : decode cX1_at 5 = .ok (.aload_n 0, 1) := by decide +kernel
theorem dX1_at_6 : decode cX1_at 6 = .ok (.getfield 62, 3) := by decide +kernel
theorem dX1_at_9 : decode cX1_at 9 = .ok (.if_icmp .lt 7, 3) := by decide +kernel
theorem dX1_at_12 : decode cX1_at 12 = .ok (.iconst (-1), 1) := by decide +kernel
theorem dX1_at_13 : decode cX1_at 13 = .ok (.goto 9, 3) := by decide +kernel
theorem dX1_at_16 : decode cX1_at 16 = .ok (.aload_n 0, 1) := by decide +kernel
theorem dX1_at_17 : decode cX1_at 17 = .ok (.getfield 9, 3) := by decide +kernel
theorem dX1_at_20 : decode cX1_at 20 = .ok (.iload_n 1, 1) := by decide +kernel
theorem dX1_at_21 : decode cX1_at 21 = .ok (.iaload, 1) := by decide +kernel
theorem dX1_at_22 : decode cX1_at 22 = .ok (.ireturn, 1) := by decide +kernel
theorem dX9_small_0 : decode cX9_small 0 = .ok (.iload_n 0, 1) := by decide +kernel
theorem dX9_small_1 : decode cX9_small 1 = .ok (.bipush 65, 2) := by decide +kernel
theorem dX9_small_3 : decode cX9_small 3 = .ok (.if_icmp .lt 16, 3) := by decide +kernel
theorem dX9_small_6 : decode cX9_small 6 = .ok (.iload_n 0, 1) := by decide +kernel
theorem dX9_small_7 : decode cX9_small 7 = .ok (.bipush 90, 2) := by decide +kernel
theorem dX9_small_9 : decode cX9_small 9 = .ok (.if_icmp .gt 10, 3) := by decide +kernel
theorem dX9_small_12 : decode cX9_small 12 = .ok (.iload_n 0, 1) := by decide +kernel
theorem dX9_small_13 : decode cX9_small 13 = .ok (.bipush 32, 2) := by decide +kernel
theorem dX9_small_15 : decode cX9_small 15 = .ok (.iadd, 1) := by decide +kernel
theorem dX9_small_16 : decode cX9_small 16 = .ok (.goto 4, 3) := by decide +kernel
theorem dX9_small_19 : decode cX9_small 19 = .ok (.iload_n 0, 1) := by decide +kernel
theorem dX9_small_20 : decode cX9_small 20 = .ok (.ireturn, 1) := by decide +kernel
theorem dX0_termFits_0 : decode cX0_termFits 0 = .ok (.iload_n 1, 1) := by decide +kernel
theorem dX0_termFits_1 : decode cX0_termFits 1 = .ok (.iconst 4, 1) := by decide +kernel
theorem dX0_termFits_2 : decode cX0_termFits 2 = .ok (.imul, 1) := by decide +kernel
theorem dX0_termFits_3 : decode cX0_termFits 3 = .ok (.iload_n 2, 1) := by decide +kernel
theorem dX0_termFits_4 : decode cX0_termFits 4 = .ok (.iadd, 1) := by decide +kernel
theorem dX0_termFits_5 : decode cX0_termFits 5 = .ok (.istore 4, 2) := by decide +kernel
theorem dX0_termFits_7 : decode cX0_termFits 7 = .ok (.aload_n 0, 1) := by decide +kernel
theorem dX0_termFits_8 : decode cX0_termFits 8 = .ok (.getfield 29, 3) := by decide +kernel
theorem dX0_termFits_11 : decode cX0_termFits 11 = .ok (.getfield 78, 3) := by decide +kernel
theorem dX0_termFits_14 : decode cX0_termFits 14 = .ok (.iload 4, 2) := by decide +kernel
theorem dX0_termFits_16 : decode cX0_termFits 16 = .ok (.iaload, 1) := by decide +kernel
theorem dX0_termFits_17 : decode cX0_termFits 17 = .ok (.istore 5, 2) := by decide +kernel
theorem dX0_termFits_19 : decode cX0_termFits 19 = .ok (.aload_n 0, 1) := by decide +kernel
theorem dX0_termFits_20 : decode cX0_termFits 20 = .ok (.getfield 25, 3) := by decide +kernel
theorem dX0_termFits_23 : decode cX0_termFits 23 = .ok (.getfield 81, 3) := by decide +kernel
theorem dX0_termFits_26 : decode cX0_termFits 26 = .ok (.iload_n 3, 1) := by decide +kernel
theorem dX0_termFits_27 : decode cX0_termFits 27 = .ok (.iaload, 1) := by decide +kernel
theorem dX0_termFits_28 : decode cX0_termFits 28 = .ok (.istore 6, 2) := by decide +kernel
theorem dX0_termFits_30 : decode cX0_termFits 30 = .ok (.aload_n 0, 1) := by decide +kernel
theorem dX0_termFits_31 : decode cX0_termFits 31 = .ok (.getfield 25, 3) := by decide +kernel
theorem dX0_termFits_34 : decode cX0_termFits 34 = .ok (.getfield 84, 3) := by decide +kernel
theorem dX0_termFits_37 : decode cX0_termFits 37 = .ok (.iload_n 3, 1) := by decide +kernel
theorem dX0_termFits_38 : decode cX0_termFits 38 = .ok (.iaload, 1) := by decide +kernel
theorem dX0_termFits_39 : decode cX0_termFits 39 = .ok (.iload 6, 2) := by decide +kernel
theorem dX0_termFits_41 : decode cX0_termFits 41 = .ok (.isub, 1) := by decide +kernel
theorem dX0_termFits_42 : decode cX0_termFits 42 = .ok (.istore 7, 2) := by decide +kernel
theorem dX0_termFits_44 : decode cX0_termFits 44 = .ok (.iload 7, 2) := by decide +kernel
theorem dX0_termFits_46 : decode cX0_termFits 46 = .ok (.iload 5, 2) := by decide +kernel
theorem dX0_termFits_48 : decode cX0_termFits 48 = .ok (.if_icmp .lt 25, 3) := by decide +kernel
theorem dX0_termFits_51 : decode cX0_termFits 51 = .ok (.iload 7, 2) := by decide +kernel
theorem dX0_termFits_53 : decode cX0_termFits 53 = .ok (.iload 5, 2) := by decide +kernel
theorem dX0_termFits_55 : decode cX0_termFits 55 = .ok (.if_icmp .le 20, 3) := by decide +kernel
theorem dX0_termFits_58 : decode cX0_termFits 58 = .ok (.aload_n 0, 1) := by decide +kernel
theorem dX0_termFits_59 : decode cX0_termFits 59 = .ok (.getfield 29, 3) := by decide +kernel
theorem dX0_termFits_62 : decode cX0_termFits 62 = .ok (.getfield 87, 3) := by decide +kernel
theorem dX0_termFits_65 : decode cX0_termFits 65 = .ok (.iload 4, 2) := by decide +kernel
theorem dX0_termFits_67 : decode cX0_termFits 67 = .ok (.invokestatic 90, 3) := by decide +kernel
theorem dX0_termFits_70 : decode cX0_termFits 70 = .ok (.ifCond .ne 5, 3) := by decide +kernel
theorem dX0_termFits_73 : decode cX0_termFits 73 = .ok (.iconst 0, 1) := by decide +kernel
theorem dX0_termFits_74 : decode cX0_termFits 74 = .ok (.ireturn, 1) := by decide +kernel
theorem dX0_termFits_75 : decode cX0_termFits 75 = .ok (.iconst 0, 1) := by decide +kernel
theorem dX0_termFits_76 : decode cX0_termFits 76 = .ok (.istore 8, 2) := by decide +kernel
theorem dX0_termFits_78 : decode cX0_termFits 78 = .ok (.iload 8, 2) := by decide +kernel
theorem dX0_termFits_80 : decode cX0_termFits 80 = .ok (.iload 5, 2) := by decide +kernel
theorem dX0_termFits_82 : decode cX0_termFits 82 = .ok (.if_icmp .ge 45, 3) := by decide +kernel
theorem dX0_termFits_85 : decode cX0_termFits 85 = .ok (.aload_n 0, 1) := by decide +kernel
theorem dX0_termFits_86 : decode cX0_termFits 86 = .ok (.getfield 25, 3) := by decide +kernel
theorem dX0_termFits_89 : decode cX0_termFits 89 = .ok (.iload 6, 2) := by decide +kernel
theorem dX0_termFits_91 : decode cX0_termFits 91 = .ok (.iload 8, 2) := by decide +kernel
theorem dX0_termFits_93 : decode cX0_termFits 93 = .ok (.iadd, 1) := by decide +kernel
theorem dX0_termFits_94 : decode cX0_termFits 94 = .ok (.invokevirtual 93, 3) := by decide +kernel
theorem dX0_termFits_97 : decode cX0_termFits 97 = .ok (.invokestatic 96, 3) := by decide +kernel
theorem dX0_termFits_100 : decode cX0_termFits 100 = .ok (.aload_n 0, 1) := by decide +kernel
theorem dX0_termFits_101 : decode cX0_termFits 101 = .ok (.getfield 29, 3) := by decide +kernel
theorem dX0_termFits_104 : decode cX0_termFits 104 = .ok (.getfield 99, 3) := by decide +kernel
theorem dX0_termFits_107 : decode cX0_termFits 107 = .ok (.iload 4, 2) := by decide +kernel
theorem dX0_termFits_109 : decode cX0_termFits 109 = .ok (.bipush 12, 2) := by decide +kernel
theorem dX0_termFits_111 : decode cX0_termFits 111 = .ok (.imul, 1) := by decide +kernel
theorem dX0_termFits_112 : decode cX0_termFits 112 = .ok (.iload 8, 2) := by decide +kernel
theorem dX0_termFits_114 : decode cX0_termFits 114 = .ok (.iadd, 1) := by decide +kernel
theorem dX0_termFits_115 : decode cX0_termFits 115 = .ok (.iaload, 1) := by decide +kernel
theorem dX0_termFits_116 : decode cX0_termFits 116 = .ok (.if_icmp .eq 5, 3) := by decide +kernel
theorem dX0_termFits_119 : decode cX0_termFits 119 = .ok (.iconst 0, 1) := by decide +kernel
theorem dX0_termFits_120 : decode cX0_termFits 120 = .ok (.ireturn, 1) := by decide +kernel
theorem dX0_termFits_121 : decode cX0_termFits 121 = .ok (.iinc 8 1, 3) := by decide +kernel
theorem dX0_termFits_124 : decode cX0_termFits 124 = .ok (.goto (-46), 3) := by decide +kernel
theorem dX0_termFits_127 : decode cX0_termFits 127 = .ok (.iconst 1, 1) := by decide +kernel
theorem dX0_termFits_128 : decode cX0_termFits 128 = .ok (.ireturn, 1) := by decide +kernel
theorem dX0_matchesFrom_0 : decode cX0_matchesFrom 0 = .ok (.aload_n 0, 1) := by decide +kernel
theorem dX0_matchesFrom_1 : decode cX0_matchesFrom 1 = .ok (.getfield 29, 3) := by decide +kernel
theorem dX0_matchesFrom_4 : decode cX0_matchesFrom 4 = .ok (.getfield 64, 3) := by decide +kernel
theorem dX0_matchesFrom_7 : decode cX0_matchesFrom 7 = .ok (.iload_n 2, 1) := by decide +kernel
theorem dX0_matchesFrom_8 : decode cX0_matchesFrom 8 = .ok (.iaload, 1) := by decide +kernel
theorem dX0_matchesFrom_9 : decode cX0_matchesFrom 9 = .ok (.istore_n 3, 1) := by decide +kernel
theorem dX0_matchesFrom_10 : decode cX0_matchesFrom 10 = .ok (.aload_n 0, 1) := by decide +kernel
theorem dX0_matchesFrom_11 : decode cX0_matchesFrom 11 = .ok (.getfield 25, 3) := by decide +kernel
theorem dX0_matchesFrom_14 : decode cX0_matchesFrom 14 = .ok (.getfield 67, 3) := by decide +kernel
theorem dX0_matchesFrom_17 : decode cX0_matchesFrom 17 = .ok (.iload_n 1, 1) := by decide +kernel
theorem dX0_matchesFrom_18 : decode cX0_matchesFrom 18 = .ok (.iaload, 1) := by decide +kernel
theorem dX0_matchesFrom_19 : decode cX0_matchesFrom 19 = .ok (.istore 4, 2) := by decide +kernel
theorem dX0_matchesFrom_21 : decode cX0_matchesFrom 21 = .ok (.iload 4, 2) := by decide +kernel
theorem dX0_matchesFrom_23 : decode cX0_matchesFrom 23 = .ok (.iconst (-1), 1) := by decide +kernel
theorem dX0_matchesFrom_24 : decode cX0_matchesFrom 24 = .ok (.if_icmp .eq 20, 3) := by decide +kernel
theorem dX0_matchesFrom_27 : decode cX0_matchesFrom 27 = .ok (.iload_n 1, 1) := by decide +kernel
theorem dX0_matchesFrom_28 : decode cX0_matchesFrom 28 = .ok (.iload_n 3, 1) := by decide +kernel
theorem dX0_matchesFrom_29 : decode cX0_matchesFrom 29 = .ok (.iadd, 1) := by decide +kernel
theorem dX0_matchesFrom_30 : decode cX0_matchesFrom 30 = .ok (.iconst 1, 1) := by decide +kernel
theorem dX0_matchesFrom_31 : decode cX0_matchesFrom 31 = .ok (.isub, 1) := by decide +kernel
theorem dX0_matchesFrom_32 : decode cX0_matchesFrom 32 = .ok (.aload_n 0, 1) := by decide +kernel
theorem dX0_matchesFrom_33 : decode cX0_matchesFrom 33 = .ok (.getfield 25, 3) := by decide +kernel
theorem dX0_matchesFrom_36 : decode cX0_matchesFrom 36 = .ok (.iload 4, 2) := by decide +kernel
theorem dX0_matchesFrom_38 : decode cX0_matchesFrom 38 = .ok (.invokevirtual 70, 3) := by decide +kernel
theorem dX0_matchesFrom_41 : decode cX0_matchesFrom 41 = .ok (.if_icmp .le 5, 3) := by decide +kernel
theorem dX0_matchesFrom_44 : decode cX0_matchesFrom 44 = .ok (.iconst 0, 1) := by decide +kernel
theorem dX0_matchesFrom_45 : decode cX0_matchesFrom 45 = .ok (.ireturn, 1) := by decide +kernel
theorem dX0_matchesFrom_46 : decode cX0_matchesFrom 46 = .ok (.iconst 0, 1) := by decide +kernel
theorem dX0_matchesFrom_47 : decode cX0_matchesFrom 47 = .ok (.istore 5, 2) := by decide +kernel
theorem dX0_matchesFrom_49 : decode cX0_matchesFrom 49 = .ok (.iload 5, 2) := by decide +kernel
theorem dX0_matchesFrom_51 : decode cX0_matchesFrom 51 = .ok (.iload_n 3, 1) := by decide +kernel
theorem dX0_matchesFrom_52 : decode cX0_matchesFrom 52 = .ok (.if_icmp .ge 25, 3) := by decide +kernel
theorem dX0_matchesFrom_55 : decode cX0_matchesFrom 55 = .ok (.aload_n 0, 1) := by decide +kernel
theorem dX0_matchesFrom_56 : decode cX0_matchesFrom 56 = .ok (.iload_n 2, 1) := by decide +kernel
theorem dX0_matchesFrom_57 : decode cX0_matchesFrom 57 = .ok (.iload 5, 2) := by decide +kernel
theorem dX0_matchesFrom_59 : decode cX0_matchesFrom 59 = .ok (.iload_n 1, 1) := by decide +kernel
theorem dX0_matchesFrom_60 : decode cX0_matchesFrom 60 = .ok (.iload 5, 2) := by decide +kernel
theorem dX0_matchesFrom_62 : decode cX0_matchesFrom 62 = .ok (.iadd, 1) := by decide +kernel
theorem dX0_matchesFrom_63 : decode cX0_matchesFrom 63 = .ok (.invokevirtual 74, 3) := by decide +kernel
theorem dX0_matchesFrom_66 : decode cX0_matchesFrom 66 = .ok (.ifCond .ne 5, 3) := by decide +kernel
theorem dX0_matchesFrom_69 : decode cX0_matchesFrom 69 = .ok (.iconst 0, 1) := by decide +kernel
theorem dX0_matchesFrom_70 : decode cX0_matchesFrom 70 = .ok (.ireturn, 1) := by decide +kernel
theorem dX0_matchesFrom_71 : decode cX0_matchesFrom 71 = .ok (.iinc 5 1, 3) := by decide +kernel
theorem dX0_matchesFrom_74 : decode cX0_matchesFrom 74 = .ok (.goto (-25), 3) := by decide +kernel
theorem dX0_matchesFrom_77 : decode cX0_matchesFrom 77 = .ok (.iconst 1, 1) := by decide +kernel
theorem dX0_matchesFrom_78 : decode cX0_matchesFrom 78 = .ok (.ireturn, 1) := by decide +kernel
theorem dX2_oneOf_0 : decode cX2_oneOf 0 = .ok (.lconst 1, 1) := by decide +kernel
theorem dX2_oneOf_1 : decode cX2_oneOf 1 = .ok (.iload_n 1, 1) := by decide +kernel
theorem dX2_oneOf_2 : decode cX2_oneOf 2 = .ok (.bipush 8, 2) := by decide +kernel
theorem dX2_oneOf_4 : decode cX2_oneOf 4 = .ok (.imul, 1) := by decide +kernel
theorem dX2_oneOf_5 : decode cX2_oneOf 5 = .ok (.lshl, 1) := by decide +kernel
theorem dX2_oneOf_6 : decode cX2_oneOf 6 = .ok (.lreturn, 1) := by decide +kernel
theorem dX0_add_0 : decode cX0_add 0 = .ok (.iload_n 1, 1) := by decide +kernel
theorem dX0_add_1 : decode cX0_add 1 = .ok (.aload_n 0, 1) := by decide +kernel
theorem dX0_add_2 : decode cX0_add 2 = .ok (.getfield 29, 3) := by decide +kernel
theorem dX0_add_5 : decode cX0_add 5 = .ok (.getfield 64, 3) := by decide +kernel
theorem dX0_add_8 : decode cX0_add 8 = .ok (.iload_n 2, 1) := by decide +kernel
theorem dX0_add_9 : decode cX0_add 9 = .ok (.iaload, 1) := by decide +kernel
theorem dX0_add_10 : decode cX0_add 10 = .ok (.iadd, 1) := by decide +kernel
theorem dX0_add_11 : decode cX0_add 11 = .ok (.iconst 1, 1) := by decide +kernel
theorem dX0_add_12 : decode cX0_add 12 = .ok (.isub, 1) := by decide +kernel
theorem dX0_add_13 : decode cX0_add 13 = .ok (.istore_n 3, 1) := by decide +kernel
theorem dX0_add_14 : decode cX0_add 14 = .ok (.aload_n 0, 1) := by decide +kernel
theorem dX0_add_15 : decode cX0_add 15 = .ok (.dup, 1) := by decide +kernel
theorem dX0_add_16 : decode cX0_add 16 = .ok (.getfield 33, 3) := by decide +kernel
theorem dX0_add_19 : decode cX0_add 19 = .ok (.iconst 1, 1) := by decide +kernel
theorem dX0_add_20 : decode cX0_add 20 = .ok (.iadd, 1) := by decide +kernel
theorem dX0_add_21 : decode cX0_add 21 = .ok (.putfield 33, 3) := by decide +kernel
theorem dX0_add_24 : decode cX0_add 24 = .ok (.aload_n 0, 1) := by decide +kernel
theorem dX0_add_25 : decode cX0_add 25 = .ok (.getfield 9, 3) := by decide +kernel
theorem dX0_add_28 : decode cX0_add 28 = .ok (.iload_n 1, 1) := by decide +kernel
theorem dX0_add_29 : decode cX0_add 29 = .ok (.dup2, 1) := by decide +kernel
theorem dX0_add_30 : decode cX0_add 30 = .ok (.iaload, 1) := by decide +kernel
theorem dX0_add_31 : decode cX0_add 31 = .ok (.iconst 1, 1) := by decide +kernel
theorem dX0_add_32 : decode cX0_add 32 = .ok (.iload_n 2, 1) := by decide +kernel
theorem dX0_add_33 : decode cX0_add 33 = .ok (.ishl, 1) := by decide +kernel
theorem dX0_add_34 : decode cX0_add 34 = .ok (.ior, 1) := by decide +kernel
theorem dX0_add_35 : decode cX0_add 35 = .ok (.iastore, 1) := by decide +kernel
theorem dX0_add_36 : decode cX0_add 36 = .ok (.aload_n 0, 1) := by decide +kernel
theorem dX0_add_37 : decode cX0_add 37 = .ok (.getfield 15, 3) := by decide +kernel
theorem dX0_add_40 : decode cX0_add 40 = .ok (.iload_n 3, 1) := by decide +kernel
theorem dX0_add_41 : decode cX0_add 41 = .ok (.dup2, 1) := by decide +kernel
theorem dX0_add_42 : decode cX0_add 42 = .ok (.iaload, 1) := by decide +kernel
theorem dX0_add_43 : decode cX0_add 43 = .ok (.iconst 1, 1) := by decide +kernel
theorem dX0_add_44 : decode cX0_add 44 = .ok (.iload_n 2, 1) := by decide +kernel
theorem dX0_add_45 : decode cX0_add 45 = .ok (.ishl, 1) := by decide +kernel
theorem dX0_add_46 : decode cX0_add 46 = .ok (.ior, 1) := by decide +kernel
theorem dX0_add_47 : decode cX0_add 47 = .ok (.iastore, 1) := by decide +kernel
theorem dX0_add_48 : decode cX0_add 48 = .ok (.iload_n 1, 1) := by decide +kernel
theorem dX0_add_49 : decode cX0_add 49 = .ok (.istore 4, 2) := by decide +kernel
theorem dX0_add_51 : decode cX0_add 51 = .ok (.iload 4, 2) := by decide +kernel
theorem dX0_add_53 : decode cX0_add 53 = .ok (.iload_n 3, 1) := by decide +kernel
theorem dX0_add_54 : decode cX0_add 54 = .ok (.if_icmp .gt 22, 3) := by decide +kernel
theorem dX0_add_57 : decode cX0_add 57 = .ok (.aload_n 0, 1) := by decide +kernel
theorem dX0_add_58 : decode cX0_add 58 = .ok (.getfield 18, 3) := by decide +kernel
theorem dX0_add_61 : decode cX0_add 61 = .ok (.iload 4, 2) := by decide +kernel
theorem dX0_add_63 : decode cX0_add 63 = .ok (.dup2, 1) := by decide +kernel
theorem dX0_add_64 : decode cX0_add 64 = .ok (.iaload, 1) := by decide +kernel
theorem dX0_add_65 : decode cX0_add 65 = .ok (.iconst 1, 1) := by decide +kernel
theorem dX0_add_66 : decode cX0_add 66 = .ok (.iload_n 2, 1) := by decide +kernel
theorem dX0_add_67 : decode cX0_add 67 = .ok (.ishl, 1) := by decide +kernel
theorem dX0_add_68 : decode cX0_add 68 = .ok (.ior, 1) := by decide +kernel
theorem dX0_add_69 : decode cX0_add 69 = .ok (.iastore, 1) := by decide +kernel
theorem dX0_add_70 : decode cX0_add 70 = .ok (.iinc 4 1, 3) := by decide +kernel
theorem dX0_add_73 : decode cX0_add 73 = .ok (.goto (-22), 3) := by decide +kernel
theorem dX0_add_76 : decode cX0_add 76 = .ok (.aload_n 0, 1) := by decide +kernel
theorem dX0_add_77 : decode cX0_add 77 = .ok (.getfield 21, 3) := by decide +kernel
theorem dX0_add_80 : decode cX0_add 80 = .ok (.aload_n 0, 1) := by decide +kernel
theorem dX0_add_81 : decode cX0_add 81 = .ok (.getfield 25, 3) := by decide +kernel
theorem dX0_add_84 : decode cX0_add 84 = .ok (.getfield 67, 3) := by decide +kernel
theorem dX0_add_87 : decode cX0_add 87 = .ok (.iload_n 1, 1) := by decide +kernel
theorem dX0_add_88 : decode cX0_add 88 = .ok (.iaload, 1) := by decide +kernel
theorem dX0_add_89 : decode cX0_add 89 = .ok (.dup2, 1) := by decide +kernel
theorem dX0_add_90 : decode cX0_add 90 = .ok (.laload, 1) := by decide +kernel
theorem dX0_add_91 : decode cX0_add 91 = .ok (.aload_n 0, 1) := by decide +kernel
theorem dX0_add_92 : decode cX0_add 92 = .ok (.getfield 29, 3) := by decide +kernel
theorem dX0_add_95 : decode cX0_add 95 = .ok (.iload_n 2, 1) := by decide +kernel
theorem dX0_add_96 : decode cX0_add 96 = .ok (.invokevirtual 102, 3) := by decide +kernel
theorem dX0_add_99 : decode cX0_add 99 = .ok (.ladd, 1) := by decide +kernel
theorem dX0_add_100 : decode cX0_add 100 = .ok (.lastore, 1) := by decide +kernel
theorem dX0_add_101 : decode cX0_add 101 = .ok (.return_, 1) := by decide +kernel
theorem dX0_findAll_0 : decode cX0_findAll 0 = .ok (.aload_n 0, 1) := by decide +kernel
theorem dX0_findAll_1 : decode cX0_findAll 1 = .ok (.iconst 0, 1) := by decide +kernel
theorem dX0_findAll_2 : decode cX0_findAll 2 = .ok (.putfield 33, 3) := by decide +kernel
theorem dX0_findAll_5 : decode cX0_findAll 5 = .ok (.aload_n 0, 1) := by decide +kernel
theorem dX0_findAll_6 : decode cX0_findAll 6 = .ok (.getfield 9, 3) := by decide +kernel
theorem dX0_findAll_9 : decode cX0_findAll 9 = .ok (.iconst 0, 1) := by decide +kernel
theorem dX0_findAll_10 : decode cX0_findAll 10 = .ok (.invokestatic 37, 3) := by decide +kernel
theorem dX0_findAll_13 : decode cX0_findAll 13 = .ok (.aload_n 0, 1) := by decide +kernel
theorem dX0_findAll_14 : decode cX0_findAll 14 = .ok (.getfield 15, 3) := by decide +kernel
theorem dX0_findAll_17 : decode cX0_findAll 17 = .ok (.iconst 0, 1) := by decide +kernel
theorem dX0_findAll_18 : decode cX0_findAll 18 = .ok (.invokestatic 37, 3) := by decide +kernel
theorem dX0_findAll_21 : decode cX0_findAll 21 = .ok (.aload_n 0, 1) := by decide +kernel
theorem dX0_findAll_22 : decode cX0_findAll 22 = .ok (.getfield 18, 3) := by decide +kernel
theorem dX0_findAll_25 : decode cX0_findAll 25 = .ok (.iconst 0, 1) := by decide +kernel
theorem dX0_findAll_26 : decode cX0_findAll 26 = .ok (.invokestatic 37, 3) := by decide +kernel
theorem dX0_findAll_29 : decode cX0_findAll 29 = .ok (.aload_n 0, 1) := by decide +kernel
theorem dX0_findAll_30 : decode cX0_findAll 30 = .ok (.getfield 21, 3) := by decide +kernel
theorem dX0_findAll_33 : decode cX0_findAll 33 = .ok (.lconst 0, 1) := by decide +kernel
theorem dX0_findAll_34 : decode cX0_findAll 34 = .ok (.invokestatic 43, 3) := by decide +kernel
theorem dX0_findAll_37 : decode cX0_findAll 37 = .ok (.iconst 0, 1) := by decide +kernel
theorem dX0_findAll_38 : decode cX0_findAll 38 = .ok (.istore_n 1, 1) := by decide +kernel
theorem dX0_findAll_39 : decode cX0_findAll 39 = .ok (.iload_n 1, 1) := by decide +kernel
theorem dX0_findAll_40 : decode cX0_findAll 40 = .ok (.aload_n 0, 1) := by decide +kernel
theorem dX0_findAll_41 : decode cX0_findAll 41 = .ok (.getfield 25, 3) := by decide +kernel
theorem dX0_findAll_44 : decode cX0_findAll 44 = .ok (.getfield 46, 3) := by decide +kernel
theorem dX0_findAll_47 : decode cX0_findAll 47 = .ok (.if_icmp .ge 43, 3) := by decide +kernel
theorem dX0_findAll_50 : decode cX0_findAll 50 = .ok (.iconst 0, 1) := by decide +kernel
theorem dX0_findAll_51 : decode cX0_findAll 51 = .ok (.istore_n 2, 1) := by decide +kernel
theorem dX0_findAll_52 : decode cX0_findAll 52 = .ok (.iload_n 2, 1) := by decide +kernel
theorem dX0_findAll_53 : decode cX0_findAll 53 = .ok (.aload_n 0, 1) := by decide +kernel
theorem dX0_findAll_54 : decode cX0_findAll 54 = .ok (.getfield 29, 3) := by decide +kernel
theorem dX0_findAll_57 : decode cX0_findAll 57 = .ok (.getfield 51, 3) := by decide +kernel
theorem dX0_findAll_60 : decode cX0_findAll 60 = .ok (.if_icmp .ge 24, 3) := by decide +kernel
theorem dX0_findAll_63 : decode cX0_findAll 63 = .ok (.aload_n 0, 1) := by decide +kernel
theorem dX0_findAll_64 : decode cX0_findAll 64 = .ok (.iload_n 1, 1) := by decide +kernel
theorem dX0_findAll_65 : decode cX0_findAll 65 = .ok (.iload_n 2, 1) := by decide +kernel
theorem dX0_findAll_66 : decode cX0_findAll 66 = .ok (.invokevirtual 56, 3) := by decide +kernel
theorem dX0_findAll_69 : decode cX0_findAll 69 = .ok (.ifCond .eq 9, 3) := by decide +kernel
theorem dX0_findAll_72 : decode cX0_findAll 72 = .ok (.aload_n 0, 1) := by decide +kernel
theorem dX0_findAll_73 : decode cX0_findAll 73 = .ok (.iload_n 1, 1) := by decide +kernel
theorem dX0_findAll_74 : decode cX0_findAll 74 = .ok (.iload_n 2, 1) := by decide +kernel
theorem dX0_findAll_75 : decode cX0_findAll 75 = .ok (.invokevirtual 60, 3) := by decide +kernel
theorem dX0_findAll_78 : decode cX0_findAll 78 = .ok (.iinc 2 1, 3) := by decide +kernel
theorem dX0_findAll_81 : decode cX0_findAll 81 = .ok (.goto (-29), 3) := by decide +kernel
theorem dX0_findAll_84 : decode cX0_findAll 84 = .ok (.iinc 1 1, 3) := by decide +kernel
theorem dX0_findAll_87 : decode cX0_findAll 87 = .ok (.goto (-48), 3) := by decide +kernel
theorem dX0_findAll_90 : decode cX0_findAll 90 = .ok (.return_, 1) := by decide +kernel
theorem dJ6_bitCount_0f7a4_0 : decode cJ6_bitCount_0f7a4 0 = .ok (.iload_n 0, 1) := by decide +kernel
theorem dJ6_bitCount_0f7a4_1 : decode cJ6_bitCount_0f7a4 1 = .ok (.iload_n 0, 1) := by decide +kernel
theorem dJ6_bitCount_0f7a4_2 : decode cJ6_bitCount_0f7a4 2 = .ok (.iconst 1, 1) := by decide +kernel
theorem dJ6_bitCount_0f7a4_3 : decode cJ6_bitCount_0f7a4 3 = .ok (.iushr, 1) := by decide +kernel
theorem dJ6_bitCount_0f7a4_4 : decode cJ6_bitCount_0f7a4 4 = .ok (.ldc_w 265, 3) := by decide +kernel
theorem dJ6_bitCount_0f7a4_7 : decode cJ6_bitCount_0f7a4 7 = .ok (.iand, 1) := by decide +kernel
theorem dJ6_bitCount_0f7a4_8 : decode cJ6_bitCount_0f7a4 8 = .ok (.isub, 1) := by decide +kernel
theorem dJ6_bitCount_0f7a4_9 : decode cJ6_bitCount_0f7a4 9 = .ok (.istore_n 0, 1) := by decide +kernel
theorem dJ6_bitCount_0f7a4_10 : decode cJ6_bitCount_0f7a4 10 = .ok (.iload_n 0, 1) := by decide +kernel
theorem dJ6_bitCount_0f7a4_11 : decode cJ6_bitCount_0f7a4 11 = .ok (.ldc_w 266, 3) := by decide +kernel
theorem dJ6_bitCount_0f7a4_14 : decode cJ6_bitCount_0f7a4 14 = .ok (.iand, 1) := by decide +kernel
theorem dJ6_bitCount_0f7a4_15 : decode cJ6_bitCount_0f7a4 15 = .ok (.iload_n 0, 1) := by decide +kernel
theorem dJ6_bitCount_0f7a4_16 : decode cJ6_bitCount_0f7a4 16 = .ok (.iconst 2, 1) := by decide +kernel
theorem dJ6_bitCount_0f7a4_17 : decode cJ6_bitCount_0f7a4 17 = .ok (.iushr, 1) := by decide +kernel
theorem dJ6_bitCount_0f7a4_18 : decode cJ6_bitCount_0f7a4 18 = .ok (.ldc_w 266, 3) := by decide +kernel
theorem dJ6_bitCount_0f7a4_21 : decode cJ6_bitCount_0f7a4 21 = .ok (.iand, 1) := by decide +kernel
theorem dJ6_bitCount_0f7a4_22 : decode cJ6_bitCount_0f7a4 22 = .ok (.iadd, 1) := by decide +kernel
theorem dJ6_bitCount_0f7a4_23 : decode cJ6_bitCount_0f7a4 23 = .ok (.istore_n 0, 1) := by decide +kernel
theorem dJ6_bitCount_0f7a4_24 : decode cJ6_bitCount_0f7a4 24 = .ok (.iload_n 0, 1) := by decide +kernel
theorem dJ6_bitCount_0f7a4_25 : decode cJ6_bitCount_0f7a4 25 = .ok (.iload_n 0, 1) := by decide +kernel
theorem dJ6_bitCount_0f7a4_26 : decode cJ6_bitCount_0f7a4 26 = .ok (.iconst 4, 1) := by decide +kernel
theorem dJ6_bitCount_0f7a4_27 : decode cJ6_bitCount_0f7a4 27 = .ok (.iushr, 1) := by decide +kernel
theorem dJ6_bitCount_0f7a4_28 : decode cJ6_bitCount_0f7a4 28 = .ok (.iadd, 1) := by decide +kernel
theorem dJ6_bitCount_0f7a4_29 : decode cJ6_bitCount_0f7a4 29 = .ok (.ldc_w 267, 3) := by decide +kernel
theorem dJ6_bitCount_0f7a4_32 : decode cJ6_bitCount_0f7a4 32 = .ok (.iand, 1) := by decide +kernel
theorem dJ6_bitCount_0f7a4_33 : decode cJ6_bitCount_0f7a4 33 = .ok (.istore_n 0, 1) := by decide +kernel
theorem dJ6_bitCount_0f7a4_34 : decode cJ6_bitCount_0f7a4 34 = .ok (.iload_n 0, 1) := by decide +kernel
theorem dJ6_bitCount_0f7a4_35 : decode cJ6_bitCount_0f7a4 35 = .ok (.iload_n 0, 1) := by decide +kernel
theorem dJ6_bitCount_0f7a4_36 : decode cJ6_bitCount_0f7a4 36 = .ok (.bipush 8, 2) := by decide +kernel
theorem dJ6_bitCount_0f7a4_38 : decode cJ6_bitCount_0f7a4 38 = .ok (.iushr, 1) := by decide +kernel
theorem dJ6_bitCount_0f7a4_39 : decode cJ6_bitCount_0f7a4 39 = .ok (.iadd, 1) := by decide +kernel
theorem dJ6_bitCount_0f7a4_40 : decode cJ6_bitCount_0f7a4 40 = .ok (.istore_n 0, 1) := by decide +kernel
theorem dJ6_bitCount_0f7a4_41 : decode cJ6_bitCount_0f7a4 41 = .ok (.iload_n 0, 1) := by decide +kernel
theorem dJ6_bitCount_0f7a4_42 : decode cJ6_bitCount_0f7a4 42 = .ok (.iload_n 0, 1) := by decide +kernel
theorem dJ6_bitCount_0f7a4_43 : decode cJ6_bitCount_0f7a4 43 = .ok (.bipush 16, 2) := by decide +kernel
theorem dJ6_bitCount_0f7a4_45 : decode cJ6_bitCount_0f7a4 45 = .ok (.iushr, 1) := by decide +kernel
theorem dJ6_bitCount_0f7a4_46 : decode cJ6_bitCount_0f7a4 46 = .ok (.iadd, 1) := by decide +kernel
theorem dJ6_bitCount_0f7a4_47 : decode cJ6_bitCount_0f7a4 47 = .ok (.istore_n 0, 1) := by decide +kernel
theorem dJ6_bitCount_0f7a4_48 : decode cJ6_bitCount_0f7a4 48 = .ok (.iload_n 0, 1) := by decide +kernel
theorem dJ6_bitCount_0f7a4_49 : decode cJ6_bitCount_0f7a4 49 = .ok (.bipush 63, 2) := by decide +kernel
theorem dJ6_bitCount_0f7a4_51 : decode cJ6_bitCount_0f7a4 51 = .ok (.iand, 1) := by decide +kernel
theorem dJ6_bitCount_0f7a4_52 : decode cJ6_bitCount_0f7a4 52 = .ok (.ireturn, 1) := by decide +kernel
theorem dX0_firstWordOf_0 : decode cX0_firstWordOf 0 = .ok (.iconst 0, 1) := by decide +kernel
theorem dX0_firstWordOf_1 : decode cX0_firstWordOf 1 = .ok (.istore_n 2, 1) := by decide +kernel
theorem dX0_firstWordOf_2 : decode cX0_firstWordOf 2 = .ok (.iconst 0, 1) := by decide +kernel
theorem dX0_firstWordOf_3 : decode cX0_firstWordOf 3 = .ok (.istore_n 3, 1) := by decide +kernel
theorem dX0_firstWordOf_4 : decode cX0_firstWordOf 4 = .ok (.iload_n 3, 1) := by decide +kernel
theorem dX0_firstWordOf_5 : decode cX0_firstWordOf 5 = .ok (.aload_n 0, 1) := by decide +kernel
theorem dX0_firstWordOf_6 : decode cX0_firstWordOf 6 = .ok (.getfield 25, 3) := by decide +kernel
theorem dX0_firstWordOf_9 : decode cX0_firstWordOf 9 = .ok (.getfield 46, 3) := by decide +kernel
theorem dX0_firstWordOf_12 : decode cX0_firstWordOf 12 = .ok (.if_icmp .ge 28, 3) := by decide +kernel
theorem dX0_firstWordOf_15 : decode cX0_firstWordOf 15 = .ok (.iload_n 2, 1) := by decide +kernel
theorem dX0_firstWordOf_16 : decode cX0_firstWordOf 16 = .ok (.aload_n 0, 1) := by decide +kernel
theorem dX0_firstWordOf_17 : decode cX0_firstWordOf 17 = .ok (.getfield 9, 3) := by decide +kernel
theorem dX0_firstWordOf_20 : decode cX0_firstWordOf 20 = .ok (.iload_n 3, 1) := by decide +kernel
theorem dX0_firstWordOf_21 : decode cX0_firstWordOf 21 = .ok (.iaload, 1) := by decide +kernel
theorem dX0_firstWordOf_22 : decode cX0_firstWordOf 22 = .ok (.invokestatic 106, 3) := by decide +kernel
theorem dX0_firstWordOf_25 : decode cX0_firstWordOf 25 = .ok (.iadd, 1) := by decide +kernel
theorem dX0_firstWordOf_26 : decode cX0_firstWordOf 26 = .ok (.istore_n 2, 1) := by decide +kernel
theorem dX0_firstWordOf_27 : decode cX0_firstWordOf 27 = .ok (.iload_n 2, 1) := by decide +kernel
theorem dX0_firstWordOf_28 : decode cX0_firstWordOf 28 = .ok (.iload_n 1, 1) := by decide +kernel
theorem dX0_firstWordOf_29 : decode cX0_firstWordOf 29 = .ok (.if_icmp .le 5, 3) := by decide +kernel
theorem dX0_firstWordOf_32 : decode cX0_firstWordOf 32 = .ok (.iload_n 3, 1) := by decide +kernel
theorem dX0_firstWordOf_33 : decode cX0_firstWordOf 33 = .ok (.ireturn, 1) := by decide +kernel
theorem dX0_firstWordOf_34 : decode cX0_firstWordOf 34 = .ok (.iinc 3 1, 3) := by decide +kernel
theorem dX0_firstWordOf_37 : decode cX0_firstWordOf 37 = .ok (.goto (-33), 3) := by decide +kernel
theorem dX0_firstWordOf_40 : decode cX0_firstWordOf 40 = .ok (.iconst (-1), 1) := by decide +kernel
theorem dX0_firstWordOf_41 : decode cX0_firstWordOf 41 = .ok (.ireturn, 1) := by decide +kernel
theorem dX0_itemOf_0 : decode cX0_itemOf 0 = .ok (.iconst 0, 1) := by decide +kernel
theorem dX0_itemOf_1 : decode cX0_itemOf 1 = .ok (.istore_n 2, 1) := by decide +kernel
theorem dX0_itemOf_2 : decode cX0_itemOf 2 = .ok (.iconst 0, 1) := by decide +kernel
theorem dX0_itemOf_3 : decode cX0_itemOf 3 = .ok (.istore_n 3, 1) := by decide +kernel
theorem dX0_itemOf_4 : decode cX0_itemOf 4 = .ok (.iload_n 3, 1) := by decide +kernel
theorem dX0_itemOf_5 : decode cX0_itemOf 5 = .ok (.aload_n 0, 1) := by decide +kernel
theorem dX0_itemOf_6 : decode cX0_itemOf 6 = .ok (.getfield 25, 3) := by decide +kernel
theorem dX0_itemOf_9 : decode cX0_itemOf 9 = .ok (.getfield 46, 3) := by decide +kernel
theorem dX0_itemOf_12 : decode cX0_itemOf 12 = .ok (.if_icmp .ge 52, 3) := by decide +kernel
theorem dX0_itemOf_15 : decode cX0_itemOf 15 = .ok (.iconst 0, 1) := by decide +kernel
theorem dX0_itemOf_16 : decode cX0_itemOf 16 = .ok (.istore 4, 2) := by decide +kernel
theorem dX0_itemOf_18 : decode cX0_itemOf 18 = .ok (.iload 4, 2) := by decide +kernel
theorem dX0_itemOf_20 : decode cX0_itemOf 20 = .ok (.aload_n 0, 1) := by decide +kernel
theorem dX0_itemOf_21 : decode cX0_itemOf 21 = .ok (.getfield 29, 3) := by decide +kernel
theorem dX0_itemOf_24 : decode cX0_itemOf 24 = .ok (.getfield 51, 3) := by decide +kernel
theorem dX0_itemOf_27 : decode cX0_itemOf 27 = .ok (.if_icmp .ge 31, 3) := by decide +kernel
theorem dX0_itemOf_30 : decode cX0_itemOf 30 = .ok (.iload_n 2, 1) := by decide +kernel
theorem dX0_itemOf_31 : decode cX0_itemOf 31 = .ok (.aload_n 0, 1) := by decide +kernel
theorem dX0_itemOf_32 : decode cX0_itemOf 32 = .ok (.getfield 9, 3) := by decide +kernel
theorem dX0_itemOf_35 : decode cX0_itemOf 35 = .ok (.iload_n 3, 1) := by decide +kernel
theorem dX0_itemOf_36 : decode cX0_itemOf 36 = .ok (.iaload, 1) := by decide +kernel
theorem dX0_itemOf_37 : decode cX0_itemOf 37 = .ok (.iload 4, 2) := by decide +kernel
theorem dX0_itemOf_39 : decode cX0_itemOf 39 = .ok (.iushr, 1) := by decide +kernel
theorem dX0_itemOf_40 : decode cX0_itemOf 40 = .ok (.iconst 1, 1) := by decide +kernel
theorem dX0_itemOf_41 : decode cX0_itemOf 41 = .ok (.iand, 1) := by decide +kernel
theorem dX0_itemOf_42 : decode cX0_itemOf 42 = .ok (.iadd, 1) := by decide +kernel
theorem dX0_itemOf_43 : decode cX0_itemOf 43 = .ok (.istore_n 2, 1) := by decide +kernel
theorem dX0_itemOf_44 : decode cX0_itemOf 44 = .ok (.iload_n 2, 1) := by decide +kernel
theorem dX0_itemOf_45 : decode cX0_itemOf 45 = .ok (.iload_n 1, 1) := by decide +kernel
theorem dX0_itemOf_46 : decode cX0_itemOf 46 = .ok (.if_icmp .le 6, 3) := by decide +kernel
theorem dX0_itemOf_49 : decode cX0_itemOf 49 = .ok (.iload 4, 2) := by decide +kernel
theorem dX0_itemOf_51 : decode cX0_itemOf 51 = .ok (.ireturn, 1) := by decide +kernel
theorem dX0_itemOf_52 : decode cX0_itemOf 52 = .ok (.iinc 4 1, 3) := by decide +kernel
theorem dX0_itemOf_55 : decode cX0_itemOf 55 = .ok (.goto (-37), 3) := by decide +kernel
theorem dX0_itemOf_58 : decode cX0_itemOf 58 = .ok (.iinc 3 1, 3) := by decide +kernel
theorem dX0_itemOf_61 : decode cX0_itemOf 61 = .ok (.goto (-57), 3) := by decide +kernel
theorem dX0_itemOf_64 : decode cX0_itemOf 64 = .ok (.iconst 0, 1) := by decide +kernel
theorem dX0_itemOf_65 : decode cX0_itemOf 65 = .ok (.ireturn, 1) := by decide +kernel
theorem dX2_countIn_0 : decode cX2_countIn 0 = .ok (.lload_n 1, 1) := by decide +kernel
theorem dX2_countIn_1 : decode cX2_countIn 1 = .ok (.iload_n 3, 1) := by decide +kernel
theorem dX2_countIn_2 : decode cX2_countIn 2 = .ok (.bipush 8, 2) := by decide +kernel
theorem dX2_countIn_4 : decode cX2_countIn 4 = .ok (.imul, 1) := by decide +kernel
theorem dX2_countIn_5 : decode cX2_countIn 5 = .ok (.lushr, 1) := by decide +kernel
theorem dX2_countIn_6 : decode cX2_countIn 6 = .ok (.ldc2_w 50, 3) := by decide +kernel
theorem dX2_countIn_9 : decode cX2_countIn 9 = .ok (.land, 1) := by decide +kernel
theorem dX2_countIn_10 : decode cX2_countIn 10 = .ok (.l2i, 1) := by decide +kernel
theorem dX2_countIn_11 : decode cX2_countIn 11 = .ok (.ireturn, 1) := by decide +kernel
theorem dX0_sentencesWith_0 : decode cX0_sentencesWith 0 = .ok (.iconst 0, 1) := by decide +kernel
theorem dX0_sentencesWith_1 : decode cX0_sentencesWith 1 = .ok (.istore_n 2, 1) := by decide +kernel
theorem dX0_sentencesWith_2 : decode cX0_sentencesWith 2 = .ok (.iconst 0, 1) := by decide +kernel
theorem dX0_sentencesWith_3 : decode cX0_sentencesWith 3 = .ok (.istore_n 3, 1) := by decide +kernel
theorem dX0_sentencesWith_4 : decode cX0_sentencesWith 4 = .ok (.iload_n 3, 1) := by decide +kernel
theorem dX0_sentencesWith_5 : decode cX0_sentencesWith 5 = .ok (.aload_n 0, 1) := by decide +kernel
theorem dX0_sentencesWith_6 : decode cX0_sentencesWith 6 = .ok (.getfield 25, 3) := by decide +kernel
theorem dX0_sentencesWith_9 : decode cX0_sentencesWith 9 = .ok (.getfield 111, 3) := by decide +kernel
theorem dX0_sentencesWith_12 : decode cX0_sentencesWith 12 = .ok (.if_icmp .ge 36, 3) := by decide +kernel
theorem dX0_sentencesWith_15 : decode cX0_sentencesWith 15 = .ok (.iload_n 2, 1) := by decide +kernel
theorem dX0_sentencesWith_16 : decode cX0_sentencesWith 16 = .ok (.aload_n 0, 1) := by decide +kernel
theorem dX0_sentencesWith_17 : decode cX0_sentencesWith 17 = .ok (.getfield 29, 3) := by decide +kernel
theorem dX0_sentencesWith_20 : decode cX0_sentencesWith 20 = .ok (.aload_n 0, 1) := by decide +kernel
theorem dX0_sentencesWith_21 : decode cX0_sentencesWith 21 = .ok (.getfield 21, 3) := by decide +kernel
theorem dX0_sentencesWith_24 : decode cX0_sentencesWith 24 = .ok (.iload_n 3, 1) := by decide +kernel
theorem dX0_sentencesWith_25 : decode cX0_sentencesWith 25 = .ok (.laload, 1) := by decide +kernel
theorem dX0_sentencesWith_26 : decode cX0_sentencesWith 26 = .ok (.iload_n 1, 1) := by decide +kernel
theorem dX0_sentencesWith_27 : decode cX0_sentencesWith 27 = .ok (.invokevirtual 114, 3) := by decide +kernel
theorem dX0_sentencesWith_30 : decode cX0_sentencesWith 30 = .ok (.ifCond .le 9, 3) := by decide +kernel
theorem dX0_sentencesWith_33 : decode cX0_sentencesWith 33 = .ok (.iconst 1, 1) := by decide +kernel
theorem dX0_sentencesWith_34 : decode cX0_sentencesWith 34 = .ok (.iload_n 3, 1) := by decide +kernel
theorem dX0_sentencesWith_35 : decode cX0_sentencesWith 35 = .ok (.ishl, 1) := by decide +kernel
theorem dX0_sentencesWith_36 : decode cX0_sentencesWith 36 = .ok (.goto 4, 3) := by decide +kernel
theorem dX0_sentencesWith_39 : decode cX0_sentencesWith 39 = .ok (.iconst 0, 1) := by decide +kernel
theorem dX0_sentencesWith_40 : decode cX0_sentencesWith 40 = .ok (.ior, 1) := by decide +kernel
theorem dX0_sentencesWith_41 : decode cX0_sentencesWith 41 = .ok (.istore_n 2, 1) := by decide +kernel
theorem dX0_sentencesWith_42 : decode cX0_sentencesWith 42 = .ok (.iinc 3 1, 3) := by decide +kernel
theorem dX0_sentencesWith_45 : decode cX0_sentencesWith 45 = .ok (.goto (-41), 3) := by decide +kernel
theorem dX0_sentencesWith_48 : decode cX0_sentencesWith 48 = .ok (.iload_n 2, 1) := by decide +kernel
theorem dX0_sentencesWith_49 : decode cX0_sentencesWith 49 = .ok (.ireturn, 1) := by decide +kernel
theorem dX0_tallyOf_0 : decode cX0_tallyOf 0 = .ok (.lconst 0, 1) := by decide +kernel
theorem dX0_tallyOf_1 : decode cX0_tallyOf 1 = .ok (.lstore_n 2, 1) := by decide +kernel
theorem dX0_tallyOf_2 : decode cX0_tallyOf 2 = .ok (.iconst 0, 1) := by decide +kernel
theorem dX0_tallyOf_3 : decode cX0_tallyOf 3 = .ok (.istore 4, 2) := by decide +kernel
theorem dX0_tallyOf_5 : decode cX0_tallyOf 5 = .ok (.iload 4, 2) := by decide +kernel
theorem dX0_tallyOf_7 : decode cX0_tallyOf 7 = .ok (.aload_n 0, 1) := by decide +kernel
theorem dX0_tallyOf_8 : decode cX0_tallyOf 8 = .ok (.getfield 25, 3) := by decide +kernel
theorem dX0_tallyOf_11 : decode cX0_tallyOf 11 = .ok (.getfield 111, 3) := by decide +kernel
theorem dX0_tallyOf_14 : decode cX0_tallyOf 14 = .ok (.if_icmp .ge 32, 3) := by decide +kernel
theorem dX0_tallyOf_17 : decode cX0_tallyOf 17 = .ok (.lload_n 2, 1) := by decide +kernel
theorem dX0_tallyOf_18 : decode cX0_tallyOf 18 = .ok (.iload_n 1, 1) := by decide +kernel
theorem dX0_tallyOf_19 : decode cX0_tallyOf 19 = .ok (.iload 4, 2) := by decide +kernel
theorem dX0_tallyOf_21 : decode cX0_tallyOf 21 = .ok (.invokestatic 90, 3) := by decide +kernel
theorem dX0_tallyOf_24 : decode cX0_tallyOf 24 = .ok (.ifCond .eq 13, 3) := by decide +kernel
theorem dX0_tallyOf_27 : decode cX0_tallyOf 27 = .ok (.aload_n 0, 1) := by decide +kernel
theorem dX0_tallyOf_28 : decode cX0_tallyOf 28 = .ok (.getfield 21, 3) := by decide +kernel
theorem dX0_tallyOf_31 : decode cX0_tallyOf 31 = .ok (.iload 4, 2) := by decide +kernel
theorem dX0_tallyOf_33 : decode cX0_tallyOf 33 = .ok (.laload, 1) := by decide +kernel
theorem dX0_tallyOf_34 : decode cX0_tallyOf 34 = .ok (.goto 4, 3) := by decide +kernel
theorem dX0_tallyOf_37 : decode cX0_tallyOf 37 = .ok (.lconst 0, 1) := by decide +kernel
theorem dX0_tallyOf_38 : decode cX0_tallyOf 38 = .ok (.ladd, 1) := by decide +kernel
theorem dX0_tallyOf_39 : decode cX0_tallyOf 39 = .ok (.lstore_n 2, 1) := by decide +kernel
theorem dX0_tallyOf_40 : decode cX0_tallyOf 40 = .ok (.iinc 4 1, 3) := by decide +kernel
theorem dX0_tallyOf_43 : decode cX0_tallyOf 43 = .ok (.goto (-38), 3) := by decide +kernel
theorem dX0_tallyOf_46 : decode cX0_tallyOf 46 = .ok (.lload_n 2, 1) := by decide +kernel
theorem dX0_tallyOf_47 : decode cX0_tallyOf 47 = .ok (.lreturn, 1) := by decide +kernel
theorem dX6_at_0 : decode cX6_at 0 = .ok (.iload_n 1, 1) := by decide +kernel
theorem dX6_at_1 : decode cX6_at 1 = .ok (.ifCond .lt 11, 3) := by decide +kernel
theorem dX6_at_4 : decode cX6_at 4 = .ok (.iload_n 1, 1) := by decide +kernel
theorem dX6_at_5 : decode cX6_at 5 = .ok (.aload_n 0, 1) := by decide +kernel
theorem dX6_at_6 : decode cX6_at 6 = .ok (.getfield 15, 3) := by decide +kernel
theorem dX6_at_9 : decode cX6_at 9 = .ok (.if_icmp .lt 7, 3) := by decide +kernel
theorem dX6_at_12 : decode cX6_at 12 = .ok (.iconst (-1), 1) := by decide +kernel
theorem dX6_at_13 : decode cX6_at 13 = .ok (.goto 9, 3) := by decide +kernel
theorem dX6_at_16 : decode cX6_at 16 = .ok (.aload_n 0, 1) := by decide +kernel
theorem dX6_at_17 : decode cX6_at 17 = .ok (.getfield 9, 3) := by decide +kernel
theorem dX6_at_20 : decode cX6_at 20 = .ok (.iload_n 1, 1) := by decide +kernel
theorem dX6_at_21 : decode cX6_at 21 = .ok (.iaload, 1) := by decide +kernel
theorem dX6_at_22 : decode cX6_at 22 = .ok (.ireturn, 1) := by decide +kernel
theorem dX1_isSecondOfPair_0 : decode cX1_isSecondOfPair 0 = .ok (.aload_n 0, 1) := by decide +kernel
theorem dX1_isSecondOfPair_1 : decode cX1_isSecondOfPair 1 = .ok (.iload_n 1, 1) := by decide +kernel
theorem dX1_isSecondOfPair_2 : decode cX1_isSecondOfPair 2 = .ok (.invokevirtual 82, 3) := by decide +kernel
theorem dX1_isSecondOfPair_5 : decode cX1_isSecondOfPair 5 = .ok (.sipush 128, 3) := by decide +kernel
theorem dX1_isSecondOfPair_8 : decode cX1_isSecondOfPair 8 = .ok (.if_icmp .lt 31, 3) := by decide +kernel
theorem dX1_isSecondOfPair_11 : decode cX1_isSecondOfPair 11 = .ok (.aload_n 0, 1) := by decide +kernel
theorem dX1_isSecondOfPair_12 : decode cX1_isSecondOfPair 12 = .ok (.iload_n 1, 1) := by decide +kernel
theorem dX1_isSecondOfPair_13 : decode cX1_isSecondOfPair 13 = .ok (.invokevirtual 82, 3) := by decide +kernel
theorem dX1_isSecondOfPair_16 : decode cX1_isSecondOfPair 16 = .ok (.sipush 191, 3) := by decide +kernel
theorem dX1_isSecondOfPair_19 : decode cX1_isSecondOfPair 19 = .ok (.if_icmp .gt 20, 3) := by decide +kernel
theorem dX1_isSecondOfPair_22 : decode cX1_isSecondOfPair 22 = .ok (.aload_n 0, 1) := by decide +kernel
theorem dX1_isSecondOfPair_23 : decode cX1_isSecondOfPair 23 = .ok (.iload_n 1, 1) := by decide +kernel
theorem dX1_isSecondOfPair_24 : decode cX1_isSecondOfPair 24 = .ok (.iconst 1, 1) := by decide +kernel
theorem dX1_isSecondOfPair_25 : decode cX1_isSecondOfPair 25 = .ok (.isub, 1) := by decide +kernel
theorem dX1_isSecondOfPair_26 : decode cX1_isSecondOfPair 26 = .ok (.invokevirtual 82, 3) := by decide +kernel
theorem dX1_isSecondOfPair_29 : decode cX1_isSecondOfPair 29 = .ok (.sipush 192, 3) := by decide +kernel
theorem dX1_isSecondOfPair_32 : decode cX1_isSecondOfPair 32 = .ok (.if_icmp .lt 7, 3) := by decide +kernel
theorem dX1_isSecondOfPair_35 : decode cX1_isSecondOfPair 35 = .ok (.iconst 1, 1) := by decide +kernel
theorem dX1_isSecondOfPair_36 : decode cX1_isSecondOfPair 36 = .ok (.goto 4, 3) := by decide +kernel
theorem dX1_isSecondOfPair_39 : decode cX1_isSecondOfPair 39 = .ok (.iconst 0, 1) := by decide +kernel
theorem dX1_isSecondOfPair_40 : decode cX1_isSecondOfPair 40 = .ok (.ireturn, 1) := by decide +kernel
theorem dX9_isSmallLetter_0 : decode cX9_isSmallLetter 0 = .ok (.iload_n 0, 1) := by decide +kernel
theorem dX9_isSmallLetter_1 : decode cX9_isSmallLetter 1 = .ok (.bipush 97, 2) := by decide +kernel
theorem dX9_isSmallLetter_3 : decode cX9_isSmallLetter 3 = .ok (.if_icmp .lt 13, 3) := by decide +kernel
theorem dX9_isSmallLetter_6 : decode cX9_isSmallLetter 6 = .ok (.iload_n 0, 1) := by decide +kernel
theorem dX9_isSmallLetter_7 : decode cX9_isSmallLetter 7 = .ok (.bipush 122, 2) := by decide +kernel
theorem dX9_isSmallLetter_9 : decode cX9_isSmallLetter 9 = .ok (.if_icmp .gt 7, 3) := by decide +kernel
theorem dX9_isSmallLetter_12 : decode cX9_isSmallLetter 12 = .ok (.iconst 1, 1) := by decide +kernel
theorem dX9_isSmallLetter_13 : decode cX9_isSmallLetter 13 = .ok (.goto 4, 3) := by decide +kernel
theorem dX9_isSmallLetter_16 : decode cX9_isSmallLetter 16 = .ok (.iconst 0, 1) := by decide +kernel
theorem dX9_isSmallLetter_17 : decode cX9_isSmallLetter 17 = .ok (.ireturn, 1) := by decide +kernel
theorem dX1_findSigns_0 : decode cX1_findSigns 0 = .ok (.aload_n 0, 1) := by decide +kernel
theorem dX1_findSigns_1 : decode cX1_findSigns 1 = .ok (.iconst 0, 1) := by decide +kernel
theorem dX1_findSigns_2 : decode cX1_findSigns 2 = .ok (.putfield 83, 3) := by decide +kernel
theorem dX1_findSigns_5 : decode cX1_findSigns 5 = .ok (.iconst 0, 1) := by decide +kernel
theorem dX1_findSigns_6 : decode cX1_findSigns 6 = .ok (.istore_n 1, 1) := by decide +kernel
theorem dX1_findSigns_7 : decode cX1_findSigns 7 = .ok (.iload_n 1, 1) := by decide +kernel
theorem dX1_findSigns_8 : decode cX1_findSigns 8 = .ok (.aload_n 0, 1) := by decide +kernel
theorem dX1_findSigns_9 : decode cX1_findSigns 9 = .ok (.getfield 62, 3) := by decide +kernel
theorem dX1_findSigns_12 : decode cX1_findSigns 12 = .ok (.if_icmp .ge 82, 3) := by decide +kernel
theorem dX1_findSigns_15 : decode cX1_findSigns 15 = .ok (.aload_n 0, 1) := by decide +kernel
theorem dX1_findSigns_16 : decode cX1_findSigns 16 = .ok (.iload_n 1, 1) := by decide +kernel
theorem dX1_findSigns_17 : decode cX1_findSigns 17 = .ok (.invokevirtual 86, 3) := by decide +kernel
theorem dX1_findSigns_20 : decode cX1_findSigns 20 = .ok (.ifCond .ne 13, 3) := by decide +kernel
theorem dX1_findSigns_23 : decode cX1_findSigns 23 = .ok (.aload_n 0, 1) := by decide +kernel
theorem dX1_findSigns_24 : decode cX1_findSigns 24 = .ok (.dup, 1) := by decide +kernel
theorem dX1_findSigns_25 : decode cX1_findSigns 25 = .ok (.getfield 83, 3) := by decide +kernel
theorem dX1_findSigns_28 : decode cX1_findSigns 28 = .ok (.iconst 1, 1) := by decide +kernel
theorem dX1_findSigns_29 : decode cX1_findSigns 29 = .ok (.iadd, 1) := by decide +kernel
theorem dX1_findSigns_30 : decode cX1_findSigns 30 = .ok (.putfield 83, 3) := by decide +kernel
theorem dX1_findSigns_33 : decode cX1_findSigns 33 = .ok (.aload_n 0, 1) := by decide +kernel
theorem dX1_findSigns_34 : decode cX1_findSigns 34 = .ok (.getfield 19, 3) := by decide +kernel
theorem dX1_findSigns_37 : decode cX1_findSigns 37 = .ok (.iload_n 1, 1) := by decide +kernel
theorem dX1_findSigns_38 : decode cX1_findSigns 38 = .ok (.aload_n 0, 1) := by decide +kernel
theorem dX1_findSigns_39 : decode cX1_findSigns 39 = .ok (.getfield 83, 3) := by decide +kernel
theorem dX1_findSigns_42 : decode cX1_findSigns 42 = .ok (.iconst 1, 1) := by decide +kernel
theorem dX1_findSigns_43 : decode cX1_findSigns 43 = .ok (.isub, 1) := by decide +kernel
theorem dX1_findSigns_44 : decode cX1_findSigns 44 = .ok (.iastore, 1) := by decide +kernel
theorem dX1_findSigns_45 : decode cX1_findSigns 45 = .ok (.aload_n 0, 1) := by decide +kernel
theorem dX1_findSigns_46 : decode cX1_findSigns 46 = .ok (.getfield 15, 3) := by decide +kernel
theorem dX1_findSigns_49 : decode cX1_findSigns 49 = .ok (.iload_n 1, 1) := by decide +kernel
theorem dX1_findSigns_50 : decode cX1_findSigns 50 = .ok (.aload_n 0, 1) := by decide +kernel
theorem dX1_findSigns_51 : decode cX1_findSigns 51 = .ok (.iload_n 1, 1) := by decide +kernel
theorem dX1_findSigns_52 : decode cX1_findSigns 52 = .ok (.invokevirtual 82, 3) := by decide +kernel
theorem dX1_findSigns_55 : decode cX1_findSigns 55 = .ok (.invokestatic 90, 3) := by decide +kernel
theorem dX1_findSigns_58 : decode cX1_findSigns 58 = .ok (.invokestatic 93, 3) := by decide +kernel
theorem dX1_findSigns_61 : decode cX1_findSigns 61 = .ok (.ifCond .ne 21, 3) := by decide +kernel
theorem dX1_findSigns_64 : decode cX1_findSigns 64 = .ok (.aload_n 0, 1) := by decide +kernel
theorem dX1_findSigns_65 : decode cX1_findSigns 65 = .ok (.iload_n 1, 1) := by decide +kernel
theorem dX1_findSigns_66 : decode cX1_findSigns 66 = .ok (.invokevirtual 86, 3) := by decide +kernel
theorem dX1_findSigns_69 : decode cX1_findSigns 69 = .ok (.ifCond .ne 13, 3) := by decide +kernel
theorem dX1_findSigns_72 : decode cX1_findSigns 72 = .ok (.aload_n 0, 1) := by decide +kernel
theorem dX1_findSigns_73 : decode cX1_findSigns 73 = .ok (.iload_n 1, 1) := by decide +kernel
theorem dX1_findSigns_74 : decode cX1_findSigns 74 = .ok (.iconst 1, 1) := by decide +kernel
theorem dX1_findSigns_75 : decode cX1_findSigns 75 = .ok (.iadd, 1) := by decide +kernel
theorem dX1_findSigns_76 : decode cX1_findSigns 76 = .ok (.invokevirtual 86, 3) := by decide +kernel
theorem dX1_findSigns_79 : decode cX1_findSigns 79 = .ok (.ifCond .eq 7, 3) := by decide +kernel
theorem dX1_findSigns_82 : decode cX1_findSigns 82 = .ok (.iconst 1, 1) := by decide +kernel
theorem dX1_findSigns_83 : decode cX1_findSigns 83 = .ok (.goto 4, 3) := by decide +kernel
theorem dX1_findSigns_86 : decode cX1_findSigns 86 = .ok (.iconst 0, 1) := by decide +kernel
theorem dX1_findSigns_87 : decode cX1_findSigns 87 = .ok (.bastore, 1) := by decide +kernel
theorem dX1_findSigns_88 : decode cX1_findSigns 88 = .ok (.iinc 1 1, 3) := by decide +kernel
theorem dX1_findSigns_91 : decode cX1_findSigns 91 = .ok (.goto (-84), 3) := by decide +kernel
theorem dX1_findSigns_94 : decode cX1_findSigns 94 = .ok (.aload_n 0, 1) := by decide +kernel
theorem dX1_findSigns_95 : decode cX1_findSigns 95 = .ok (.getfield 19, 3) := by decide +kernel
theorem dX1_findSigns_98 : decode cX1_findSigns 98 = .ok (.aload_n 0, 1) := by decide +kernel
theorem dX1_findSigns_99 : decode cX1_findSigns 99 = .ok (.getfield 62, 3) := by decide +kernel
theorem dX1_findSigns_102 : decode cX1_findSigns 102 = .ok (.aload_n 0, 1) := by decide +kernel
theorem dX1_findSigns_103 : decode cX1_findSigns 103 = .ok (.getfield 83, 3) := by decide +kernel
theorem dX1_findSigns_106 : decode cX1_findSigns 106 = .ok (.iastore, 1) := by decide +kernel
theorem dX1_findSigns_107 : decode cX1_findSigns 107 = .ok (.return_, 1) := by decide +kernel
theorem dX9_isBlank_0 : decode cX9_isBlank 0 = .ok (.iload_n 0, 1) := by decide +kernel
theorem dX9_isBlank_1 : decode cX9_isBlank 1 = .ok (.bipush 9, 2) := by decide +kernel
theorem dX9_isBlank_3 : decode cX9_isBlank 3 = .ok (.if_icmp .eq 15, 3) := by decide +kernel
theorem dX9_isBlank_6 : decode cX9_isBlank 6 = .ok (.iload_n 0, 1) := by decide +kernel
theorem dX9_isBlank_7 : decode cX9_isBlank 7 = .ok (.bipush 10, 2) := by decide +kernel
theorem dX9_isBlank_9 : decode cX9_isBlank 9 = .ok (.if_icmp .eq 9, 3) := by decide +kernel
theorem dX9_isBlank_12 : decode cX9_isBlank 12 = .ok (.iload_n 0, 1) := by decide +kernel
theorem dX9_isBlank_13 : decode cX9_isBlank 13 = .ok (.bipush 32, 2) := by decide +kernel
theorem dX9_isBlank_15 : decode cX9_isBlank 15 = .ok (.if_icmp .ne 7, 3) := by decide +kernel
theorem dX9_isBlank_18 : decode cX9_isBlank 18 = .ok (.iconst 1, 1) := by decide +kernel
theorem dX9_isBlank_19 : decode cX9_isBlank 19 = .ok (.goto 4, 3) := by decide +kernel
theorem dX9_isBlank_22 : decode cX9_isBlank 22 = .ok (.iconst 0, 1) := by decide +kernel
theorem dX9_isBlank_23 : decode cX9_isBlank 23 = .ok (.ireturn, 1) := by decide +kernel
theorem dX1_firstNotBlank_0 : decode cX1_firstNotBlank 0 = .ok (.iload_n 1, 1) := by decide +kernel
theorem dX1_firstNotBlank_1 : decode cX1_firstNotBlank 1 = .ok (.istore_n 2, 1) := by decide +kernel
theorem dX1_firstNotBlank_2 : decode cX1_firstNotBlank 2 = .ok (.iload_n 2, 1) := by decide +kernel
theorem dX1_firstNotBlank_3 : decode cX1_firstNotBlank 3 = .ok (.aload_n 0, 1) := by decide +kernel
theorem dX1_firstNotBlank_4 : decode cX1_firstNotBlank 4 = .ok (.getfield 62, 3) := by decide +kernel
theorem dX1_firstNotBlank_7 : decode cX1_firstNotBlank 7 = .ok (.if_icmp .ge 22, 3) := by decide +kernel
theorem dX1_firstNotBlank_10 : decode cX1_firstNotBlank 10 = .ok (.aload_n 0, 1) := by decide +kernel
theorem dX1_firstNotBlank_11 : decode cX1_firstNotBlank 11 = .ok (.iload_n 2, 1) := by decide +kernel
theorem dX1_firstNotBlank_12 : decode cX1_firstNotBlank 12 = .ok (.invokevirtual 82, 3) := by decide +kernel
theorem dX1_firstNotBlank_15 : decode cX1_firstNotBlank 15 = .ok (.invokestatic 111, 3) := by decide +kernel
theorem dX1_firstNotBlank_18 : decode cX1_firstNotBlank 18 = .ok (.ifCond .ne 5, 3) := by decide +kernel
theorem dX1_firstNotBlank_21 : decode cX1_firstNotBlank 21 = .ok (.iload_n 2, 1) := by decide +kernel
theorem dX1_firstNotBlank_22 : decode cX1_firstNotBlank 22 = .ok (.ireturn, 1) := by decide +kernel
theorem dX1_firstNotBlank_23 : decode cX1_firstNotBlank 23 = .ok (.iinc 2 1, 3) := by decide +kernel
theorem dX1_firstNotBlank_26 : decode cX1_firstNotBlank 26 = .ok (.goto (-24), 3) := by decide +kernel
theorem dX1_firstNotBlank_29 : decode cX1_firstNotBlank 29 = .ok (.aload_n 0, 1) := by decide +kernel
theorem dX1_firstNotBlank_30 : decode cX1_firstNotBlank 30 = .ok (.getfield 62, 3) := by decide +kernel
theorem dX1_firstNotBlank_33 : decode cX1_firstNotBlank 33 = .ok (.ireturn, 1) := by decide +kernel
theorem dX1_isStop_0 : decode cX1_isStop 0 = .ok (.iload_n 1, 1) := by decide +kernel
theorem dX1_isStop_1 : decode cX1_isStop 1 = .ok (.bipush 46, 2) := by decide +kernel
theorem dX1_isStop_3 : decode cX1_isStop 3 = .ok (.if_icmp .eq 15, 3) := by decide +kernel
theorem dX1_isStop_6 : decode cX1_isStop 6 = .ok (.iload_n 1, 1) := by decide +kernel
theorem dX1_isStop_7 : decode cX1_isStop 7 = .ok (.bipush 33, 2) := by decide +kernel
theorem dX1_isStop_9 : decode cX1_isStop 9 = .ok (.if_icmp .eq 9, 3) := by decide +kernel
theorem dX1_isStop_12 : decode cX1_isStop 12 = .ok (.iload_n 1, 1) := by decide +kernel
theorem dX1_isStop_13 : decode cX1_isStop 13 = .ok (.bipush 63, 2) := by decide +kernel
theorem dX1_isStop_15 : decode cX1_isStop 15 = .ok (.if_icmp .ne 7, 3) := by decide +kernel
theorem dX1_isStop_18 : decode cX1_isStop 18 = .ok (.iconst 1, 1) := by decide +kernel
theorem dX1_isStop_19 : decode cX1_isStop 19 = .ok (.goto 4, 3) := by decide +kernel
theorem dX1_isStop_22 : decode cX1_isStop 22 = .ok (.iconst 0, 1) := by decide +kernel
theorem dX1_isStop_23 : decode cX1_isStop 23 = .ok (.ireturn, 1) := by decide +kernel
theorem dX1_isCloser_0 : decode cX1_isCloser 0 = .ok (.aload_n 0, 1) := by decide +kernel
theorem dX1_isCloser_1 : decode cX1_isCloser 1 = .ok (.iload_n 1, 1) := by decide +kernel
theorem dX1_isCloser_2 : decode cX1_isCloser 2 = .ok (.invokevirtual 124, 3) := by decide +kernel
theorem dX1_isCloser_5 : decode cX1_isCloser 5 = .ok (.ifCond .ne 15, 3) := by decide +kernel
theorem dX1_isCloser_8 : decode cX1_isCloser 8 = .ok (.iload_n 1, 1) := by decide +kernel
theorem dX1_isCloser_9 : decode cX1_isCloser 9 = .ok (.bipush 41, 2) := by decide +kernel
theorem dX1_isCloser_11 : decode cX1_isCloser 11 = .ok (.if_icmp .eq 9, 3) := by decide +kernel
theorem dX1_isCloser_14 : decode cX1_isCloser 14 = .ok (.iload_n 1, 1) := by decide +kernel
theorem dX1_isCloser_15 : decode cX1_isCloser 15 = .ok (.bipush 34, 2) := by decide +kernel
theorem dX1_isCloser_17 : decode cX1_isCloser 17 = .ok (.if_icmp .ne 7, 3) := by decide +kernel
theorem dX1_isCloser_20 : decode cX1_isCloser 20 = .ok (.iconst 1, 1) := by decide +kernel
theorem dX1_isCloser_21 : decode cX1_isCloser 21 = .ok (.goto 4, 3) := by decide +kernel
theorem dX1_isCloser_24 : decode cX1_isCloser 24 = .ok (.iconst 0, 1) := by decide +kernel
theorem dX1_isCloser_25 : decode cX1_isCloser 25 = .ok (.ireturn, 1) := by decide +kernel
theorem dX1_isLetter_0 : decode cX1_isLetter 0 = .ok (.iload_n 1, 1) := by decide +kernel
theorem dX1_isLetter_1 : decode cX1_isLetter 1 = .ok (.ifCond .lt 24, 3) := by decide +kernel
theorem dX1_isLetter_4 : decode cX1_isLetter 4 = .ok (.iload_n 1, 1) := by decide +kernel
theorem dX1_isLetter_5 : decode cX1_isLetter 5 = .ok (.aload_n 0, 1) := by decide +kernel
theorem dX1_isLetter_6 : decode cX1_isLetter 6 = .ok (.getfield 62, 3) := by decide +kernel
theorem dX1_isLetter_9 : decode cX1_isLetter 9 = .ok (.if_icmp .ge 16, 3) := by decide +kernel
theorem dX1_isLetter_12 : decode cX1_isLetter 12 = .ok (.aload_n 0, 1) := by decide +kernel
theorem dX1_isLetter_13 : decode cX1_isLetter 13 = .ok (.getfield 15, 3) := by decide +kernel
theorem dX1_isLetter_16 : decode cX1_isLetter 16 = .ok (.iload_n 1, 1) := by decide +kernel
theorem dX1_isLetter_17 : decode cX1_isLetter 17 = .ok (.baload, 1) := by decide +kernel
theorem dX1_isLetter_18 : decode cX1_isLetter 18 = .ok (.ifCond .eq 7, 3) := by decide +kernel
theorem dX1_isLetter_21 : decode cX1_isLetter 21 = .ok (.iconst 1, 1) := by decide +kernel
theorem dX1_isLetter_22 : decode cX1_isLetter 22 = .ok (.goto 4, 3) := by decide +kernel
theorem dX1_isLetter_25 : decode cX1_isLetter 25 = .ok (.iconst 0, 1) := by decide +kernel
theorem dX1_isLetter_26 : decode cX1_isLetter 26 = .ok (.ireturn, 1) := by decide +kernel
theorem dX1_isLoneLetter_0 : decode cX1_isLoneLetter 0 = .ok (.iload_n 1, 1) := by decide +kernel
theorem dX1_isLoneLetter_1 : decode cX1_isLoneLetter 1 = .ok (.ifCond .le 24, 3) := by decide +kernel
theorem dX1_isLoneLetter_4 : decode cX1_isLoneLetter 4 = .ok (.aload_n 0, 1) := by decide +kernel
theorem dX1_isLoneLetter_5 : decode cX1_isLoneLetter 5 = .ok (.getfield 19, 3) := by decide +kernel
theorem dX1_isLoneLetter_8 : decode cX1_isLoneLetter 8 = .ok (.iload_n 1, 1) := by decide +kernel
theorem dX1_isLoneLetter_9 : decode cX1_isLoneLetter 9 = .ok (.iconst 1, 1) := by decide +kernel
theorem dX1_isLoneLetter_10 : decode cX1_isLoneLetter 10 = .ok (.isub, 1) := by decide +kernel
theorem dX1_isLoneLetter_11 : decode cX1_isLoneLetter 11 = .ok (.iaload, 1) := by decide +kernel
theorem dX1_isLoneLetter_12 : decode cX1_isLoneLetter 12 = .ok (.aload_n 0, 1) := by decide +kernel
theorem dX1_isLoneLetter_13 : decode cX1_isLoneLetter 13 = .ok (.getfield 19, 3) := by decide +kernel
theorem dX1_isLoneLetter_16 : decode cX1_isLoneLetter 16 = .ok (.iload_n 1, 1) := by decide +kernel
theorem dX1_isLoneLetter_17 : decode cX1_isLoneLetter 17 = .ok (.iaload, 1) := by decide +kernel
theorem dX1_isLoneLetter_18 : decode cX1_isLoneLetter 18 = .ok (.if_icmp .ne 7, 3) := by decide +kernel
theorem dX1_isLoneLetter_21 : decode cX1_isLoneLetter 21 = .ok (.iconst 1, 1) := by decide +kernel
theorem dX1_isLoneLetter_22 : decode cX1_isLoneLetter 22 = .ok (.goto 4, 3) := by decide +kernel
theorem dX1_isLoneLetter_25 : decode cX1_isLoneLetter 25 = .ok (.iconst 0, 1) := by decide +kernel
theorem dX1_isLoneLetter_26 : decode cX1_isLoneLetter 26 = .ok (.istore_n 2, 1) := by decide +kernel
theorem dX1_isLoneLetter_27 : decode cX1_isLoneLetter 27 = .ok (.aload_n 0, 1) := by decide +kernel
theorem dX1_isLoneLetter_28 : decode cX1_isLoneLetter 28 = .ok (.iload_n 1, 1) := by decide +kernel
theorem dX1_isLoneLetter_29 : decode cX1_isLoneLetter 29 = .ok (.invokevirtual 99, 3) := by decide +kernel
theorem dX1_isLoneLetter_32 : decode cX1_isLoneLetter 32 = .ok (.ifCond .eq 27, 3) := by decide +kernel
theorem dX1_isLoneLetter_35 : decode cX1_isLoneLetter 35 = .ok (.aload_n 0, 1) := by decide +kernel
theorem dX1_isLoneLetter_36 : decode cX1_isLoneLetter 36 = .ok (.iload_n 2, 1) := by decide +kernel
theorem dX1_isLoneLetter_37 : decode cX1_isLoneLetter 37 = .ok (.ifCond .eq 9, 3) := by decide +kernel
theorem dX1_isLoneLetter_40 : decode cX1_isLoneLetter 40 = .ok (.iload_n 1, 1) := by decide +kernel
theorem dX1_isLoneLetter_41 : decode cX1_isLoneLetter 41 = .ok (.iconst 2, 1) := by decide +kernel
theorem dX1_isLoneLetter_42 : decode cX1_isLoneLetter 42 = .ok (.isub, 1) := by decide +kernel
theorem dX1_isLoneLetter_43 : decode cX1_isLoneLetter 43 = .ok (.goto 6, 3) := by decide +kernel
theorem dX1_isLoneLetter_46 : decode cX1_isLoneLetter 46 = .ok (.iload_n 1, 1) := by decide +kernel
theorem dX1_isLoneLetter_47 : decode cX1_isLoneLetter 47 = .ok (.iconst 1, 1) := by decide +kernel
theorem dX1_isLoneLetter_48 : decode cX1_isLoneLetter 48 = .ok (.isub, 1) := by decide +kernel
theorem dX1_isLoneLetter_49 : decode cX1_isLoneLetter 49 = .ok (.invokevirtual 99, 3) := by decide +kernel
theorem dX1_isLoneLetter_52 : decode cX1_isLoneLetter 52 = .ok (.ifCond .ne 7, 3) := by decide +kernel
theorem dX1_isLoneLetter_55 : decode cX1_isLoneLetter 55 = .ok (.iconst 1, 1) := by decide +kernel
theorem dX1_isLoneLetter_56 : decode cX1_isLoneLetter 56 = .ok (.goto 4, 3) := by decide +kernel
theorem dX1_isLoneLetter_59 : decode cX1_isLoneLetter 59 = .ok (.iconst 0, 1) := by decide +kernel
theorem dX1_isLoneLetter_60 : decode cX1_isLoneLetter 60 = .ok (.ireturn, 1) := by decide +kernel
theorem dX1_behindClosing_0 : decode cX1_behindClosing 0 = .ok (.aload_n 0, 1) := by decide +kernel
theorem dX1_behindClosing_1 : decode cX1_behindClosing 1 = .ok (.aload_n 0, 1) := by decide +kernel
theorem dX1_behindClosing_2 : decode cX1_behindClosing 2 = .ok (.iload_n 1, 1) := by decide +kernel
theorem dX1_behindClosing_3 : decode cX1_behindClosing 3 = .ok (.invokevirtual 82, 3) := by decide +kernel
theorem dX1_behindClosing_6 : decode cX1_behindClosing 6 = .ok (.invokevirtual 124, 3) := by decide +kernel
theorem dX1_behindClosing_9 : decode cX1_behindClosing 9 = .ok (.ifCond .ne 5, 3) := by decide +kernel
theorem dX1_behindClosing_12 : decode cX1_behindClosing 12 = .ok (.iconst (-1), 1) := by decide +kernel
theorem dX1_behindClosing_13 : decode cX1_behindClosing 13 = .ok (.ireturn, 1) := by decide +kernel
theorem dX1_behindClosing_14 : decode cX1_behindClosing 14 = .ok (.iload_n 1, 1) := by decide +kernel
theorem dX1_behindClosing_15 : decode cX1_behindClosing 15 = .ok (.iconst 1, 1) := by decide +kernel
theorem dX1_behindClosing_16 : decode cX1_behindClosing 16 = .ok (.iadd, 1) := by decide +kernel
theorem dX1_behindClosing_17 : decode cX1_behindClosing 17 = .ok (.istore_n 2, 1) := by decide +kernel
theorem dX1_behindClosing_18 : decode cX1_behindClosing 18 = .ok (.iload_n 2, 1) := by decide +kernel
theorem dX1_behindClosing_19 : decode cX1_behindClosing 19 = .ok (.aload_n 0, 1) := by decide +kernel
theorem dX1_behindClosing_20 : decode cX1_behindClosing 20 = .ok (.getfield 62, 3) := by decide +kernel
theorem dX1_behindClosing_23 : decode cX1_behindClosing 23 = .ok (.if_icmp .ge 21, 3) := by decide +kernel
theorem dX1_behindClosing_26 : decode cX1_behindClosing 26 = .ok (.aload_n 0, 1) := by decide +kernel
theorem dX1_behindClosing_27 : decode cX1_behindClosing 27 = .ok (.aload_n 0, 1) := by decide +kernel
theorem dX1_behindClosing_28 : decode cX1_behindClosing 28 = .ok (.iload_n 2, 1) := by decide +kernel
theorem dX1_behindClosing_29 : decode cX1_behindClosing 29 = .ok (.invokevirtual 82, 3) := by decide +kernel
theorem dX1_behindClosing_32 : decode cX1_behindClosing 32 = .ok (.invokevirtual 127, 3) := by decide +kernel
theorem dX1_behindClosing_35 : decode cX1_behindClosing 35 = .ok (.ifCond .eq 9, 3) := by decide +kernel
theorem dX1_behindClosing_38 : decode cX1_behindClosing 38 = .ok (.iinc 2 1, 3) := by decide +kernel
theorem dX1_behindClosing_41 : decode cX1_behindClosing 41 = .ok (.goto (-23), 3) := by decide +kernel
theorem dX1_behindClosing_44 : decode cX1_behindClosing 44 = .ok (.iload_n 2, 1) := by decide +kernel
theorem dX1_behindClosing_45 : decode cX1_behindClosing 45 = .ok (.aload_n 0, 1) := by decide +kernel
theorem dX1_behindClosing_46 : decode cX1_behindClosing 46 = .ok (.getfield 62, 3) := by decide +kernel
theorem dX1_behindClosing_49 : decode cX1_behindClosing 49 = .ok (.if_icmp .ge 16, 3) := by decide +kernel
theorem dX1_behindClosing_52 : decode cX1_behindClosing 52 = .ok (.aload_n 0, 1) := by decide +kernel
theorem dX1_behindClosing_53 : decode cX1_behindClosing 53 = .ok (.iload_n 2, 1) := by decide +kernel
theorem dX1_behindClosing_54 : decode cX1_behindClosing 54 = .ok (.invokevirtual 82, 3) := by decide +kernel
theorem dX1_behindClosing_57 : decode cX1_behindClosing 57 = .ok (.invokestatic 111, 3) := by decide +kernel
theorem dX1_behindClosing_60 : decode cX1_behindClosing 60 = .ok (.ifCond .ne 5, 3) := by decide +kernel
theorem dX1_behindClosing_63 : decode cX1_behindClosing 63 = .ok (.iconst (-1), 1) := by decide +kernel
theorem dX1_behindClosing_64 : decode cX1_behindClosing 64 = .ok (.ireturn, 1) := by decide +kernel
theorem dX1_behindClosing_65 : decode cX1_behindClosing 65 = .ok (.iload_n 2, 1) := by decide +kernel
theorem dX1_behindClosing_66 : decode cX1_behindClosing 66 = .ok (.iload_n 1, 1) := by decide +kernel
theorem dX1_behindClosing_67 : decode cX1_behindClosing 67 = .ok (.iconst 1, 1) := by decide +kernel
theorem dX1_behindClosing_68 : decode cX1_behindClosing 68 = .ok (.iadd, 1) := by decide +kernel
theorem dX1_behindClosing_69 : decode cX1_behindClosing 69 = .ok (.if_icmp .ne 7, 3) := by decide +kernel
theorem dX1_behindClosing_72 : decode cX1_behindClosing 72 = .ok (.iconst 1, 1) := by decide +kernel
theorem dX1_behindClosing_73 : decode cX1_behindClosing 73 = .ok (.goto 4, 3) := by decide +kernel
theorem dX1_behindClosing_76 : decode cX1_behindClosing 76 = .ok (.iconst 0, 1) := by decide +kernel
theorem dX1_behindClosing_77 : decode cX1_behindClosing 77 = .ok (.istore_n 3, 1) := by decide +kernel
theorem dX1_behindClosing_78 : decode cX1_behindClosing 78 = .ok (.iload_n 3, 1) := by decide +kernel
theorem dX1_behindClosing_79 : decode cX1_behindClosing 79 = .ok (.ifCond .eq 27, 3) := by decide +kernel
theorem dX1_behindClosing_82 : decode cX1_behindClosing 82 = .ok (.aload_n 0, 1) := by decide +kernel
theorem dX1_behindClosing_83 : decode cX1_behindClosing 83 = .ok (.iload_n 1, 1) := by decide +kernel
theorem dX1_behindClosing_84 : decode cX1_behindClosing 84 = .ok (.invokevirtual 82, 3) := by decide +kernel
theorem dX1_behindClosing_87 : decode cX1_behindClosing 87 = .ok (.bipush 46, 2) := by decide +kernel
theorem dX1_behindClosing_89 : decode cX1_behindClosing 89 = .ok (.if_icmp .ne 17, 3) := by decide +kernel
theorem dX1_behindClosing_92 : decode cX1_behindClosing 92 = .ok (.aload_n 0, 1) := by decide +kernel
theorem dX1_behindClosing_93 : decode cX1_behindClosing 93 = .ok (.iload_n 1, 1) := by decide +kernel
theorem dX1_behindClosing_94 : decode cX1_behindClosing 94 = .ok (.iconst 1, 1) := by decide +kernel
theorem dX1_behindClosing_95 : decode cX1_behindClosing 95 = .ok (.isub, 1) := by decide +kernel
theorem dX1_behindClosing_96 : decode cX1_behindClosing 96 = .ok (.invokevirtual 130, 3) := by decide +kernel
theorem dX1_behindClosing_99 : decode cX1_behindClosing 99 = .ok (.ifCond .eq 7, 3) := by decide +kernel
theorem dX1_behindClosing_102 : decode cX1_behindClosing 102 = .ok (.iconst (-1), 1) := by decide +kernel
theorem dX1_behindClosing_103 : decode cX1_behindClosing 103 = .ok (.goto 4, 3) := by decide +kernel
theorem dX1_behindClosing_106 : decode cX1_behindClosing 106 = .ok (.iload_n 2, 1) := by decide +kernel
theorem dX1_behindClosing_107 : decode cX1_behindClosing 107 = .ok (.ireturn, 1) := by decide +kernel
theorem dX1_isEmptyLineAhead_0 : decode cX1_isEmptyLineAhead 0 = .ok (.aload_n 0, 1) := by decide +kernel
theorem dX1_isEmptyLineAhead_1 : decode cX1_isEmptyLineAhead 1 = .ok (.iload_n 1, 1) := by decide +kernel
theorem dX1_isEmptyLineAhead_2 : decode cX1_isEmptyLineAhead 2 = .ok (.invokevirtual 82, 3) := by decide +kernel
theorem dX1_isEmptyLineAhead_5 : decode cX1_isEmptyLineAhead 5 = .ok (.bipush 10, 2) := by decide +kernel
theorem dX1_isEmptyLineAhead_7 : decode cX1_isEmptyLineAhead 7 = .ok (.if_icmp .eq 5, 3) := by decide +kernel
theorem dX1_isEmptyLineAhead_10 : decode cX1_isEmptyLineAhead 10 = .ok (.iconst 0, 1) := by decide +kernel
theorem dX1_isEmptyLineAhead_11 : decode cX1_isEmptyLineAhead 11 = .ok (.ireturn, 1) := by decide +kernel
theorem dX1_isEmptyLineAhead_12 : decode cX1_isEmptyLineAhead 12 = .ok (.iload_n 1, 1) := by decide +kernel
theorem dX1_isEmptyLineAhead_13 : decode cX1_isEmptyLineAhead 13 = .ok (.iconst 1, 1) := by decide +kernel
theorem dX1_isEmptyLineAhead_14 : decode cX1_isEmptyLineAhead 14 = .ok (.iadd, 1) := by decide +kernel
theorem dX1_isEmptyLineAhead_15 : decode cX1_isEmptyLineAhead 15 = .ok (.istore_n 2, 1) := by decide +kernel
theorem dX1_isEmptyLineAhead_16 : decode cX1_isEmptyLineAhead 16 = .ok (.iload_n 2, 1) := by decide +kernel
theorem dX1_isEmptyLineAhead_17 : decode cX1_isEmptyLineAhead 17 = .ok (.aload_n 0, 1) := by decide +kernel
theorem dX1_isEmptyLineAhead_18 : decode cX1_isEmptyLineAhead 18 = .ok (.getfield 62, 3) := by decide +kernel
theorem dX1_isEmptyLineAhead_21 : decode cX1_isEmptyLineAhead 21 = .ok (.if_icmp .ge 29, 3) := by decide +kernel
theorem dX1_isEmptyLineAhead_24 : decode cX1_isEmptyLineAhead 24 = .ok (.aload_n 0, 1) := by decide +kernel
theorem dX1_isEmptyLineAhead_25 : decode cX1_isEmptyLineAhead 25 = .ok (.iload_n 2, 1) := by decide +kernel
theorem dX1_isEmptyLineAhead_26 : decode cX1_isEmptyLineAhead 26 = .ok (.invokevirtual 82, 3) := by decide +kernel
theorem dX1_isEmptyLineAhead_29 : decode cX1_isEmptyLineAhead 29 = .ok (.bipush 9, 2) := by decide +kernel
theorem dX1_isEmptyLineAhead_31 : decode cX1_isEmptyLineAhead 31 = .ok (.if_icmp .eq 13, 3) := by decide +kernel
theorem dX1_isEmptyLineAhead_34 : decode cX1_isEmptyLineAhead 34 = .ok (.aload_n 0, 1) := by decide +kernel
theorem dX1_isEmptyLineAhead_35 : decode cX1_isEmptyLineAhead 35 = .ok (.iload_n 2, 1) := by decide +kernel
theorem dX1_isEmptyLineAhead_36 : decode cX1_isEmptyLineAhead 36 = .ok (.invokevirtual 82, 3) := by decide +kernel
theorem dX1_isEmptyLineAhead_39 : decode cX1_isEmptyLineAhead 39 = .ok (.bipush 32, 2) := by decide +kernel
theorem dX1_isEmptyLineAhead_41 : decode cX1_isEmptyLineAhead 41 = .ok (.if_icmp .ne 9, 3) := by decide +kernel
theorem dX1_isEmptyLineAhead_44 : decode cX1_isEmptyLineAhead 44 = .ok (.iinc 2 1, 3) := by decide +kernel
theorem dX1_isEmptyLineAhead_47 : decode cX1_isEmptyLineAhead 47 = .ok (.goto (-31), 3) := by decide +kernel
theorem dX1_isEmptyLineAhead_50 : decode cX1_isEmptyLineAhead 50 = .ok (.aload_n 0, 1) := by decide +kernel
theorem dX1_isEmptyLineAhead_51 : decode cX1_isEmptyLineAhead 51 = .ok (.iload_n 2, 1) := by decide +kernel
theorem dX1_isEmptyLineAhead_52 : decode cX1_isEmptyLineAhead 52 = .ok (.invokevirtual 82, 3) := by decide +kernel
theorem dX1_isEmptyLineAhead_55 : decode cX1_isEmptyLineAhead 55 = .ok (.bipush 10, 2) := by decide +kernel
theorem dX1_isEmptyLineAhead_57 : decode cX1_isEmptyLineAhead 57 = .ok (.if_icmp .ne 7, 3) := by decide +kernel
theorem dX1_isEmptyLineAhead_60 : decode cX1_isEmptyLineAhead 60 = .ok (.iconst 1, 1) := by decide +kernel
theorem dX1_isEmptyLineAhead_61 : decode cX1_isEmptyLineAhead 61 = .ok (.goto 4, 3) := by decide +kernel
theorem dX1_isEmptyLineAhead_64 : decode cX1_isEmptyLineAhead 64 = .ok (.iconst 0, 1) := by decide +kernel
theorem dX1_isEmptyLineAhead_65 : decode cX1_isEmptyLineAhead 65 = .ok (.ireturn, 1) := by decide +kernel
theorem dX1_withoutBlanks_0 : decode cX1_withoutBlanks 0 = .ok (.iload_n 2, 1) := by decide +kernel
theorem dX1_withoutBlanks_1 : decode cX1_withoutBlanks 1 = .ok (.istore_n 3, 1) := by decide +kernel
theorem dX1_withoutBlanks_2 : decode cX1_withoutBlanks 2 = .ok (.iload_n 3, 1) := by decide +kernel
theorem dX1_withoutBlanks_3 : decode cX1_withoutBlanks 3 = .ok (.iload_n 1, 1) := by decide +kernel
theorem dX1_withoutBlanks_4 : decode cX1_withoutBlanks 4 = .ok (.if_icmp .le 22, 3) := by decide +kernel
theorem dX1_withoutBlanks_7 : decode cX1_withoutBlanks 7 = .ok (.aload_n 0, 1) := by decide +kernel
theorem dX1_withoutBlanks_8 : decode cX1_withoutBlanks 8 = .ok (.iload_n 3, 1) := by decide +kernel
theorem dX1_withoutBlanks_9 : decode cX1_withoutBlanks 9 = .ok (.iconst 1, 1) := by decide +kernel
theorem dX1_withoutBlanks_10 : decode cX1_withoutBlanks 10 = .ok (.isub, 1) := by decide +kernel
theorem dX1_withoutBlanks_11 : decode cX1_withoutBlanks 11 = .ok (.invokevirtual 82, 3) := by decide +kernel
theorem dX1_withoutBlanks_14 : decode cX1_withoutBlanks 14 = .ok (.invokestatic 111, 3) := by decide +kernel
theorem dX1_withoutBlanks_17 : decode cX1_withoutBlanks 17 = .ok (.ifCond .eq 9, 3) := by decide +kernel
theorem dX1_withoutBlanks_20 : decode cX1_withoutBlanks 20 = .ok (.iinc 3 (-1), 3) := by decide +kernel
theorem dX1_withoutBlanks_23 : decode cX1_withoutBlanks 23 = .ok (.goto (-21), 3) := by decide +kernel
theorem dX1_withoutBlanks_26 : decode cX1_withoutBlanks 26 = .ok (.iload_n 3, 1) := by decide +kernel
theorem dX1_withoutBlanks_27 : decode cX1_withoutBlanks 27 = .ok (.ireturn, 1) := by decide +kernel
theorem dX1_endOfSentence_0 : decode cX1_endOfSentence 0 = .ok (.iload_n 1, 1) := by decide +kernel
theorem dX1_endOfSentence_1 : decode cX1_endOfSentence 1 = .ok (.istore_n 2, 1) := by decide +kernel
theorem dX1_endOfSentence_2 : decode cX1_endOfSentence 2 = .ok (.iload_n 2, 1) := by decide +kernel
theorem dX1_endOfSentence_3 : decode cX1_endOfSentence 3 = .ok (.aload_n 0, 1) := by decide +kernel
theorem dX1_endOfSentence_4 : decode cX1_endOfSentence 4 = .ok (.getfield 62, 3) := by decide +kernel
theorem dX1_endOfSentence_7 : decode cX1_endOfSentence 7 = .ok (.if_icmp .ge 37, 3) := by decide +kernel
theorem dX1_endOfSentence_10 : decode cX1_endOfSentence 10 = .ok (.aload_n 0, 1) := by decide +kernel
theorem dX1_endOfSentence_11 : decode cX1_endOfSentence 11 = .ok (.iload_n 2, 1) := by decide +kernel
theorem dX1_endOfSentence_12 : decode cX1_endOfSentence 12 = .ok (.invokevirtual 114, 3) := by decide +kernel
theorem dX1_endOfSentence_15 : decode cX1_endOfSentence 15 = .ok (.istore_n 3, 1) := by decide +kernel
theorem dX1_endOfSentence_16 : decode cX1_endOfSentence 16 = .ok (.iload_n 3, 1) := by decide +kernel
theorem dX1_endOfSentence_17 : decode cX1_endOfSentence 17 = .ok (.iconst (-1), 1) := by decide +kernel
theorem dX1_endOfSentence_18 : decode cX1_endOfSentence 18 = .ok (.if_icmp .eq 5, 3) := by decide +kernel
theorem dX1_endOfSentence_21 : decode cX1_endOfSentence 21 = .ok (.iload_n 3, 1) := by decide +kernel
theorem dX1_endOfSentence_22 : decode cX1_endOfSentence 22 = .ok (.ireturn, 1) := by decide +kernel
theorem dX1_endOfSentence_23 : decode cX1_endOfSentence 23 = .ok (.aload_n 0, 1) := by decide +kernel
theorem dX1_endOfSentence_24 : decode cX1_endOfSentence 24 = .ok (.iload_n 2, 1) := by decide +kernel
theorem dX1_endOfSentence_25 : decode cX1_endOfSentence 25 = .ok (.invokevirtual 117, 3) := by decide +kernel
theorem dX1_endOfSentence_28 : decode cX1_endOfSentence 28 = .ok (.ifCond .eq 10, 3) := by decide +kernel
theorem dX1_endOfSentence_31 : decode cX1_endOfSentence 31 = .ok (.aload_n 0, 1) := by decide +kernel
theorem dX1_endOfSentence_32 : decode cX1_endOfSentence 32 = .ok (.iload_n 1, 1) := by decide +kernel
theorem dX1_endOfSentence_33 : decode cX1_endOfSentence 33 = .ok (.iload_n 2, 1) := by decide +kernel
theorem dX1_endOfSentence_34 : decode cX1_endOfSentence 34 = .ok (.invokevirtual 120, 3) := by decide +kernel
theorem dX1_endOfSentence_37 : decode cX1_endOfSentence 37 = .ok (.ireturn, 1) := by decide +kernel
theorem dX1_endOfSentence_38 : decode cX1_endOfSentence 38 = .ok (.iinc 2 1, 3) := by decide +kernel
theorem dX1_endOfSentence_41 : decode cX1_endOfSentence 41 = .ok (.goto (-39), 3) := by decide +kernel
theorem dX1_endOfSentence_44 : decode cX1_endOfSentence 44 = .ok (.aload_n 0, 1) := by decide +kernel
theorem dX1_endOfSentence_45 : decode cX1_endOfSentence 45 = .ok (.iload_n 1, 1) := by decide +kernel
theorem dX1_endOfSentence_46 : decode cX1_endOfSentence 46 = .ok (.aload_n 0, 1) := by decide +kernel
theorem dX1_endOfSentence_47 : decode cX1_endOfSentence 47 = .ok (.getfield 62, 3) := by decide +kernel
theorem dX1_endOfSentence_50 : decode cX1_endOfSentence 50 = .ok (.invokevirtual 120, 3) := by decide +kernel
theorem dX1_endOfSentence_53 : decode cX1_endOfSentence 53 = .ok (.ireturn, 1) := by decide +kernel
theorem dX1_findSentences_0 : decode cX1_findSentences 0 = .ok (.aload_n 0, 1) := by decide +kernel
theorem dX1_findSentences_1 : decode cX1_findSentences 1 = .ok (.iconst 0, 1) := by decide +kernel
theorem dX1_findSentences_2 : decode cX1_findSentences 2 = .ok (.putfield 102, 3) := by decide +kernel
theorem dX1_findSentences_5 : decode cX1_findSentences 5 = .ok (.iconst 0, 1) := by decide +kernel
theorem dX1_findSentences_6 : decode cX1_findSentences 6 = .ok (.istore_n 1, 1) := by decide +kernel
theorem dX1_findSentences_7 : decode cX1_findSentences 7 = .ok (.iconst 0, 1) := by decide +kernel
theorem dX1_findSentences_8 : decode cX1_findSentences 8 = .ok (.istore_n 2, 1) := by decide +kernel
theorem dX1_findSentences_9 : decode cX1_findSentences 9 = .ok (.iload_n 2, 1) := by decide +kernel
theorem dX1_findSentences_10 : decode cX1_findSentences 10 = .ok (.bipush 14, 2) := by decide +kernel
theorem dX1_findSentences_12 : decode cX1_findSentences 12 = .ok (.if_icmp .ge 75, 3) := by decide +kernel
theorem dX1_findSentences_15 : decode cX1_findSentences 15 = .ok (.aload_n 0, 1) := by decide +kernel
theorem dX1_findSentences_16 : decode cX1_findSentences 16 = .ok (.iload_n 1, 1) := by decide +kernel
theorem dX1_findSentences_17 : decode cX1_findSentences 17 = .ok (.invokevirtual 105, 3) := by decide +kernel
theorem dX1_findSentences_20 : decode cX1_findSentences 20 = .ok (.istore_n 3, 1) := by decide +kernel
theorem dX1_findSentences_21 : decode cX1_findSentences 21 = .ok (.iload_n 3, 1) := by decide +kernel
theorem dX1_findSentences_22 : decode cX1_findSentences 22 = .ok (.aload_n 0, 1) := by decide +kernel
theorem dX1_findSentences_23 : decode cX1_findSentences 23 = .ok (.getfield 62, 3) := by decide +kernel
theorem dX1_findSentences_26 : decode cX1_findSentences 26 = .ok (.if_icmp .ne 6, 3) := by decide +kernel
theorem dX1_findSentences_29 : decode cX1_findSentences 29 = .ok (.goto 58, 3) := by decide +kernel
theorem dX1_findSentences_32 : decode cX1_findSentences 32 = .ok (.aload_n 0, 1) := by decide +kernel
theorem dX1_findSentences_33 : decode cX1_findSentences 33 = .ok (.iload_n 3, 1) := by decide +kernel
theorem dX1_findSentences_34 : decode cX1_findSentences 34 = .ok (.invokevirtual 108, 3) := by decide +kernel
theorem dX1_findSentences_37 : decode cX1_findSentences 37 = .ok (.istore_n 1, 1) := by decide +kernel
theorem dX1_findSentences_38 : decode cX1_findSentences 38 = .ok (.aload_n 0, 1) := by decide +kernel
theorem dX1_findSentences_39 : decode cX1_findSentences 39 = .ok (.getfield 34, 3) := by decide +kernel
theorem dX1_findSentences_42 : decode cX1_findSentences 42 = .ok (.iload_n 2, 1) := by decide +kernel
theorem dX1_findSentences_43 : decode cX1_findSentences 43 = .ok (.iload_n 3, 1) := by decide +kernel
theorem dX1_findSentences_44 : decode cX1_findSentences 44 = .ok (.iastore, 1) := by decide +kernel
theorem dX1_findSentences_45 : decode cX1_findSentences 45 = .ok (.aload_n 0, 1) := by decide +kernel
theorem dX1_findSentences_46 : decode cX1_findSentences 46 = .ok (.getfield 37, 3) := by decide +kernel
theorem dX1_findSentences_49 : decode cX1_findSentences 49 = .ok (.iload_n 2, 1) := by decide +kernel
theorem dX1_findSentences_50 : decode cX1_findSentences 50 = .ok (.iload_n 1, 1) := by decide +kernel
theorem dX1_findSentences_51 : decode cX1_findSentences 51 = .ok (.iastore, 1) := by decide +kernel
theorem dX1_findSentences_52 : decode cX1_findSentences 52 = .ok (.aload_n 0, 1) := by decide +kernel
theorem dX1_findSentences_53 : decode cX1_findSentences 53 = .ok (.getfield 40, 3) := by decide +kernel
theorem dX1_findSentences_56 : decode cX1_findSentences 56 = .ok (.iload_n 2, 1) := by decide +kernel
theorem dX1_findSentences_57 : decode cX1_findSentences 57 = .ok (.aload_n 0, 1) := by decide +kernel
theorem dX1_findSentences_58 : decode cX1_findSentences 58 = .ok (.getfield 19, 3) := by decide +kernel
theorem dX1_findSentences_61 : decode cX1_findSentences 61 = .ok (.iload_n 1, 1) := by decide +kernel
theorem dX1_findSentences_62 : decode cX1_findSentences 62 = .ok (.iaload, 1) := by decide +kernel
theorem dX1_findSentences_63 : decode cX1_findSentences 63 = .ok (.aload_n 0, 1) := by decide +kernel
theorem dX1_findSentences_64 : decode cX1_findSentences 64 = .ok (.getfield 19, 3) := by decide +kernel
theorem dX1_findSentences_67 : decode cX1_findSentences 67 = .ok (.iload_n 3, 1) := by decide +kernel
theorem dX1_findSentences_68 : decode cX1_findSentences 68 = .ok (.iaload, 1) := by decide +kernel
theorem dX1_findSentences_69 : decode cX1_findSentences 69 = .ok (.isub, 1) := by decide +kernel
theorem dX1_findSentences_70 : decode cX1_findSentences 70 = .ok (.iastore, 1) := by decide +kernel
theorem dX1_findSentences_71 : decode cX1_findSentences 71 = .ok (.aload_n 0, 1) := by decide +kernel
theorem dX1_findSentences_72 : decode cX1_findSentences 72 = .ok (.dup, 1) := by decide +kernel
theorem dX1_findSentences_73 : decode cX1_findSentences 73 = .ok (.getfield 102, 3) := by decide +kernel
theorem dX1_findSentences_76 : decode cX1_findSentences 76 = .ok (.iconst 1, 1) := by decide +kernel
theorem dX1_findSentences_77 : decode cX1_findSentences 77 = .ok (.iadd, 1) := by decide +kernel
theorem dX1_findSentences_78 : decode cX1_findSentences 78 = .ok (.putfield 102, 3) := by decide +kernel
theorem dX1_findSentences_81 : decode cX1_findSentences 81 = .ok (.iinc 2 1, 3) := by decide +kernel
theorem dX1_findSentences_84 : decode cX1_findSentences 84 = .ok (.goto (-75), 3) := by decide +kernel
theorem dX1_findSentences_87 : decode cX1_findSentences 87 = .ok (.return_, 1) := by decide +kernel
theorem dX1_findWords_0 : decode cX1_findWords 0 = .ok (.aload_n 0, 1) := by decide +kernel
theorem dX1_findWords_1 : decode cX1_findWords 1 = .ok (.iconst 0, 1) := by decide +kernel
theorem dX1_findWords_2 : decode cX1_findWords 2 = .ok (.putfield 96, 3) := by decide +kernel
theorem dX1_findWords_5 : decode cX1_findWords 5 = .ok (.iconst 0, 1) := by decide +kernel
theorem dX1_findWords_6 : decode cX1_findWords 6 = .ok (.istore_n 1, 1) := by decide +kernel
theorem dX1_findWords_7 : decode cX1_findWords 7 = .ok (.iload_n 1, 1) := by decide +kernel
theorem dX1_findWords_8 : decode cX1_findWords 8 = .ok (.aload_n 0, 1) := by decide +kernel
theorem dX1_findWords_9 : decode cX1_findWords 9 = .ok (.getfield 62, 3) := by decide +kernel
theorem dX1_findWords_12 : decode cX1_findWords 12 = .ok (.if_icmp .ge 86, 3) := by decide +kernel
theorem dX1_findWords_15 : decode cX1_findWords 15 = .ok (.aload_n 0, 1) := by decide +kernel
theorem dX1_findWords_16 : decode cX1_findWords 16 = .ok (.getfield 96, 3) := by decide +kernel
theorem dX1_findWords_19 : decode cX1_findWords 19 = .ok (.bipush 100, 2) := by decide +kernel
theorem dX1_findWords_21 : decode cX1_findWords 21 = .ok (.if_icmp .ge 77, 3) := by decide +kernel
theorem dX1_findWords_24 : decode cX1_findWords 24 = .ok (.aload_n 0, 1) := by decide +kernel
theorem dX1_findWords_25 : decode cX1_findWords 25 = .ok (.iload_n 1, 1) := by decide +kernel
theorem dX1_findWords_26 : decode cX1_findWords 26 = .ok (.invokevirtual 99, 3) := by decide +kernel
theorem dX1_findWords_29 : decode cX1_findWords 29 = .ok (.ifCond .eq 23, 3) := by decide +kernel
theorem dX1_findWords_32 : decode cX1_findWords 32 = .ok (.aload_n 0, 1) := by decide +kernel
theorem dX1_findWords_33 : decode cX1_findWords 33 = .ok (.iload_n 1, 1) := by decide +kernel
theorem dX1_findWords_34 : decode cX1_findWords 34 = .ok (.iconst 1, 1) := by decide +kernel
theorem dX1_findWords_35 : decode cX1_findWords 35 = .ok (.isub, 1) := by decide +kernel
theorem dX1_findWords_36 : decode cX1_findWords 36 = .ok (.invokevirtual 99, 3) := by decide +kernel
theorem dX1_findWords_39 : decode cX1_findWords 39 = .ok (.ifCond .ne 13, 3) := by decide +kernel
theorem dX1_findWords_42 : decode cX1_findWords 42 = .ok (.aload_n 0, 1) := by decide +kernel
theorem dX1_findWords_43 : decode cX1_findWords 43 = .ok (.getfield 22, 3) := by decide +kernel
theorem dX1_findWords_46 : decode cX1_findWords 46 = .ok (.aload_n 0, 1) := by decide +kernel
theorem dX1_findWords_47 : decode cX1_findWords 47 = .ok (.getfield 96, 3) := by decide +kernel
theorem dX1_findWords_50 : decode cX1_findWords 50 = .ok (.iload_n 1, 1) := by decide +kernel
theorem dX1_findWords_51 : decode cX1_findWords 51 = .ok (.iastore, 1) := by decide +kernel
theorem dX1_findWords_52 : decode cX1_findWords 52 = .ok (.aload_n 0, 1) := by decide +kernel
theorem dX1_findWords_53 : decode cX1_findWords 53 = .ok (.iload_n 1, 1) := by decide +kernel
theorem dX1_findWords_54 : decode cX1_findWords 54 = .ok (.invokevirtual 99, 3) := by decide +kernel
theorem dX1_findWords_57 : decode cX1_findWords 57 = .ok (.ifCond .eq 35, 3) := by decide +kernel
theorem dX1_findWords_60 : decode cX1_findWords 60 = .ok (.aload_n 0, 1) := by decide +kernel
theorem dX1_findWords_61 : decode cX1_findWords 61 = .ok (.iload_n 1, 1) := by decide +kernel
theorem dX1_findWords_62 : decode cX1_findWords 62 = .ok (.iconst 1, 1) := by decide +kernel
theorem dX1_findWords_63 : decode cX1_findWords 63 = .ok (.iadd, 1) := by decide +kernel
theorem dX1_findWords_64 : decode cX1_findWords 64 = .ok (.invokevirtual 99, 3) := by decide +kernel
theorem dX1_findWords_67 : decode cX1_findWords 67 = .ok (.ifCond .ne 25, 3) := by decide +kernel
theorem dX1_findWords_70 : decode cX1_findWords 70 = .ok (.aload_n 0, 1) := by decide +kernel
theorem dX1_findWords_71 : decode cX1_findWords 71 = .ok (.getfield 25, 3) := by decide +kernel
theorem dX1_findWords_74 : decode cX1_findWords 74 = .ok (.aload_n 0, 1) := by decide +kernel
theorem dX1_findWords_75 : decode cX1_findWords 75 = .ok (.getfield 96, 3) := by decide +kernel
theorem dX1_findWords_78 : decode cX1_findWords 78 = .ok (.iload_n 1, 1) := by decide +kernel
theorem dX1_findWords_79 : decode cX1_findWords 79 = .ok (.iconst 1, 1) := by decide +kernel
theorem dX1_findWords_80 : decode cX1_findWords 80 = .ok (.iadd, 1) := by decide +kernel
theorem dX1_findWords_81 : decode cX1_findWords 81 = .ok (.iastore, 1) := by decide +kernel
theorem dX1_findWords_82 : decode cX1_findWords 82 = .ok (.aload_n 0, 1) := by decide +kernel
theorem dX1_findWords_83 : decode cX1_findWords 83 = .ok (.dup, 1) := by decide +kernel
theorem dX1_findWords_84 : decode cX1_findWords 84 = .ok (.getfield 96, 3) := by decide +kernel
theorem dX1_findWords_87 : decode cX1_findWords 87 = .ok (.iconst 1, 1) := by decide +kernel
theorem dX1_findWords_88 : decode cX1_findWords 88 = .ok (.iadd, 1) := by decide +kernel
theorem dX1_findWords_89 : decode cX1_findWords 89 = .ok (.putfield 96, 3) := by decide +kernel
theorem dX1_findWords_92 : decode cX1_findWords 92 = .ok (.iinc 1 1, 3) := by decide +kernel
theorem dX1_findWords_95 : decode cX1_findWords 95 = .ok (.goto (-88), 3) := by decide +kernel
theorem dX1_findWords_98 : decode cX1_findWords 98 = .ok (.return_, 1) := by decide +kernel
theorem dX1_areAlike_0 : decode cX1_areAlike 0 = .ok (.aload_n 0, 1) := by decide +kernel
theorem dX1_areAlike_1 : decode cX1_areAlike 1 = .ok (.getfield 25, 3) := by decide +kernel
theorem dX1_areAlike_4 : decode cX1_areAlike 4 = .ok (.iload_n 1, 1) := by decide +kernel
theorem dX1_areAlike_5 : decode cX1_areAlike 5 = .ok (.iaload, 1) := by decide +kernel
theorem dX1_areAlike_6 : decode cX1_areAlike 6 = .ok (.aload_n 0, 1) := by decide +kernel
theorem dX1_areAlike_7 : decode cX1_areAlike 7 = .ok (.getfield 22, 3) := by decide +kernel
theorem dX1_areAlike_10 : decode cX1_areAlike 10 = .ok (.iload_n 1, 1) := by decide +kernel
theorem dX1_areAlike_11 : decode cX1_areAlike 11 = .ok (.iaload, 1) := by decide +kernel
theorem dX1_areAlike_12 : decode cX1_areAlike 12 = .ok (.isub, 1) := by decide +kernel
theorem dX1_areAlike_13 : decode cX1_areAlike 13 = .ok (.istore_n 3, 1) := by decide +kernel
theorem dX1_areAlike_14 : decode cX1_areAlike 14 = .ok (.aload_n 0, 1) := by decide +kernel
theorem dX1_areAlike_15 : decode cX1_areAlike 15 = .ok (.getfield 25, 3) := by decide +kernel
theorem dX1_areAlike_18 : decode cX1_areAlike 18 = .ok (.iload_n 2, 1) := by decide +kernel
theorem dX1_areAlike_19 : decode cX1_areAlike 19 = .ok (.iaload, 1) := by decide +kernel
theorem dX1_areAlike_20 : decode cX1_areAlike 20 = .ok (.aload_n 0, 1) := by decide +kernel
theorem dX1_areAlike_21 : decode cX1_areAlike 21 = .ok (.getfield 22, 3) := by decide +kernel
theorem dX1_areAlike_24 : decode cX1_areAlike 24 = .ok (.iload_n 2, 1) := by decide +kernel
theorem dX1_areAlike_25 : decode cX1_areAlike 25 = .ok (.iaload, 1) := by decide +kernel
theorem dX1_areAlike_26 : decode cX1_areAlike 26 = .ok (.isub, 1) := by decide +kernel
theorem dX1_areAlike_27 : decode cX1_areAlike 27 = .ok (.iload_n 3, 1) := by decide +kernel
theorem dX1_areAlike_28 : decode cX1_areAlike 28 = .ok (.if_icmp .eq 5, 3) := by decide +kernel
theorem dX1_areAlike_31 : decode cX1_areAlike 31 = .ok (.iconst 0, 1) := by decide +kernel
theorem dX1_areAlike_32 : decode cX1_areAlike 32 = .ok (.ireturn, 1) := by decide +kernel
theorem dX1_areAlike_33 : decode cX1_areAlike 33 = .ok (.iconst 0, 1) := by decide +kernel
theorem dX1_areAlike_34 : decode cX1_areAlike 34 = .ok (.istore 4, 2) := by decide +kernel
theorem dX1_areAlike_36 : decode cX1_areAlike 36 = .ok (.iload 4, 2) := by decide +kernel
theorem dX1_areAlike_38 : decode cX1_areAlike 38 = .ok (.iload_n 3, 1) := by decide +kernel
theorem dX1_areAlike_39 : decode cX1_areAlike 39 = .ok (.if_icmp .ge 46, 3) := by decide +kernel
theorem dX1_areAlike_42 : decode cX1_areAlike 42 = .ok (.aload_n 0, 1) := by decide +kernel
theorem dX1_areAlike_43 : decode cX1_areAlike 43 = .ok (.aload_n 0, 1) := by decide +kernel
theorem dX1_areAlike_44 : decode cX1_areAlike 44 = .ok (.getfield 22, 3) := by decide +kernel
theorem dX1_areAlike_47 : decode cX1_areAlike 47 = .ok (.iload_n 1, 1) := by decide +kernel
theorem dX1_areAlike_48 : decode cX1_areAlike 48 = .ok (.iaload, 1) := by decide +kernel
theorem dX1_areAlike_49 : decode cX1_areAlike 49 = .ok (.iload 4, 2) := by decide +kernel
theorem dX1_areAlike_51 : decode cX1_areAlike 51 = .ok (.iadd, 1) := by decide +kernel
theorem dX1_areAlike_52 : decode cX1_areAlike 52 = .ok (.invokevirtual 82, 3) := by decide +kernel
theorem dX1_areAlike_55 : decode cX1_areAlike 55 = .ok (.invokestatic 90, 3) := by decide +kernel
theorem dX1_areAlike_58 : decode cX1_areAlike 58 = .ok (.aload_n 0, 1) := by decide +kernel
theorem dX1_areAlike_59 : decode cX1_areAlike 59 = .ok (.aload_n 0, 1) := by decide +kernel
theorem dX1_areAlike_60 : decode cX1_areAlike 60 = .ok (.getfield 22, 3) := by decide +kernel
theorem dX1_areAlike_63 : decode cX1_areAlike 63 = .ok (.iload_n 2, 1) := by decide +kernel
theorem dX1_areAlike_64 : decode cX1_areAlike 64 = .ok (.iaload, 1) := by decide +kernel
theorem dX1_areAlike_65 : decode cX1_areAlike 65 = .ok (.iload 4, 2) := by decide +kernel
theorem dX1_areAlike_67 : decode cX1_areAlike 67 = .ok (.iadd, 1) := by decide +kernel
theorem dX1_areAlike_68 : decode cX1_areAlike 68 = .ok (.invokevirtual 82, 3) := by decide +kernel
theorem dX1_areAlike_71 : decode cX1_areAlike 71 = .ok (.invokestatic 90, 3) := by decide +kernel
theorem dX1_areAlike_74 : decode cX1_areAlike 74 = .ok (.if_icmp .eq 5, 3) := by decide +kernel
theorem dX1_areAlike_77 : decode cX1_areAlike 77 = .ok (.iconst 0, 1) := by decide +kernel
theorem dX1_areAlike_78 : decode cX1_areAlike 78 = .ok (.ireturn, 1) := by decide +kernel
theorem dX1_areAlike_79 : decode cX1_areAlike 79 = .ok (.iinc 4 1, 3) := by decide +kernel
theorem dX1_areAlike_82 : decode cX1_areAlike 82 = .ok (.goto (-46), 3) := by decide +kernel
theorem dX1_areAlike_85 : decode cX1_areAlike 85 = .ok (.iconst 1, 1) := by decide +kernel
theorem dX1_areAlike_86 : decode cX1_areAlike 86 = .ok (.ireturn, 1) := by decide +kernel
theorem dX1_findAlike_0 : decode cX1_findAlike 0 = .ok (.iconst 0, 1) := by decide +kernel
theorem dX1_findAlike_1 : decode cX1_findAlike 1 = .ok (.istore_n 1, 1) := by decide +kernel
theorem dX1_findAlike_2 : decode cX1_findAlike 2 = .ok (.iload_n 1, 1) := by decide +kernel
theorem dX1_findAlike_3 : decode cX1_findAlike 3 = .ok (.aload_n 0, 1) := by decide +kernel
theorem dX1_findAlike_4 : decode cX1_findAlike 4 = .ok (.getfield 96, 3) := by decide +kernel
theorem dX1_findAlike_7 : decode cX1_findAlike 7 = .ok (.if_icmp .ge 48, 3) := by decide +kernel
theorem dX1_findAlike_10 : decode cX1_findAlike 10 = .ok (.aload_n 0, 1) := by decide +kernel
theorem dX1_findAlike_11 : decode cX1_findAlike 11 = .ok (.getfield 31, 3) := by decide +kernel
theorem dX1_findAlike_14 : decode cX1_findAlike 14 = .ok (.iload_n 1, 1) := by decide +kernel
theorem dX1_findAlike_15 : decode cX1_findAlike 15 = .ok (.iload_n 1, 1) := by decide +kernel
theorem dX1_findAlike_16 : decode cX1_findAlike 16 = .ok (.iastore, 1) := by decide +kernel
theorem dX1_findAlike_17 : decode cX1_findAlike 17 = .ok (.iconst 0, 1) := by decide +kernel
theorem dX1_findAlike_18 : decode cX1_findAlike 18 = .ok (.istore_n 2, 1) := by decide +kernel
theorem dX1_findAlike_19 : decode cX1_findAlike 19 = .ok (.iload_n 2, 1) := by decide +kernel
theorem dX1_findAlike_20 : decode cX1_findAlike 20 = .ok (.iload_n 1, 1) := by decide +kernel
theorem dX1_findAlike_21 : decode cX1_findAlike 21 = .ok (.if_icmp .ge 28, 3) := by decide +kernel
theorem dX1_findAlike_24 : decode cX1_findAlike 24 = .ok (.aload_n 0, 1) := by decide +kernel
theorem dX1_findAlike_25 : decode cX1_findAlike 25 = .ok (.iload_n 2, 1) := by decide +kernel
theorem dX1_findAlike_26 : decode cX1_findAlike 26 = .ok (.iload_n 1, 1) := by decide +kernel
theorem dX1_findAlike_27 : decode cX1_findAlike 27 = .ok (.invokevirtual 133, 3) := by decide +kernel
theorem dX1_findAlike_30 : decode cX1_findAlike 30 = .ok (.ifCond .eq 13, 3) := by decide +kernel
theorem dX1_findAlike_33 : decode cX1_findAlike 33 = .ok (.aload_n 0, 1) := by decide +kernel
theorem dX1_findAlike_34 : decode cX1_findAlike 34 = .ok (.getfield 31, 3) := by decide +kernel
theorem dX1_findAlike_37 : decode cX1_findAlike 37 = .ok (.iload_n 1, 1) := by decide +kernel
theorem dX1_findAlike_38 : decode cX1_findAlike 38 = .ok (.iload_n 2, 1) := by decide +kernel
theorem dX1_findAlike_39 : decode cX1_findAlike 39 = .ok (.iastore, 1) := by decide +kernel
theorem dX1_findAlike_40 : decode cX1_findAlike 40 = .ok (.goto 9, 3) := by decide +kernel
theorem dX1_findAlike_43 : decode cX1_findAlike 43 = .ok (.iinc 2 1, 3) := by decide +kernel
theorem dX1_findAlike_46 : decode cX1_findAlike 46 = .ok (.goto (-27), 3) := by decide +kernel
theorem dX1_findAlike_49 : decode cX1_findAlike 49 = .ok (.iinc 1 1, 3) := by decide +kernel
theorem dX1_findAlike_52 : decode cX1_findAlike 52 = .ok (.goto (-50), 3) := by decide +kernel
theorem dX1_findAlike_55 : decode cX1_findAlike 55 = .ok (.return_, 1) := by decide +kernel
theorem dX1_addToSentence_0 : decode cX1_addToSentence 0 = .ok (.aload_n 0, 1) := by decide +kernel
theorem dX1_addToSentence_1 : decode cX1_addToSentence 1 = .ok (.getfield 46, 3) := by decide +kernel
theorem dX1_addToSentence_4 : decode cX1_addToSentence 4 = .ok (.iload_n 2, 1) := by decide +kernel
theorem dX1_addToSentence_5 : decode cX1_addToSentence 5 = .ok (.iaload, 1) := by decide +kernel
theorem dX1_addToSentence_6 : decode cX1_addToSentence 6 = .ok (.ifCond .ne 10, 3) := by decide +kernel
theorem dX1_addToSentence_9 : decode cX1_addToSentence 9 = .ok (.aload_n 0, 1) := by decide +kernel
theorem dX1_addToSentence_10 : decode cX1_addToSentence 10 = .ok (.getfield 43, 3) := by decide +kernel
theorem dX1_addToSentence_13 : decode cX1_addToSentence 13 = .ok (.iload_n 2, 1) := by decide +kernel
theorem dX1_addToSentence_14 : decode cX1_addToSentence 14 = .ok (.iload_n 1, 1) := by decide +kernel
theorem dX1_addToSentence_15 : decode cX1_addToSentence 15 = .ok (.iastore, 1) := by decide +kernel
theorem dX1_addToSentence_16 : decode cX1_addToSentence 16 = .ok (.aload_n 0, 1) := by decide +kernel
theorem dX1_addToSentence_17 : decode cX1_addToSentence 17 = .ok (.getfield 46, 3) := by decide +kernel
theorem dX1_addToSentence_20 : decode cX1_addToSentence 20 = .ok (.iload_n 2, 1) := by decide +kernel
theorem dX1_addToSentence_21 : decode cX1_addToSentence 21 = .ok (.dup2, 1) := by decide +kernel
theorem dX1_addToSentence_22 : decode cX1_addToSentence 22 = .ok (.iaload, 1) := by decide +kernel
theorem dX1_addToSentence_23 : decode cX1_addToSentence 23 = .ok (.iconst 1, 1) := by decide +kernel
theorem dX1_addToSentence_24 : decode cX1_addToSentence 24 = .ok (.iadd, 1) := by decide +kernel
theorem dX1_addToSentence_25 : decode cX1_addToSentence 25 = .ok (.iastore, 1) := by decide +kernel
theorem dX1_addToSentence_26 : decode cX1_addToSentence 26 = .ok (.aload_n 0, 1) := by decide +kernel
theorem dX1_addToSentence_27 : decode cX1_addToSentence 27 = .ok (.getfield 31, 3) := by decide +kernel
theorem dX1_addToSentence_30 : decode cX1_addToSentence 30 = .ok (.iload_n 1, 1) := by decide +kernel
theorem dX1_addToSentence_31 : decode cX1_addToSentence 31 = .ok (.iaload, 1) := by decide +kernel
theorem dX1_addToSentence_32 : decode cX1_addToSentence 32 = .ok (.istore_n 3, 1) := by decide +kernel
theorem dX1_addToSentence_33 : decode cX1_addToSentence 33 = .ok (.iload_n 3, 1) := by decide +kernel
theorem dX1_addToSentence_34 : decode cX1_addToSentence 34 = .ok (.bipush 64, 2) := by decide +kernel
theorem dX1_addToSentence_36 : decode cX1_addToSentence 36 = .ok (.if_icmp .ge 18, 3) := by decide +kernel
theorem dX1_addToSentence_39 : decode cX1_addToSentence 39 = .ok (.aload_n 0, 1) := by decide +kernel
theorem dX1_addToSentence_40 : decode cX1_addToSentence 40 = .ok (.getfield 49, 3) := by decide +kernel
theorem dX1_addToSentence_43 : decode cX1_addToSentence 43 = .ok (.iload_n 2, 1) := by decide +kernel
theorem dX1_addToSentence_44 : decode cX1_addToSentence 44 = .ok (.dup2, 1) := by decide +kernel
theorem dX1_addToSentence_45 : decode cX1_addToSentence 45 = .ok (.laload, 1) := by decide +kernel
theorem dX1_addToSentence_46 : decode cX1_addToSentence 46 = .ok (.lconst 1, 1) := by decide +kernel
theorem dX1_addToSentence_47 : decode cX1_addToSentence 47 = .ok (.iload_n 3, 1) := by decide +kernel
theorem dX1_addToSentence_48 : decode cX1_addToSentence 48 = .ok (.lshl, 1) := by decide +kernel
theorem dX1_addToSentence_49 : decode cX1_addToSentence 49 = .ok (.lor, 1) := by decide +kernel
theorem dX1_addToSentence_50 : decode cX1_addToSentence 50 = .ok (.lastore, 1) := by decide +kernel
theorem dX1_addToSentence_51 : decode cX1_addToSentence 51 = .ok (.goto 18, 3) := by decide +kernel
theorem dX1_addToSentence_54 : decode cX1_addToSentence 54 = .ok (.aload_n 0, 1) := by decide +kernel
theorem dX1_addToSentence_55 : decode cX1_addToSentence 55 = .ok (.getfield 53, 3) := by decide +kernel
theorem dX1_addToSentence_58 : decode cX1_addToSentence 58 = .ok (.iload_n 2, 1) := by decide +kernel
theorem dX1_addToSentence_59 : decode cX1_addToSentence 59 = .ok (.dup2, 1) := by decide +kernel
theorem dX1_addToSentence_60 : decode cX1_addToSentence 60 = .ok (.laload, 1) := by decide +kernel
theorem dX1_addToSentence_61 : decode cX1_addToSentence 61 = .ok (.lconst 1, 1) := by decide +kernel
theorem dX1_addToSentence_62 : decode cX1_addToSentence 62 = .ok (.iload_n 3, 1) := by decide +kernel
theorem dX1_addToSentence_63 : decode cX1_addToSentence 63 = .ok (.bipush 64, 2) := by decide +kernel
theorem dX1_addToSentence_65 : decode cX1_addToSentence 65 = .ok (.isub, 1) := by decide +kernel
theorem dX1_addToSentence_66 : decode cX1_addToSentence 66 = .ok (.lshl, 1) := by decide +kernel
theorem dX1_addToSentence_67 : decode cX1_addToSentence 67 = .ok (.lor, 1) := by decide +kernel
theorem dX1_addToSentence_68 : decode cX1_addToSentence 68 = .ok (.lastore, 1) := by decide +kernel
theorem dX1_addToSentence_69 : decode cX1_addToSentence 69 = .ok (.return_, 1) := by decide +kernel
theorem dX1_placeWords_0 : decode cX1_placeWords 0 = .ok (.iconst 0, 1) := by decide +kernel
theorem dX1_placeWords_1 : decode cX1_placeWords 1 = .ok (.istore_n 1, 1) := by decide +kernel
theorem dX1_placeWords_2 : decode cX1_placeWords 2 = .ok (.iload_n 1, 1) := by decide +kernel
theorem dX1_placeWords_3 : decode cX1_placeWords 3 = .ok (.aload_n 0, 1) := by decide +kernel
theorem dX1_placeWords_4 : decode cX1_placeWords 4 = .ok (.getfield 102, 3) := by decide +kernel
theorem dX1_placeWords_7 : decode cX1_placeWords 7 = .ok (.if_icmp .ge 37, 3) := by decide +kernel
theorem dX1_placeWords_10 : decode cX1_placeWords 10 = .ok (.aload_n 0, 1) := by decide +kernel
theorem dX1_placeWords_11 : decode cX1_placeWords 11 = .ok (.getfield 43, 3) := by decide +kernel
theorem dX1_placeWords_14 : decode cX1_placeWords 14 = .ok (.iload_n 1, 1) := by decide +kernel
theorem dX1_placeWords_15 : decode cX1_placeWords 15 = .ok (.iconst (-1), 1) := by decide +kernel
theorem dX1_placeWords_16 : decode cX1_placeWords 16 = .ok (.iastore, 1) := by decide +kernel
theorem dX1_placeWords_17 : decode cX1_placeWords 17 = .ok (.aload_n 0, 1) := by decide +kernel
theorem dX1_placeWords_18 : decode cX1_placeWords 18 = .ok (.getfield 46, 3) := by decide +kernel
theorem dX1_placeWords_21 : decode cX1_placeWords 21 = .ok (.iload_n 1, 1) := by decide +kernel
theorem dX1_placeWords_22 : decode cX1_placeWords 22 = .ok (.iconst 0, 1) := by decide +kernel
theorem dX1_placeWords_23 : decode cX1_placeWords 23 = .ok (.iastore, 1) := by decide +kernel
theorem dX1_placeWords_24 : decode cX1_placeWords 24 = .ok (.aload_n 0, 1) := by decide +kernel
theorem dX1_placeWords_25 : decode cX1_placeWords 25 = .ok (.getfield 49, 3) := by decide +kernel
theorem dX1_placeWords_28 : decode cX1_placeWords 28 = .ok (.iload_n 1, 1) := by decide +kernel
theorem dX1_placeWords_29 : decode cX1_placeWords 29 = .ok (.lconst 0, 1) := by decide +kernel
theorem dX1_placeWords_30 : decode cX1_placeWords 30 = .ok (.lastore, 1) := by decide +kernel
theorem dX1_placeWords_31 : decode cX1_placeWords 31 = .ok (.aload_n 0, 1) := by decide +kernel
theorem dX1_placeWords_32 : decode cX1_placeWords 32 = .ok (.getfield 53, 3) := by decide +kernel
theorem dX1_placeWords_35 : decode cX1_placeWords 35 = .ok (.iload_n 1, 1) := by decide +kernel
theorem dX1_placeWords_36 : decode cX1_placeWords 36 = .ok (.lconst 0, 1) := by decide +kernel
theorem dX1_placeWords_37 : decode cX1_placeWords 37 = .ok (.lastore, 1) := by decide +kernel
theorem dX1_placeWords_38 : decode cX1_placeWords 38 = .ok (.iinc 1 1, 3) := by decide +kernel
theorem dX1_placeWords_41 : decode cX1_placeWords 41 = .ok (.goto (-39), 3) := by decide +kernel
theorem dX1_placeWords_44 : decode cX1_placeWords 44 = .ok (.iconst 0, 1) := by decide +kernel
theorem dX1_placeWords_45 : decode cX1_placeWords 45 = .ok (.istore_n 1, 1) := by decide +kernel
theorem dX1_placeWords_46 : decode cX1_placeWords 46 = .ok (.iconst 0, 1) := by decide +kernel
theorem dX1_placeWords_47 : decode cX1_placeWords 47 = .ok (.istore_n 2, 1) := by decide +kernel
theorem dX1_placeWords_48 : decode cX1_placeWords 48 = .ok (.iload_n 2, 1) := by decide +kernel
theorem dX1_placeWords_49 : decode cX1_placeWords 49 = .ok (.aload_n 0, 1) := by decide +kernel
theorem dX1_placeWords_50 : decode cX1_placeWords 50 = .ok (.getfield 96, 3) := by decide +kernel
theorem dX1_placeWords_53 : decode cX1_placeWords 53 = .ok (.if_icmp .ge 71, 3) := by decide +kernel
theorem dX1_placeWords_56 : decode cX1_placeWords 56 = .ok (.iload_n 1, 1) := by decide +kernel
theorem dX1_placeWords_57 : decode cX1_placeWords 57 = .ok (.aload_n 0, 1) := by decide +kernel
theorem dX1_placeWords_58 : decode cX1_placeWords 58 = .ok (.getfield 102, 3) := by decide +kernel
theorem dX1_placeWords_61 : decode cX1_placeWords 61 = .ok (.if_icmp .ge 24, 3) := by decide +kernel
theorem dX1_placeWords_64 : decode cX1_placeWords 64 = .ok (.aload_n 0, 1) := by decide +kernel
theorem dX1_placeWords_65 : decode cX1_placeWords 65 = .ok (.getfield 37, 3) := by decide +kernel
theorem dX1_placeWords_68 : decode cX1_placeWords 68 = .ok (.iload_n 1, 1) := by decide +kernel
theorem dX1_placeWords_69 : decode cX1_placeWords 69 = .ok (.iaload, 1) := by decide +kernel
theorem dX1_placeWords_70 : decode cX1_placeWords 70 = .ok (.aload_n 0, 1) := by decide +kernel
theorem dX1_placeWords_71 : decode cX1_placeWords 71 = .ok (.getfield 22, 3) := by decide +kernel
theorem dX1_placeWords_74 : decode cX1_placeWords 74 = .ok (.iload_n 2, 1) := by decide +kernel
theorem dX1_placeWords_75 : decode cX1_placeWords 75 = .ok (.iaload, 1) := by decide +kernel
theorem dX1_placeWords_76 : decode cX1_placeWords 76 = .ok (.if_icmp .gt 9, 3) := by decide +kernel
theorem dX1_placeWords_79 : decode cX1_placeWords 79 = .ok (.iinc 1 1, 3) := by decide +kernel
theorem dX1_placeWords_82 : decode cX1_placeWords 82 = .ok (.goto (-26), 3) := by decide +kernel
theorem dX1_placeWords_85 : decode cX1_placeWords 85 = .ok (.aload_n 0, 1) := by decide +kernel
theorem dX1_placeWords_86 : decode cX1_placeWords 86 = .ok (.getfield 28, 3) := by decide +kernel
theorem dX1_placeWords_89 : decode cX1_placeWords 89 = .ok (.iload_n 2, 1) := by decide +kernel
theorem dX1_placeWords_90 : decode cX1_placeWords 90 = .ok (.iload_n 1, 1) := by decide +kernel
theorem dX1_placeWords_91 : decode cX1_placeWords 91 = .ok (.aload_n 0, 1) := by decide +kernel
theorem dX1_placeWords_92 : decode cX1_placeWords 92 = .ok (.getfield 102, 3) := by decide +kernel
theorem dX1_placeWords_95 : decode cX1_placeWords 95 = .ok (.if_icmp .ge 7, 3) := by decide +kernel
theorem dX1_placeWords_98 : decode cX1_placeWords 98 = .ok (.iload_n 1, 1) := by decide +kernel
theorem dX1_placeWords_99 : decode cX1_placeWords 99 = .ok (.goto 4, 3) := by decide +kernel
theorem dX1_placeWords_102 : decode cX1_placeWords 102 = .ok (.iconst (-1), 1) := by decide +kernel
theorem dX1_placeWords_103 : decode cX1_placeWords 103 = .ok (.iastore, 1) := by decide +kernel
theorem dX1_placeWords_104 : decode cX1_placeWords 104 = .ok (.iload_n 1, 1) := by decide +kernel
theorem dX1_placeWords_105 : decode cX1_placeWords 105 = .ok (.aload_n 0, 1) := by decide +kernel
theorem dX1_placeWords_106 : decode cX1_placeWords 106 = .ok (.getfield 102, 3) := by decide +kernel
theorem dX1_placeWords_109 : decode cX1_placeWords 109 = .ok (.if_icmp .ge 9, 3) := by decide +kernel
theorem dX1_placeWords_112 : decode cX1_placeWords 112 = .ok (.aload_n 0, 1) := by decide +kernel
theorem dX1_placeWords_113 : decode cX1_placeWords 113 = .ok (.iload_n 2, 1) := by decide +kernel
theorem dX1_placeWords_114 : decode cX1_placeWords 114 = .ok (.iload_n 1, 1) := by decide +kernel
theorem dX1_placeWords_115 : decode cX1_placeWords 115 = .ok (.invokevirtual 137, 3) := by decide +kernel
theorem dX1_placeWords_118 : decode cX1_placeWords 118 = .ok (.iinc 2 1, 3) := by decide +kernel
theorem dX1_placeWords_121 : decode cX1_placeWords 121 = .ok (.goto (-73), 3) := by decide +kernel
theorem dX1_placeWords_124 : decode cX1_placeWords 124 = .ok (.return_, 1) := by decide +kernel
theorem dX1_readFrom_0 : decode cX1_readFrom 0 = .ok (.aload_n 0, 1) := by decide +kernel
theorem dX1_readFrom_1 : decode cX1_readFrom 1 = .ok (.aload_n 1, 1) := by decide +kernel
theorem dX1_readFrom_2 : decode cX1_readFrom 2 = .ok (.getfield 56, 3) := by decide +kernel
theorem dX1_readFrom_5 : decode cX1_readFrom 5 = .ok (.putfield 62, 3) := by decide +kernel
theorem dX1_readFrom_8 : decode cX1_readFrom 8 = .ok (.iconst 0, 1) := by decide +kernel
theorem dX1_readFrom_9 : decode cX1_readFrom 9 = .ok (.istore_n 2, 1) := by decide +kernel
theorem dX1_readFrom_10 : decode cX1_readFrom 10 = .ok (.iload_n 2, 1) := by decide +kernel
theorem dX1_readFrom_11 : decode cX1_readFrom 11 = .ok (.aload_n 0, 1) := by decide +kernel
theorem dX1_readFrom_12 : decode cX1_readFrom 12 = .ok (.getfield 62, 3) := by decide +kernel
theorem dX1_readFrom_15 : decode cX1_readFrom 15 = .ok (.if_icmp .ge 20, 3) := by decide +kernel
theorem dX1_readFrom_18 : decode cX1_readFrom 18 = .ok (.aload_n 0, 1) := by decide +kernel
theorem dX1_readFrom_19 : decode cX1_readFrom 19 = .ok (.getfield 9, 3) := by decide +kernel
theorem dX1_readFrom_22 : decode cX1_readFrom 22 = .ok (.iload_n 2, 1) := by decide +kernel
theorem dX1_readFrom_23 : decode cX1_readFrom 23 = .ok (.aload_n 1, 1) := by decide +kernel
theorem dX1_readFrom_24 : decode cX1_readFrom 24 = .ok (.iload_n 2, 1) := by decide +kernel
theorem dX1_readFrom_25 : decode cX1_readFrom 25 = .ok (.invokevirtual 63, 3) := by decide +kernel
theorem dX1_readFrom_28 : decode cX1_readFrom 28 = .ok (.iastore, 1) := by decide +kernel
theorem dX1_readFrom_29 : decode cX1_readFrom 29 = .ok (.iinc 2 1, 3) := by decide +kernel
theorem dX1_readFrom_32 : decode cX1_readFrom 32 = .ok (.goto (-22), 3) := by decide +kernel
theorem dX1_readFrom_35 : decode cX1_readFrom 35 = .ok (.aload_n 0, 1) := by decide +kernel
theorem dX1_readFrom_36 : decode cX1_readFrom 36 = .ok (.invokevirtual 67, 3) := by decide +kernel
theorem dX1_readFrom_39 : decode cX1_readFrom 39 = .ok (.aload_n 0, 1) := by decide +kernel
theorem dX1_readFrom_40 : decode cX1_readFrom 40 = .ok (.invokevirtual 70, 3) := by decide +kernel
theorem dX1_readFrom_43 : decode cX1_readFrom 43 = .ok (.aload_n 0, 1) := by decide +kernel
theorem dX1_readFrom_44 : decode cX1_readFrom 44 = .ok (.invokevirtual 73, 3) := by decide +kernel
theorem dX1_readFrom_47 : decode cX1_readFrom 47 = .ok (.aload_n 0, 1) := by decide +kernel
theorem dX1_readFrom_48 : decode cX1_readFrom 48 = .ok (.invokevirtual 76, 3) := by decide +kernel
theorem dX1_readFrom_51 : decode cX1_readFrom 51 = .ok (.aload_n 0, 1) := by decide +kernel
theorem dX1_readFrom_52 : decode cX1_readFrom 52 = .ok (.invokevirtual 79, 3) := by decide +kernel
theorem dX1_readFrom_55 : decode cX1_readFrom 55 = .ok (.return_, 1) := by decide +kernel
theorem dX1_beginOfSign_0 : decode cX1_beginOfSign 0 = .ok (.iconst 0, 1) := by decide +kernel
theorem dX1_beginOfSign_1 : decode cX1_beginOfSign 1 = .ok (.istore_n 2, 1) := by decide +kernel
theorem dX1_beginOfSign_2 : decode cX1_beginOfSign 2 = .ok (.iload_n 2, 1) := by decide +kernel
theorem dX1_beginOfSign_3 : decode cX1_beginOfSign 3 = .ok (.aload_n 0, 1) := by decide +kernel
theorem dX1_beginOfSign_4 : decode cX1_beginOfSign 4 = .ok (.getfield 62, 3) := by decide +kernel
theorem dX1_beginOfSign_7 : decode cX1_beginOfSign 7 = .ok (.if_icmp .ge 21, 3) := by decide +kernel
theorem dX1_beginOfSign_10 : decode cX1_beginOfSign 10 = .ok (.aload_n 0, 1) := by decide +kernel
theorem dX1_beginOfSign_11 : decode cX1_beginOfSign 11 = .ok (.getfield 19, 3) := by decide +kernel
theorem dX1_beginOfSign_14 : decode cX1_beginOfSign 14 = .ok (.iload_n 2, 1) := by decide +kernel
theorem dX1_beginOfSign_15 : decode cX1_beginOfSign 15 = .ok (.iaload, 1) := by decide +kernel
theorem dX1_beginOfSign_16 : decode cX1_beginOfSign 16 = .ok (.iload_n 1, 1) := by decide +kernel
theorem dX1_beginOfSign_17 : decode cX1_beginOfSign 17 = .ok (.if_icmp .ne 5, 3) := by decide +kernel
theorem dX1_beginOfSign_20 : decode cX1_beginOfSign 20 = .ok (.iload_n 2, 1) := by decide +kernel
theorem dX1_beginOfSign_21 : decode cX1_beginOfSign 21 = .ok (.ireturn, 1) := by decide +kernel
theorem dX1_beginOfSign_22 : decode cX1_beginOfSign 22 = .ok (.iinc 2 1, 3) := by decide +kernel
theorem dX1_beginOfSign_25 : decode cX1_beginOfSign 25 = .ok (.goto (-23), 3) := by decide +kernel
theorem dX1_beginOfSign_28 : decode cX1_beginOfSign 28 = .ok (.iconst (-1), 1) := by decide +kernel
theorem dX1_beginOfSign_29 : decode cX1_beginOfSign 29 = .ok (.ireturn, 1) := by decide +kernel
theorem dX1_windowLength_0 : decode cX1_windowLength 0 = .ok (.aload_n 0, 1) := by decide +kernel
theorem dX1_windowLength_1 : decode cX1_windowLength 1 = .ok (.getfield 19, 3) := by decide +kernel
theorem dX1_windowLength_4 : decode cX1_windowLength 4 = .ok (.aload_n 0, 1) := by decide +kernel
theorem dX1_windowLength_5 : decode cX1_windowLength 5 = .ok (.getfield 25, 3) := by decide +kernel
theorem dX1_windowLength_8 : decode cX1_windowLength 8 = .ok (.iload_n 2, 1) := by decide +kernel
theorem dX1_windowLength_9 : decode cX1_windowLength 9 = .ok (.iaload, 1) := by decide +kernel
theorem dX1_windowLength_10 : decode cX1_windowLength 10 = .ok (.iaload, 1) := by decide +kernel
theorem dX1_windowLength_11 : decode cX1_windowLength 11 = .ok (.aload_n 0, 1) := by decide +kernel
theorem dX1_windowLength_12 : decode cX1_windowLength 12 = .ok (.getfield 19, 3) := by decide +kernel
theorem dX1_windowLength_15 : decode cX1_windowLength 15 = .ok (.aload_n 0, 1) := by decide +kernel
theorem dX1_windowLength_16 : decode cX1_windowLength 16 = .ok (.getfield 22, 3) := by decide +kernel
theorem dX1_windowLength_19 : decode cX1_windowLength 19 = .ok (.iload_n 1, 1) := by decide +kernel
theorem dX1_windowLength_20 : decode cX1_windowLength 20 = .ok (.iaload, 1) := by decide +kernel
theorem dX1_windowLength_21 : decode cX1_windowLength 21 = .ok (.iaload, 1) := by decide +kernel
theorem dX1_windowLength_22 : decode cX1_windowLength 22 = .ok (.isub, 1) := by decide +kernel
theorem dX1_windowLength_23 : decode cX1_windowLength 23 = .ok (.ireturn, 1) := by decide +kernel
theorem dX1_lengthOf_0 : decode cX1_lengthOf 0 = .ok (.aload_n 0, 1) := by decide +kernel
theorem dX1_lengthOf_1 : decode cX1_lengthOf 1 = .ok (.getfield 40, 3) := by decide +kernel
theorem dX1_lengthOf_4 : decode cX1_lengthOf 4 = .ok (.iload_n 1, 1) := by decide +kernel
theorem dX1_lengthOf_5 : decode cX1_lengthOf 5 = .ok (.iaload, 1) := by decide +kernel
theorem dX1_lengthOf_6 : decode cX1_lengthOf 6 = .ok (.iconst 4, 1) := by decide +kernel
theorem dX1_lengthOf_7 : decode cX1_lengthOf 7 = .ok (.iadd, 1) := by decide +kernel
theorem dX1_lengthOf_8 : decode cX1_lengthOf 8 = .ok (.ireturn, 1) := by decide +kernel
theorem dJ13_bitCount_95d88_0 : decode cJ13_bitCount_95d88 0 = .ok (.lload_n 0, 1) := by decide +kernel
theorem dJ13_bitCount_95d88_1 : decode cJ13_bitCount_95d88 1 = .ok (.lload_n 0, 1) := by decide +kernel
theorem dJ13_bitCount_95d88_2 : decode cJ13_bitCount_95d88 2 = .ok (.iconst 1, 1) := by decide +kernel
theorem dJ13_bitCount_95d88_3 : decode cJ13_bitCount_95d88 3 = .ok (.lushr, 1) := by decide +kernel
theorem dJ13_bitCount_95d88_4 : decode cJ13_bitCount_95d88 4 = .ok (.ldc2_w 314, 3) := by decide +kernel
theorem dJ13_bitCount_95d88_7 : decode cJ13_bitCount_95d88 7 = .ok (.land, 1) := by decide +kernel
theorem dJ13_bitCount_95d88_8 : decode cJ13_bitCount_95d88 8 = .ok (.lsub, 1) := by decide +kernel
theorem dJ13_bitCount_95d88_9 : decode cJ13_bitCount_95d88 9 = .ok (.lstore_n 0, 1) := by decide +kernel
theorem dJ13_bitCount_95d88_10 : decode cJ13_bitCount_95d88 10 = .ok (.lload_n 0, 1) := by decide +kernel
theorem dJ13_bitCount_95d88_11 : decode cJ13_bitCount_95d88 11 = .ok (.ldc2_w 316, 3) := by decide +kernel
theorem dJ13_bitCount_95d88_14 : decode cJ13_bitCount_95d88 14 = .ok (.land, 1) := by decide +kernel
theorem dJ13_bitCount_95d88_15 : decode cJ13_bitCount_95d88 15 = .ok (.lload_n 0, 1) := by decide +kernel
theorem dJ13_bitCount_95d88_16 : decode cJ13_bitCount_95d88 16 = .ok (.iconst 2, 1) := by decide +kernel
theorem dJ13_bitCount_95d88_17 : decode cJ13_bitCount_95d88 17 = .ok (.lushr, 1) := by decide +kernel
theorem dJ13_bitCount_95d88_18 : decode cJ13_bitCount_95d88 18 = .ok (.ldc2_w 316, 3) := by decide +kernel
theorem dJ13_bitCount_95d88_21 : decode cJ13_bitCount_95d88 21 = .ok (.land, 1) := by decide +kernel
theorem dJ13_bitCount_95d88_22 : decode cJ13_bitCount_95d88 22 = .ok (.ladd, 1) := by decide +kernel
theorem dJ13_bitCount_95d88_23 : decode cJ13_bitCount_95d88 23 = .ok (.lstore_n 0, 1) := by decide +kernel
theorem dJ13_bitCount_95d88_24 : decode cJ13_bitCount_95d88 24 = .ok (.lload_n 0, 1) := by decide +kernel
theorem dJ13_bitCount_95d88_25 : decode cJ13_bitCount_95d88 25 = .ok (.lload_n 0, 1) := by decide +kernel
theorem dJ13_bitCount_95d88_26 : decode cJ13_bitCount_95d88 26 = .ok (.iconst 4, 1) := by decide +kernel
theorem dJ13_bitCount_95d88_27 : decode cJ13_bitCount_95d88 27 = .ok (.lushr, 1) := by decide +kernel
theorem dJ13_bitCount_95d88_28 : decode cJ13_bitCount_95d88 28 = .ok (.ladd, 1) := by decide +kernel
theorem dJ13_bitCount_95d88_29 : decode cJ13_bitCount_95d88 29 = .ok (.ldc2_w 318, 3) := by decide +kernel
theorem dJ13_bitCount_95d88_32 : decode cJ13_bitCount_95d88 32 = .ok (.land, 1) := by decide +kernel
theorem dJ13_bitCount_95d88_33 : decode cJ13_bitCount_95d88 33 = .ok (.lstore_n 0, 1) := by decide +kernel
theorem dJ13_bitCount_95d88_34 : decode cJ13_bitCount_95d88 34 = .ok (.lload_n 0, 1) := by decide +kernel
theorem dJ13_bitCount_95d88_35 : decode cJ13_bitCount_95d88 35 = .ok (.lload_n 0, 1) := by decide +kernel
theorem dJ13_bitCount_95d88_36 : decode cJ13_bitCount_95d88 36 = .ok (.bipush 8, 2) := by decide +kernel
theorem dJ13_bitCount_95d88_38 : decode cJ13_bitCount_95d88 38 = .ok (.lushr, 1) := by decide +kernel
theorem dJ13_bitCount_95d88_39 : decode cJ13_bitCount_95d88 39 = .ok (.ladd, 1) := by decide +kernel
theorem dJ13_bitCount_95d88_40 : decode cJ13_bitCount_95d88 40 = .ok (.lstore_n 0, 1) := by decide +kernel
theorem dJ13_bitCount_95d88_41 : decode cJ13_bitCount_95d88 41 = .ok (.lload_n 0, 1) := by decide +kernel
theorem dJ13_bitCount_95d88_42 : decode cJ13_bitCount_95d88 42 = .ok (.lload_n 0, 1) := by decide +kernel
theorem dJ13_bitCount_95d88_43 : decode cJ13_bitCount_95d88 43 = .ok (.bipush 16, 2) := by decide +kernel
theorem dJ13_bitCount_95d88_45 : decode cJ13_bitCount_95d88 45 = .ok (.lushr, 1) := by decide +kernel
theorem dJ13_bitCount_95d88_46 : decode cJ13_bitCount_95d88 46 = .ok (.ladd, 1) := by decide +kernel
theorem dJ13_bitCount_95d88_47 : decode cJ13_bitCount_95d88 47 = .ok (.lstore_n 0, 1) := by decide +kernel
theorem dJ13_bitCount_95d88_48 : decode cJ13_bitCount_95d88 48 = .ok (.lload_n 0, 1) := by decide +kernel
theorem dJ13_bitCount_95d88_49 : decode cJ13_bitCount_95d88 49 = .ok (.lload_n 0, 1) := by decide +kernel
theorem dJ13_bitCount_95d88_50 : decode cJ13_bitCount_95d88 50 = .ok (.bipush 32, 2) := by decide +kernel
theorem dJ13_bitCount_95d88_52 : decode cJ13_bitCount_95d88 52 = .ok (.lushr, 1) := by decide +kernel
theorem dJ13_bitCount_95d88_53 : decode cJ13_bitCount_95d88 53 = .ok (.ladd, 1) := by decide +kernel
theorem dJ13_bitCount_95d88_54 : decode cJ13_bitCount_95d88 54 = .ok (.lstore_n 0, 1) := by decide +kernel
theorem dJ13_bitCount_95d88_55 : decode cJ13_bitCount_95d88 55 = .ok (.lload_n 0, 1) := by decide +kernel
theorem dJ13_bitCount_95d88_56 : decode cJ13_bitCount_95d88 56 = .ok (.l2i, 1) := by decide +kernel
theorem dJ13_bitCount_95d88_57 : decode cJ13_bitCount_95d88 57 = .ok (.bipush 127, 2) := by decide +kernel
theorem dJ13_bitCount_95d88_59 : decode cJ13_bitCount_95d88 59 = .ok (.iand, 1) := by decide +kernel
theorem dJ13_bitCount_95d88_60 : decode cJ13_bitCount_95d88 60 = .ok (.ireturn, 1) := by decide +kernel
theorem dX1_unlikeWords_0 : decode cX1_unlikeWords 0 = .ok (.aload_n 0, 1) := by decide +kernel
theorem dX1_unlikeWords_1 : decode cX1_unlikeWords 1 = .ok (.getfield 49, 3) := by decide +kernel
theorem dX1_unlikeWords_4 : decode cX1_unlikeWords 4 = .ok (.iload_n 1, 1) := by decide +kernel
theorem dX1_unlikeWords_5 : decode cX1_unlikeWords 5 = .ok (.laload, 1) := by decide +kernel
theorem dX1_unlikeWords_6 : decode cX1_unlikeWords 6 = .ok (.invokestatic 141, 3) := by decide +kernel
theorem dX1_unlikeWords_9 : decode cX1_unlikeWords 9 = .ok (.aload_n 0, 1) := by decide +kernel
theorem dX1_unlikeWords_10 : decode cX1_unlikeWords 10 = .ok (.getfield 53, 3) := by decide +kernel
theorem dX1_unlikeWords_13 : decode cX1_unlikeWords 13 = .ok (.iload_n 1, 1) := by decide +kernel
theorem dX1_unlikeWords_14 : decode cX1_unlikeWords 14 = .ok (.laload, 1) := by decide +kernel
theorem dX1_unlikeWords_15 : decode cX1_unlikeWords 15 = .ok (.invokestatic 141, 3) := by decide +kernel
theorem dX1_unlikeWords_18 : decode cX1_unlikeWords 18 = .ok (.iadd, 1) := by decide +kernel
theorem dX1_unlikeWords_19 : decode cX1_unlikeWords 19 = .ok (.ireturn, 1) := by decide +kernel
theorem dX1_unlikeOfAll_0 : decode cX1_unlikeOfAll 0 = .ok (.iconst 0, 1) := by decide +kernel
theorem dX1_unlikeOfAll_1 : decode cX1_unlikeOfAll 1 = .ok (.istore_n 1, 1) := by decide +kernel
theorem dX1_unlikeOfAll_2 : decode cX1_unlikeOfAll 2 = .ok (.iconst 0, 1) := by decide +kernel
theorem dX1_unlikeOfAll_3 : decode cX1_unlikeOfAll 3 = .ok (.istore_n 2, 1) := by decide +kernel
theorem dX1_unlikeOfAll_4 : decode cX1_unlikeOfAll 4 = .ok (.iload_n 2, 1) := by decide +kernel
theorem dX1_unlikeOfAll_5 : decode cX1_unlikeOfAll 5 = .ok (.aload_n 0, 1) := by decide +kernel
theorem dX1_unlikeOfAll_6 : decode cX1_unlikeOfAll 6 = .ok (.getfield 96, 3) := by decide +kernel
theorem dX1_unlikeOfAll_9 : decode cX1_unlikeOfAll 9 = .ok (.if_icmp .ge 22, 3) := by decide +kernel
theorem dX1_unlikeOfAll_12 : decode cX1_unlikeOfAll 12 = .ok (.aload_n 0, 1) := by decide +kernel
theorem dX1_unlikeOfAll_13 : decode cX1_unlikeOfAll 13 = .ok (.getfield 31, 3) := by decide +kernel
theorem dX1_unlikeOfAll_16 : decode cX1_unlikeOfAll 16 = .ok (.iload_n 2, 1) := by decide +kernel
theorem dX1_unlikeOfAll_17 : decode cX1_unlikeOfAll 17 = .ok (.iaload, 1) := by decide +kernel
theorem dX1_unlikeOfAll_18 : decode cX1_unlikeOfAll 18 = .ok (.iload_n 2, 1) := by decide +kernel
theorem dX1_unlikeOfAll_19 : decode cX1_unlikeOfAll 19 = .ok (.if_icmp .ne 6, 3) := by decide +kernel
theorem dX1_unlikeOfAll_22 : decode cX1_unlikeOfAll 22 = .ok (.iinc 1 1, 3) := by decide +kernel
theorem dX1_unlikeOfAll_25 : decode cX1_unlikeOfAll 25 = .ok (.iinc 2 1, 3) := by decide +kernel
theorem dX1_unlikeOfAll_28 : decode cX1_unlikeOfAll 28 = .ok (.goto (-24), 3) := by decide +kernel
theorem dX1_unlikeOfAll_31 : decode cX1_unlikeOfAll 31 = .ok (.iload_n 1, 1) := by decide +kernel
theorem dX1_unlikeOfAll_32 : decode cX1_unlikeOfAll 32 = .ok (.ireturn, 1) := by decide +kernel
theorem dX1_inCommon_0 : decode cX1_inCommon 0 = .ok (.iload_n 1, 1) := by decide +kernel
theorem dX1_inCommon_1 : decode cX1_inCommon 1 = .ok (.iload_n 2, 1) := by decide +kernel
theorem dX1_inCommon_2 : decode cX1_inCommon 2 = .ok (.if_icmp .ne 6, 3) := by decide +kernel
theorem dX1_inCommon_5 : decode cX1_inCommon 5 = .ok (.bipush 100, 2) := by decide +kernel
theorem dX1_inCommon_7 : decode cX1_inCommon 7 = .ok (.ireturn, 1) := by decide +kernel
theorem dX1_inCommon_8 : decode cX1_inCommon 8 = .ok (.aload_n 0, 1) := by decide +kernel
theorem dX1_inCommon_9 : decode cX1_inCommon 9 = .ok (.getfield 49, 3) := by decide +kernel
theorem dX1_inCommon_12 : decode cX1_inCommon 12 = .ok (.iload_n 1, 1) := by decide +kernel
theorem dX1_inCommon_13 : decode cX1_inCommon 13 = .ok (.laload, 1) := by decide +kernel
theorem dX1_inCommon_14 : decode cX1_inCommon 14 = .ok (.aload_n 0, 1) := by decide +kernel
theorem dX1_inCommon_15 : decode cX1_inCommon 15 = .ok (.getfield 49, 3) := by decide +kernel
theorem dX1_inCommon_18 : decode cX1_inCommon 18 = .ok (.iload_n 2, 1) := by decide +kernel
theorem dX1_inCommon_19 : decode cX1_inCommon 19 = .ok (.laload, 1) := by decide +kernel
theorem dX1_inCommon_20 : decode cX1_inCommon 20 = .ok (.land, 1) := by decide +kernel
theorem dX1_inCommon_21 : decode cX1_inCommon 21 = .ok (.invokestatic 141, 3) := by decide +kernel
theorem dX1_inCommon_24 : decode cX1_inCommon 24 = .ok (.aload_n 0, 1) := by decide +kernel
theorem dX1_inCommon_25 : decode cX1_inCommon 25 = .ok (.getfield 53, 3) := by decide +kernel
theorem dX1_inCommon_28 : decode cX1_inCommon 28 = .ok (.iload_n 1, 1) := by decide +kernel
theorem dX1_inCommon_29 : decode cX1_inCommon 29 = .ok (.laload, 1) := by decide +kernel
theorem dX1_inCommon_30 : decode cX1_inCommon 30 = .ok (.aload_n 0, 1) := by decide +kernel
theorem dX1_inCommon_31 : decode cX1_inCommon 31 = .ok (.getfield 53, 3) := by decide +kernel
theorem dX1_inCommon_34 : decode cX1_inCommon 34 = .ok (.iload_n 2, 1) := by decide +kernel
theorem dX1_inCommon_35 : decode cX1_inCommon 35 = .ok (.laload, 1) := by decide +kernel
theorem dX1_inCommon_36 : decode cX1_inCommon 36 = .ok (.land, 1) := by decide +kernel
theorem dX1_inCommon_37 : decode cX1_inCommon 37 = .ok (.invokestatic 141, 3) := by decide +kernel
theorem dX1_inCommon_40 : decode cX1_inCommon 40 = .ok (.iadd, 1) := by decide +kernel
theorem dX1_inCommon_41 : decode cX1_inCommon 41 = .ok (.istore_n 3, 1) := by decide +kernel
theorem dX1_inCommon_42 : decode cX1_inCommon 42 = .ok (.aload_n 0, 1) := by decide +kernel
theorem dX1_inCommon_43 : decode cX1_inCommon 43 = .ok (.iload_n 1, 1) := by decide +kernel
theorem dX1_inCommon_44 : decode cX1_inCommon 44 = .ok (.invokevirtual 147, 3) := by decide +kernel
theorem dX1_inCommon_47 : decode cX1_inCommon 47 = .ok (.aload_n 0, 1) := by decide +kernel
theorem dX1_inCommon_48 : decode cX1_inCommon 48 = .ok (.iload_n 2, 1) := by decide +kernel
theorem dX1_inCommon_49 : decode cX1_inCommon 49 = .ok (.invokevirtual 147, 3) := by decide +kernel
theorem dX1_inCommon_52 : decode cX1_inCommon 52 = .ok (.iadd, 1) := by decide +kernel
theorem dX1_inCommon_53 : decode cX1_inCommon 53 = .ok (.iload_n 3, 1) := by decide +kernel
theorem dX1_inCommon_54 : decode cX1_inCommon 54 = .ok (.isub, 1) := by decide +kernel
theorem dX1_inCommon_55 : decode cX1_inCommon 55 = .ok (.istore 4, 2) := by decide +kernel
theorem dX1_inCommon_57 : decode cX1_inCommon 57 = .ok (.iload 4, 2) := by decide +kernel
theorem dX1_inCommon_59 : decode cX1_inCommon 59 = .ok (.ifCond .ne 7, 3) := by decide +kernel
theorem dX1_inCommon_62 : decode cX1_inCommon 62 = .ok (.iconst 0, 1) := by decide +kernel
theorem dX1_inCommon_63 : decode cX1_inCommon 63 = .ok (.goto 10, 3) := by decide +kernel
theorem dX1_inCommon_66 : decode cX1_inCommon 66 = .ok (.iload_n 3, 1) := by decide +kernel
theorem dX1_inCommon_67 : decode cX1_inCommon 67 = .ok (.bipush 100, 2) := by decide +kernel
theorem dX1_inCommon_69 : decode cX1_inCommon 69 = .ok (.imul, 1) := by decide +kernel
theorem dX1_inCommon_70 : decode cX1_inCommon 70 = .ok (.iload 4, 2) := by decide +kernel
theorem dX1_inCommon_72 : decode cX1_inCommon 72 = .ok (.idiv, 1) := by decide +kernel
theorem dX1_inCommon_73 : decode cX1_inCommon 73 = .ok (.ireturn, 1) := by decide +kernel
theorem dX1_echo_0 : decode cX1_echo 0 = .ok (.iconst (-1), 1) := by decide +kernel
theorem dX1_echo_1 : decode cX1_echo 1 = .ok (.istore_n 2, 1) := by decide +kernel
theorem dX1_echo_2 : decode cX1_echo 2 = .ok (.iconst 0, 1) := by decide +kernel
theorem dX1_echo_3 : decode cX1_echo 3 = .ok (.istore_n 3, 1) := by decide +kernel
theorem dX1_echo_4 : decode cX1_echo 4 = .ok (.iconst 0, 1) := by decide +kernel
theorem dX1_echo_5 : decode cX1_echo 5 = .ok (.istore 4, 2) := by decide +kernel
theorem dX1_echo_7 : decode cX1_echo 7 = .ok (.iload 4, 2) := by decide +kernel
theorem dX1_echo_9 : decode cX1_echo 9 = .ok (.aload_n 0, 1) := by decide +kernel
theorem dX1_echo_10 : decode cX1_echo 10 = .ok (.getfield 102, 3) := by decide +kernel
theorem dX1_echo_13 : decode cX1_echo 13 = .ok (.if_icmp .ge 37, 3) := by decide +kernel
theorem dX1_echo_16 : decode cX1_echo 16 = .ok (.iload 4, 2) := by decide +kernel
theorem dX1_echo_18 : decode cX1_echo 18 = .ok (.iload_n 1, 1) := by decide +kernel
theorem dX1_echo_19 : decode cX1_echo 19 = .ok (.if_icmp .eq 25, 3) := by decide +kernel
theorem dX1_echo_22 : decode cX1_echo 22 = .ok (.aload_n 0, 1) := by decide +kernel
theorem dX1_echo_23 : decode cX1_echo 23 = .ok (.iload_n 1, 1) := by decide +kernel
theorem dX1_echo_24 : decode cX1_echo 24 = .ok (.iload 4, 2) := by decide +kernel
theorem dX1_echo_26 : decode cX1_echo 26 = .ok (.invokevirtual 150, 3) := by decide +kernel
theorem dX1_echo_29 : decode cX1_echo 29 = .ok (.iload_n 3, 1) := by decide +kernel
theorem dX1_echo_30 : decode cX1_echo 30 = .ok (.if_icmp .le 14, 3) := by decide +kernel
theorem dX1_echo_33 : decode cX1_echo 33 = .ok (.iload 4, 2) := by decide +kernel
theorem dX1_echo_35 : decode cX1_echo 35 = .ok (.istore_n 2, 1) := by decide +kernel
theorem dX1_echo_36 : decode cX1_echo 36 = .ok (.aload_n 0, 1) := by decide +kernel
theorem dX1_echo_37 : decode cX1_echo 37 = .ok (.iload_n 1, 1) := by decide +kernel
theorem dX1_echo_38 : decode cX1_echo 38 = .ok (.iload 4, 2) := by decide +kernel
theorem dX1_echo_40 : decode cX1_echo 40 = .ok (.invokevirtual 150, 3) := by decide +kernel
theorem dX1_echo_43 : decode cX1_echo 43 = .ok (.istore_n 3, 1) := by decide +kernel
theorem dX1_echo_44 : decode cX1_echo 44 = .ok (.iinc 4 1, 3) := by decide +kernel
theorem dX1_echo_47 : decode cX1_echo 47 = .ok (.goto (-40), 3) := by decide +kernel
theorem dX1_echo_50 : decode cX1_echo 50 = .ok (.iload_n 2, 1) := by decide +kernel
theorem dX1_echo_51 : decode cX1_echo 51 = .ok (.ireturn, 1) := by decide +kernel
theorem dX2_clear_0 : decode cX2_clear 0 = .ok (.aload_n 0, 1) := by decide +kernel
theorem dX2_clear_1 : decode cX2_clear 1 = .ok (.iconst 0, 1) := by decide +kernel
theorem dX2_clear_2 : decode cX2_clear 2 = .ok (.putfield 24, 3) := by decide +kernel
theorem dX2_clear_5 : decode cX2_clear 5 = .ok (.aload_n 0, 1) := by decide +kernel
theorem dX2_clear_6 : decode cX2_clear 6 = .ok (.iconst 0, 1) := by decide +kernel
theorem dX2_clear_7 : decode cX2_clear 7 = .ok (.putfield 28, 3) := by decide +kernel
theorem dX2_clear_10 : decode cX2_clear 10 = .ok (.aload_n 0, 1) := by decide +kernel
theorem dX2_clear_11 : decode cX2_clear 11 = .ok (.iconst 0, 1) := by decide +kernel
theorem dX2_clear_12 : decode cX2_clear 12 = .ok (.putfield 31, 3) := by decide +kernel
theorem dX2_clear_15 : decode cX2_clear 15 = .ok (.return_, 1) := by decide +kernel
theorem dX2_addItem_0 : decode cX2_addItem 0 = .ok (.aload_n 0, 1) := by decide +kernel
theorem dX2_addItem_1 : decode cX2_addItem 1 = .ok (.getfield 24, 3) := by decide +kernel
theorem dX2_addItem_4 : decode cX2_addItem 4 = .ok (.bipush 8, 2) := by decide +kernel
theorem dX2_addItem_6 : decode cX2_addItem 6 = .ok (.if_icmp .ge 56, 3) := by decide +kernel
theorem dX2_addItem_9 : decode cX2_addItem 9 = .ok (.aload_n 0, 1) := by decide +kernel
theorem dX2_addItem_10 : decode cX2_addItem 10 = .ok (.getfield 9, 3) := by decide +kernel
theorem dX2_addItem_13 : decode cX2_addItem 13 = .ok (.aload_n 0, 1) := by decide +kernel
theorem dX2_addItem_14 : decode cX2_addItem 14 = .ok (.getfield 24, 3) := by decide +kernel
theorem dX2_addItem_17 : decode cX2_addItem 17 = .ok (.iload_n 1, 1) := by decide +kernel
theorem dX2_addItem_18 : decode cX2_addItem 18 = .ok (.iastore, 1) := by decide +kernel
theorem dX2_addItem_19 : decode cX2_addItem 19 = .ok (.aload_n 0, 1) := by decide +kernel
theorem dX2_addItem_20 : decode cX2_addItem 20 = .ok (.getfield 15, 3) := by decide +kernel
theorem dX2_addItem_23 : decode cX2_addItem 23 = .ok (.aload_n 0, 1) := by decide +kernel
theorem dX2_addItem_24 : decode cX2_addItem 24 = .ok (.getfield 24, 3) := by decide +kernel
theorem dX2_addItem_27 : decode cX2_addItem 27 = .ok (.iconst 0, 1) := by decide +kernel
theorem dX2_addItem_28 : decode cX2_addItem 28 = .ok (.iastore, 1) := by decide +kernel
theorem dX2_addItem_29 : decode cX2_addItem 29 = .ok (.aload_n 0, 1) := by decide +kernel
theorem dX2_addItem_30 : decode cX2_addItem 30 = .ok (.dup, 1) := by decide +kernel
theorem dX2_addItem_31 : decode cX2_addItem 31 = .ok (.getfield 28, 3) := by decide +kernel
theorem dX2_addItem_34 : decode cX2_addItem 34 = .ok (.iload_n 2, 1) := by decide +kernel
theorem dX2_addItem_35 : decode cX2_addItem 35 = .ok (.ifCond .eq 12, 3) := by decide +kernel
theorem dX2_addItem_38 : decode cX2_addItem 38 = .ok (.iconst 1, 1) := by decide +kernel
theorem dX2_addItem_39 : decode cX2_addItem 39 = .ok (.aload_n 0, 1) := by decide +kernel
theorem dX2_addItem_40 : decode cX2_addItem 40 = .ok (.getfield 24, 3) := by decide +kernel
theorem dX2_addItem_43 : decode cX2_addItem 43 = .ok (.ishl, 1) := by decide +kernel
theorem dX2_addItem_44 : decode cX2_addItem 44 = .ok (.goto 4, 3) := by decide +kernel
theorem dX2_addItem_47 : decode cX2_addItem 47 = .ok (.iconst 0, 1) := by decide +kernel
theorem dX2_addItem_48 : decode cX2_addItem 48 = .ok (.ior, 1) := by decide +kernel
theorem dX2_addItem_49 : decode cX2_addItem 49 = .ok (.putfield 28, 3) := by decide +kernel
theorem dX2_addItem_52 : decode cX2_addItem 52 = .ok (.aload_n 0, 1) := by decide +kernel
theorem dX2_addItem_53 : decode cX2_addItem 53 = .ok (.dup, 1) := by decide +kernel
theorem dX2_addItem_54 : decode cX2_addItem 54 = .ok (.getfield 24, 3) := by decide +kernel
theorem dX2_addItem_57 : decode cX2_addItem 57 = .ok (.iconst 1, 1) := by decide +kernel
theorem dX2_addItem_58 : decode cX2_addItem 58 = .ok (.iadd, 1) := by decide +kernel
theorem dX2_addItem_59 : decode cX2_addItem 59 = .ok (.putfield 24, 3) := by decide +kernel
theorem dX2_addItem_62 : decode cX2_addItem 62 = .ok (.return_, 1) := by decide +kernel
theorem dX2_addTerm_0 : decode cX2_addTerm 0 = .ok (.aload_n 0, 1) := by decide +kernel
theorem dX2_addTerm_1 : decode cX2_addTerm 1 = .ok (.getfield 24, 3) := by decide +kernel
theorem dX2_addTerm_4 : decode cX2_addTerm 4 = .ok (.iconst 1, 1) := by decide +kernel
theorem dX2_addTerm_5 : decode cX2_addTerm 5 = .ok (.isub, 1) := by decide +kernel
theorem dX2_addTerm_6 : decode cX2_addTerm 6 = .ok (.istore 5, 2) := by decide +kernel
theorem dX2_addTerm_8 : decode cX2_addTerm 8 = .ok (.iload 5, 2) := by decide +kernel
theorem dX2_addTerm_10 : decode cX2_addTerm 10 = .ok (.ifCond .lt 20, 3) := by decide +kernel
theorem dX2_addTerm_13 : decode cX2_addTerm 13 = .ok (.aload_n 0, 1) := by decide +kernel
theorem dX2_addTerm_14 : decode cX2_addTerm 14 = .ok (.getfield 15, 3) := by decide +kernel
theorem dX2_addTerm_17 : decode cX2_addTerm 17 = .ok (.iload 5, 2) := by decide +kernel
theorem dX2_addTerm_19 : decode cX2_addTerm 19 = .ok (.iaload, 1) := by decide +kernel
theorem dX2_addTerm_20 : decode cX2_addTerm 20 = .ok (.iconst 4, 1) := by decide +kernel
theorem dX2_addTerm_21 : decode cX2_addTerm 21 = .ok (.if_icmp .ge 9, 3) := by decide +kernel
theorem dX2_addTerm_24 : decode cX2_addTerm 24 = .ok (.iload_n 3, 1) := by decide +kernel
theorem dX2_addTerm_25 : decode cX2_addTerm 25 = .ok (.bipush 12, 2) := by decide +kernel
theorem dX2_addTerm_27 : decode cX2_addTerm 27 = .ok (.if_icmp .le 4, 3) := by decide +kernel
theorem dX2_addTerm_30 : decode cX2_addTerm 30 = .ok (.return_, 1) := by decide +kernel
theorem dX2_addTerm_31 : decode cX2_addTerm 31 = .ok (.iload 5, 2) := by decide +kernel
theorem dX2_addTerm_33 : decode cX2_addTerm 33 = .ok (.iconst 4, 1) := by decide +kernel
theorem dX2_addTerm_34 : decode cX2_addTerm 34 = .ok (.imul, 1) := by decide +kernel
theorem dX2_addTerm_35 : decode cX2_addTerm 35 = .ok (.aload_n 0, 1) := by decide +kernel
theorem dX2_addTerm_36 : decode cX2_addTerm 36 = .ok (.getfield 15, 3) := by decide +kernel
theorem dX2_addTerm_39 : decode cX2_addTerm 39 = .ok (.iload 5, 2) := by decide +kernel
theorem dX2_addTerm_41 : decode cX2_addTerm 41 = .ok (.iaload, 1) := by decide +kernel
theorem dX2_addTerm_42 : decode cX2_addTerm 42 = .ok (.iadd, 1) := by decide +kernel
theorem dX2_addTerm_43 : decode cX2_addTerm 43 = .ok (.istore 6, 2) := by decide +kernel
theorem dX2_addTerm_45 : decode cX2_addTerm 45 = .ok (.iconst 0, 1) := by decide +kernel
theorem dX2_addTerm_46 : decode cX2_addTerm 46 = .ok (.istore 7, 2) := by decide +kernel
theorem dX2_addTerm_48 : decode cX2_addTerm 48 = .ok (.iload 7, 2) := by decide +kernel
theorem dX2_addTerm_50 : decode cX2_addTerm 50 = .ok (.iload_n 3, 1) := by decide +kernel
theorem dX2_addTerm_51 : decode cX2_addTerm 51 = .ok (.if_icmp .ge 30, 3) := by decide +kernel
theorem dX2_addTerm_54 : decode cX2_addTerm 54 = .ok (.aload_n 0, 1) := by decide +kernel
theorem dX2_addTerm_55 : decode cX2_addTerm 55 = .ok (.getfield 21, 3) := by decide +kernel
theorem dX2_addTerm_58 : decode cX2_addTerm 58 = .ok (.iload 6, 2) := by decide +kernel
theorem dX2_addTerm_60 : decode cX2_addTerm 60 = .ok (.bipush 12, 2) := by decide +kernel
theorem dX2_addTerm_62 : decode cX2_addTerm 62 = .ok (.imul, 1) := by decide +kernel
theorem dX2_addTerm_63 : decode cX2_addTerm 63 = .ok (.iload 7, 2) := by decide +kernel
theorem dX2_addTerm_65 : decode cX2_addTerm 65 = .ok (.iadd, 1) := by decide +kernel
theorem dX2_addTerm_66 : decode cX2_addTerm 66 = .ok (.aload_n 1, 1) := by decide +kernel
theorem dX2_addTerm_67 : decode cX2_addTerm 67 = .ok (.iload_n 2, 1) := by decide +kernel
theorem dX2_addTerm_68 : decode cX2_addTerm 68 = .ok (.iload 7, 2) := by decide +kernel
theorem dX2_addTerm_70 : decode cX2_addTerm 70 = .ok (.iadd, 1) := by decide +kernel
theorem dX2_addTerm_71 : decode cX2_addTerm 71 = .ok (.invokevirtual 34, 3) := by decide +kernel
theorem dX2_addTerm_74 : decode cX2_addTerm 74 = .ok (.iastore, 1) := by decide +kernel
theorem dX2_addTerm_75 : decode cX2_addTerm 75 = .ok (.iinc 7 1, 3) := by decide +kernel
theorem dX2_addTerm_78 : decode cX2_addTerm 78 = .ok (.goto (-30), 3) := by decide +kernel
theorem dX2_addTerm_81 : decode cX2_addTerm 81 = .ok (.aload_n 0, 1) := by decide +kernel
theorem dX2_addTerm_82 : decode cX2_addTerm 82 = .ok (.getfield 18, 3) := by decide +kernel
theorem dX2_addTerm_85 : decode cX2_addTerm 85 = .ok (.iload 6, 2) := by decide +kernel
theorem dX2_addTerm_87 : decode cX2_addTerm 87 = .ok (.iload_n 3, 1) := by decide +kernel
theorem dX2_addTerm_88 : decode cX2_addTerm 88 = .ok (.iastore, 1) := by decide +kernel
theorem dX2_addTerm_89 : decode cX2_addTerm 89 = .ok (.aload_n 0, 1) := by decide +kernel
theorem dX2_addTerm_90 : decode cX2_addTerm 90 = .ok (.dup, 1) := by decide +kernel
theorem dX2_addTerm_91 : decode cX2_addTerm 91 = .ok (.getfield 31, 3) := by decide +kernel
theorem dX2_addTerm_94 : decode cX2_addTerm 94 = .ok (.iload 4, 2) := by decide +kernel
theorem dX2_addTerm_96 : decode cX2_addTerm 96 = .ok (.ifCond .eq 10, 3) := by decide +kernel
theorem dX2_addTerm_99 : decode cX2_addTerm 99 = .ok (.iconst 1, 1) := by decide +kernel
theorem dX2_addTerm_100 : decode cX2_addTerm 100 = .ok (.iload 6, 2) := by decide +kernel
theorem dX2_addTerm_102 : decode cX2_addTerm 102 = .ok (.ishl, 1) := by decide +kernel
theorem dX2_addTerm_103 : decode cX2_addTerm 103 = .ok (.goto 4, 3) := by decide +kernel
theorem dX2_addTerm_106 : decode cX2_addTerm 106 = .ok (.iconst 0, 1) := by decide +kernel
theorem dX2_addTerm_107 : decode cX2_addTerm 107 = .ok (.ior, 1) := by decide +kernel
theorem dX2_addTerm_108 : decode cX2_addTerm 108 = .ok (.putfield 31, 3) := by decide +kernel
theorem dX2_addTerm_111 : decode cX2_addTerm 111 = .ok (.aload_n 0, 1) := by decide +kernel
theorem dX2_addTerm_112 : decode cX2_addTerm 112 = .ok (.getfield 15, 3) := by decide +kernel
theorem dX2_addTerm_115 : decode cX2_addTerm 115 = .ok (.iload 5, 2) := by decide +kernel
theorem dX2_addTerm_117 : decode cX2_addTerm 117 = .ok (.dup2, 1) := by decide +kernel
theorem dX2_addTerm_118 : decode cX2_addTerm 118 = .ok (.iaload, 1) := by decide +kernel
theorem dX2_addTerm_119 : decode cX2_addTerm 119 = .ok (.iconst 1, 1) := by decide +kernel
theorem dX2_addTerm_120 : decode cX2_addTerm 120 = .ok (.iadd, 1) := by decide +kernel
theorem dX2_addTerm_121 : decode cX2_addTerm 121 = .ok (.iastore, 1) := by decide +kernel
theorem dX2_addTerm_122 : decode cX2_addTerm 122 = .ok (.return_, 1) := by decide +kernel
theorem dX2_copyFrom_0 : decode cX2_copyFrom 0 = .ok (.aload_n 0, 1) := by decide +kernel
theorem dX2_copyFrom_1 : decode cX2_copyFrom 1 = .ok (.aload_n 1, 1) := by decide +kernel
theorem dX2_copyFrom_2 : decode cX2_copyFrom 2 = .ok (.getfield 24, 3) := by decide +kernel
theorem dX2_copyFrom_5 : decode cX2_copyFrom 5 = .ok (.putfield 24, 3) := by decide +kernel
theorem dX2_copyFrom_8 : decode cX2_copyFrom 8 = .ok (.aload_n 0, 1) := by decide +kernel
theorem dX2_copyFrom_9 : decode cX2_copyFrom 9 = .ok (.aload_n 1, 1) := by decide +kernel
theorem dX2_copyFrom_10 : decode cX2_copyFrom 10 = .ok (.getfield 28, 3) := by decide +kernel
theorem dX2_copyFrom_13 : decode cX2_copyFrom 13 = .ok (.putfield 28, 3) := by decide +kernel
theorem dX2_copyFrom_16 : decode cX2_copyFrom 16 = .ok (.aload_n 0, 1) := by decide +kernel
theorem dX2_copyFrom_17 : decode cX2_copyFrom 17 = .ok (.aload_n 1, 1) := by decide +kernel
theorem dX2_copyFrom_18 : decode cX2_copyFrom 18 = .ok (.getfield 31, 3) := by decide +kernel
theorem dX2_copyFrom_21 : decode cX2_copyFrom 21 = .ok (.putfield 31, 3) := by decide +kernel
theorem dX2_copyFrom_24 : decode cX2_copyFrom 24 = .ok (.aload_n 1, 1) := by decide +kernel
theorem dX2_copyFrom_25 : decode cX2_copyFrom 25 = .ok (.getfield 9, 3) := by decide +kernel
theorem dX2_copyFrom_28 : decode cX2_copyFrom 28 = .ok (.iconst 0, 1) := by decide +kernel
theorem dX2_copyFrom_29 : decode cX2_copyFrom 29 = .ok (.aload_n 0, 1) := by decide +kernel
theorem dX2_copyFrom_30 : decode cX2_copyFrom 30 = .ok (.getfield 9, 3) := by decide +kernel
theorem dX2_copyFrom_33 : decode cX2_copyFrom 33 = .ok (.iconst 0, 1) := by decide +kernel
theorem dX2_copyFrom_34 : decode cX2_copyFrom 34 = .ok (.bipush 8, 2) := by decide +kernel
theorem dX2_copyFrom_36 : decode cX2_copyFrom 36 = .ok (.invokestatic 40, 3) := by decide +kernel
theorem dX2_copyFrom_39 : decode cX2_copyFrom 39 = .ok (.aload_n 1, 1) := by decide +kernel
theorem dX2_copyFrom_40 : decode cX2_copyFrom 40 = .ok (.getfield 15, 3) := by decide +kernel
theorem dX2_copyFrom_43 : decode cX2_copyFrom 43 = .ok (.iconst 0, 1) := by decide +kernel
theorem dX2_copyFrom_44 : decode cX2_copyFrom 44 = .ok (.aload_n 0, 1) := by decide +kernel
theorem dX2_copyFrom_45 : decode cX2_copyFrom 45 = .ok (.getfield 15, 3) := by decide +kernel
theorem dX2_copyFrom_48 : decode cX2_copyFrom 48 = .ok (.iconst 0, 1) := by decide +kernel
theorem dX2_copyFrom_49 : decode cX2_copyFrom 49 = .ok (.bipush 8, 2) := by decide +kernel
theorem dX2_copyFrom_51 : decode cX2_copyFrom 51 = .ok (.invokestatic 40, 3) := by decide +kernel
theorem dX2_copyFrom_54 : decode cX2_copyFrom 54 = .ok (.aload_n 1, 1) := by decide +kernel
theorem dX2_copyFrom_55 : decode cX2_copyFrom 55 = .ok (.getfield 18, 3) := by decide +kernel
theorem dX2_copyFrom_58 : decode cX2_copyFrom 58 = .ok (.iconst 0, 1) := by decide +kernel
theorem dX2_copyFrom_59 : decode cX2_copyFrom 59 = .ok (.aload_n 0, 1) := by decide +kernel
theorem dX2_copyFrom_60 : decode cX2_copyFrom 60 = .ok (.getfield 18, 3) := by decide +kernel
theorem dX2_copyFrom_63 : decode cX2_copyFrom 63 = .ok (.iconst 0, 1) := by decide +kernel
theorem dX2_copyFrom_64 : decode cX2_copyFrom 64 = .ok (.bipush 32, 2) := by decide +kernel
theorem dX2_copyFrom_66 : decode cX2_copyFrom 66 = .ok (.invokestatic 40, 3) := by decide +kernel
theorem dX2_copyFrom_69 : decode cX2_copyFrom 69 = .ok (.aload_n 1, 1) := by decide +kernel
theorem dX2_copyFrom_70 : decode cX2_copyFrom 70 = .ok (.getfield 21, 3) := by decide +kernel
theorem dX2_copyFrom_73 : decode cX2_copyFrom 73 = .ok (.iconst 0, 1) := by decide +kernel
theorem dX2_copyFrom_74 : decode cX2_copyFrom 74 = .ok (.aload_n 0, 1) := by decide +kernel
theorem dX2_copyFrom_75 : decode cX2_copyFrom 75 = .ok (.getfield 21, 3) := by decide +kernel
theorem dX2_copyFrom_78 : decode cX2_copyFrom 78 = .ok (.iconst 0, 1) := by decide +kernel
theorem dX2_copyFrom_79 : decode cX2_copyFrom 79 = .ok (.sipush 384, 3) := by decide +kernel
theorem dX2_copyFrom_82 : decode cX2_copyFrom 82 = .ok (.invokestatic 40, 3) := by decide +kernel
theorem dX2_copyFrom_85 : decode cX2_copyFrom 85 = .ok (.return_, 1) := by decide +kernel
theorem dX2_isStrong_0 : decode cX2_isStrong 0 = .ok (.aload_n 0, 1) := by decide +kernel
theorem dX2_isStrong_1 : decode cX2_isStrong 1 = .ok (.getfield 28, 3) := by decide +kernel
theorem dX2_isStrong_4 : decode cX2_isStrong 4 = .ok (.iload_n 1, 1) := by decide +kernel
theorem dX2_isStrong_5 : decode cX2_isStrong 5 = .ok (.invokestatic 46, 3) := by decide +kernel
theorem dX2_isStrong_8 : decode cX2_isStrong 8 = .ok (.ifCond .ne 7, 3) := by decide +kernel
theorem dX2_isStrong_11 : decode cX2_isStrong 11 = .ok (.iconst 1, 1) := by decide +kernel
theorem dX2_isStrong_12 : decode cX2_isStrong 12 = .ok (.goto 4, 3) := by decide +kernel
theorem dX2_isStrong_15 : decode cX2_isStrong 15 = .ok (.iconst 0, 1) := by decide +kernel
theorem dX2_isStrong_16 : decode cX2_isStrong 16 = .ok (.ireturn, 1) := by decide +kernel
theorem dX2_worthOf_0 : decode cX2_worthOf 0 = .ok (.iconst 0, 1) := by decide +kernel
theorem dX2_worthOf_1 : decode cX2_worthOf 1 = .ok (.istore_n 3, 1) := by decide +kernel
theorem dX2_worthOf_2 : decode cX2_worthOf 2 = .ok (.iconst 0, 1) := by decide +kernel
theorem dX2_worthOf_3 : decode cX2_worthOf 3 = .ok (.istore 4, 2) := by decide +kernel
theorem dX2_worthOf_5 : decode cX2_worthOf 5 = .ok (.iload 4, 2) := by decide +kernel
theorem dX2_worthOf_7 : decode cX2_worthOf 7 = .ok (.aload_n 0, 1) := by decide +kernel
theorem dX2_worthOf_8 : decode cX2_worthOf 8 = .ok (.getfield 24, 3) := by decide +kernel
theorem dX2_worthOf_11 : decode cX2_worthOf 11 = .ok (.if_icmp .ge 40, 3) := by decide +kernel
theorem dX2_worthOf_14 : decode cX2_worthOf 14 = .ok (.iload_n 3, 1) := by decide +kernel
theorem dX2_worthOf_15 : decode cX2_worthOf 15 = .ok (.aload_n 0, 1) := by decide +kernel
theorem dX2_worthOf_16 : decode cX2_worthOf 16 = .ok (.getfield 9, 3) := by decide +kernel
theorem dX2_worthOf_19 : decode cX2_worthOf 19 = .ok (.iload 4, 2) := by decide +kernel
theorem dX2_worthOf_21 : decode cX2_worthOf 21 = .ok (.iaload, 1) := by decide +kernel
theorem dX2_worthOf_22 : decode cX2_worthOf 22 = .ok (.getstatic 52, 3) := by decide +kernel
theorem dX2_worthOf_25 : decode cX2_worthOf 25 = .ok (.aload_n 0, 1) := by decide +kernel
theorem dX2_worthOf_26 : decode cX2_worthOf 26 = .ok (.lload_n 1, 1) := by decide +kernel
theorem dX2_worthOf_27 : decode cX2_worthOf 27 = .ok (.iload 4, 2) := by decide +kernel
theorem dX2_worthOf_29 : decode cX2_worthOf 29 = .ok (.invokevirtual 55, 3) := by decide +kernel
theorem dX2_worthOf_32 : decode cX2_worthOf 32 = .ok (.getstatic 52, 3) := by decide +kernel
theorem dX2_worthOf_35 : decode cX2_worthOf 35 = .ok (.arraylength, 1) := by decide +kernel
theorem dX2_worthOf_36 : decode cX2_worthOf 36 = .ok (.iconst 1, 1) := by decide +kernel
theorem dX2_worthOf_37 : decode cX2_worthOf 37 = .ok (.isub, 1) := by decide +kernel
theorem dX2_worthOf_38 : decode cX2_worthOf 38 = .ok (.invokestatic 59, 3) := by decide +kernel
theorem dX2_worthOf_41 : decode cX2_worthOf 41 = .ok (.iaload, 1) := by decide +kernel
theorem dX2_worthOf_42 : decode cX2_worthOf 42 = .ok (.imul, 1) := by decide +kernel
theorem dX2_worthOf_43 : decode cX2_worthOf 43 = .ok (.iadd, 1) := by decide +kernel
theorem dX2_worthOf_44 : decode cX2_worthOf 44 = .ok (.istore_n 3, 1) := by decide +kernel
theorem dX2_worthOf_45 : decode cX2_worthOf 45 = .ok (.iinc 4 1, 3) := by decide +kernel
theorem dX2_worthOf_48 : decode cX2_worthOf 48 = .ok (.goto (-43), 3) := by decide +kernel
theorem dX2_worthOf_51 : decode cX2_worthOf 51 = .ok (.iload_n 3, 1) := by decide +kernel
theorem dX2_worthOf_52 : decode cX2_worthOf 52 = .ok (.ireturn, 1) := by decide +kernel
theorem dX2_itemsOf_0 : decode cX2_itemsOf 0 = .ok (.iconst 0, 1) := by decide +kernel
theorem dX2_itemsOf_1 : decode cX2_itemsOf 1 = .ok (.istore_n 3, 1) := by decide +kernel
theorem dX2_itemsOf_2 : decode cX2_itemsOf 2 = .ok (.iconst 0, 1) := by decide +kernel
theorem dX2_itemsOf_3 : decode cX2_itemsOf 3 = .ok (.istore 4, 2) := by decide +kernel
theorem dX2_itemsOf_5 : decode cX2_itemsOf 5 = .ok (.iload 4, 2) := by decide +kernel
theorem dX2_itemsOf_7 : decode cX2_itemsOf 7 = .ok (.aload_n 0, 1) := by decide +kernel
theorem dX2_itemsOf_8 : decode cX2_itemsOf 8 = .ok (.getfield 24, 3) := by decide +kernel
theorem dX2_itemsOf_11 : decode cX2_itemsOf 11 = .ok (.if_icmp .ge 30, 3) := by decide +kernel
theorem dX2_itemsOf_14 : decode cX2_itemsOf 14 = .ok (.iload_n 3, 1) := by decide +kernel
theorem dX2_itemsOf_15 : decode cX2_itemsOf 15 = .ok (.aload_n 0, 1) := by decide +kernel
theorem dX2_itemsOf_16 : decode cX2_itemsOf 16 = .ok (.lload_n 1, 1) := by decide +kernel
theorem dX2_itemsOf_17 : decode cX2_itemsOf 17 = .ok (.iload 4, 2) := by decide +kernel
theorem dX2_itemsOf_19 : decode cX2_itemsOf 19 = .ok (.invokevirtual 55, 3) := by decide +kernel
theorem dX2_itemsOf_22 : decode cX2_itemsOf 22 = .ok (.ifCond .le 10, 3) := by decide +kernel
theorem dX2_itemsOf_25 : decode cX2_itemsOf 25 = .ok (.iconst 1, 1) := by decide +kernel
theorem dX2_itemsOf_26 : decode cX2_itemsOf 26 = .ok (.iload 4, 2) := by decide +kernel
theorem dX2_itemsOf_28 : decode cX2_itemsOf 28 = .ok (.ishl, 1) := by decide +kernel
theorem dX2_itemsOf_29 : decode cX2_itemsOf 29 = .ok (.goto 4, 3) := by decide +kernel
theorem dX2_itemsOf_32 : decode cX2_itemsOf 32 = .ok (.iconst 0, 1) := by decide +kernel
theorem dX2_itemsOf_33 : decode cX2_itemsOf 33 = .ok (.ior, 1) := by decide +kernel
theorem dX2_itemsOf_34 : decode cX2_itemsOf 34 = .ok (.istore_n 3, 1) := by decide +kernel
theorem dX2_itemsOf_35 : decode cX2_itemsOf 35 = .ok (.iinc 4 1, 3) := by decide +kernel
theorem dX2_itemsOf_38 : decode cX2_itemsOf 38 = .ok (.goto (-33), 3) := by decide +kernel
theorem dX2_itemsOf_41 : decode cX2_itemsOf 41 = .ok (.iload_n 3, 1) := by decide +kernel
theorem dX2_itemsOf_42 : decode cX2_itemsOf 42 = .ok (.ireturn, 1) := by decide +kernel
theorem dX3_skipBlanks_0 : decode cX3_skipBlanks 0 = .ok (.aload_n 0, 1) := by decide +kernel
theorem dX3_skipBlanks_1 : decode cX3_skipBlanks 1 = .ok (.getfield 19, 3) := by decide +kernel
theorem dX3_skipBlanks_4 : decode cX3_skipBlanks 4 = .ok (.aload_n 0, 1) := by decide +kernel
theorem dX3_skipBlanks_5 : decode cX3_skipBlanks 5 = .ok (.getfield 9, 3) := by decide +kernel
theorem dX3_skipBlanks_8 : decode cX3_skipBlanks 8 = .ok (.getfield 34, 3) := by decide +kernel
theorem dX3_skipBlanks_11 : decode cX3_skipBlanks 11 = .ok (.if_icmp .ge 33, 3) := by decide +kernel
theorem dX3_skipBlanks_14 : decode cX3_skipBlanks 14 = .ok (.aload_n 0, 1) := by decide +kernel
theorem dX3_skipBlanks_15 : decode cX3_skipBlanks 15 = .ok (.getfield 9, 3) := by decide +kernel
theorem dX3_skipBlanks_18 : decode cX3_skipBlanks 18 = .ok (.aload_n 0, 1) := by decide +kernel
theorem dX3_skipBlanks_19 : decode cX3_skipBlanks 19 = .ok (.getfield 19, 3) := by decide +kernel
theorem dX3_skipBlanks_22 : decode cX3_skipBlanks 22 = .ok (.invokevirtual 55, 3) := by decide +kernel
theorem dX3_skipBlanks_25 : decode cX3_skipBlanks 25 = .ok (.invokestatic 75, 3) := by decide +kernel
theorem dX3_skipBlanks_28 : decode cX3_skipBlanks 28 = .ok (.ifCond .eq 16, 3) := by decide +kernel
theorem dX3_skipBlanks_31 : decode cX3_skipBlanks 31 = .ok (.aload_n 0, 1) := by decide +kernel
theorem dX3_skipBlanks_32 : decode cX3_skipBlanks 32 = .ok (.dup, 1) := by decide +kernel
theorem dX3_skipBlanks_33 : decode cX3_skipBlanks 33 = .ok (.getfield 19, 3) := by decide +kernel
theorem dX3_skipBlanks_36 : decode cX3_skipBlanks 36 = .ok (.iconst 1, 1) := by decide +kernel
theorem dX3_skipBlanks_37 : decode cX3_skipBlanks 37 = .ok (.iadd, 1) := by decide +kernel
theorem dX3_skipBlanks_38 : decode cX3_skipBlanks 38 = .ok (.putfield 19, 3) := by decide +kernel
theorem dX3_skipBlanks_41 : decode cX3_skipBlanks 41 = .ok (.goto (-41), 3) := by decide +kernel
theorem dX3_skipBlanks_44 : decode cX3_skipBlanks 44 = .ok (.return_, 1) := by decide +kernel
theorem dX3_lettersHere_0 : decode cX3_lettersHere 0 = .ok (.iconst 0, 1) := by decide +kernel
theorem dX3_lettersHere_1 : decode cX3_lettersHere 1 = .ok (.istore_n 1, 1) := by decide +kernel
theorem dX3_lettersHere_2 : decode cX3_lettersHere 2 = .ok (.aload_n 0, 1) := by decide +kernel
theorem dX3_lettersHere_3 : decode cX3_lettersHere 3 = .ok (.getfield 19, 3) := by decide +kernel
theorem dX3_lettersHere_6 : decode cX3_lettersHere 6 = .ok (.iload_n 1, 1) := by decide +kernel
theorem dX3_lettersHere_7 : decode cX3_lettersHere 7 = .ok (.iadd, 1) := by decide +kernel
theorem dX3_lettersHere_8 : decode cX3_lettersHere 8 = .ok (.aload_n 0, 1) := by decide +kernel
theorem dX3_lettersHere_9 : decode cX3_lettersHere 9 = .ok (.getfield 9, 3) := by decide +kernel
theorem dX3_lettersHere_12 : decode cX3_lettersHere 12 = .ok (.getfield 34, 3) := by decide +kernel
theorem dX3_lettersHere_15 : decode cX3_lettersHere 15 = .ok (.if_icmp .ge 28, 3) := by decide +kernel
theorem dX3_lettersHere_18 : decode cX3_lettersHere 18 = .ok (.aload_n 0, 1) := by decide +kernel
theorem dX3_lettersHere_19 : decode cX3_lettersHere 19 = .ok (.getfield 9, 3) := by decide +kernel
theorem dX3_lettersHere_22 : decode cX3_lettersHere 22 = .ok (.aload_n 0, 1) := by decide +kernel
theorem dX3_lettersHere_23 : decode cX3_lettersHere 23 = .ok (.getfield 19, 3) := by decide +kernel
theorem dX3_lettersHere_26 : decode cX3_lettersHere 26 = .ok (.iload_n 1, 1) := by decide +kernel
theorem dX3_lettersHere_27 : decode cX3_lettersHere 27 = .ok (.iadd, 1) := by decide +kernel
theorem dX3_lettersHere_28 : decode cX3_lettersHere 28 = .ok (.invokevirtual 55, 3) := by decide +kernel
theorem dX3_lettersHere_31 : decode cX3_lettersHere 31 = .ok (.invokestatic 78, 3) := by decide +kernel
theorem dX3_lettersHere_34 : decode cX3_lettersHere 34 = .ok (.ifCond .eq 9, 3) := by decide +kernel
theorem dX3_lettersHere_37 : decode cX3_lettersHere 37 = .ok (.iinc 1 1, 3) := by decide +kernel
theorem dX3_lettersHere_40 : decode cX3_lettersHere 40 = .ok (.goto (-38), 3) := by decide +kernel
theorem dX3_lettersHere_43 : decode cX3_lettersHere 43 = .ok (.iload_n 1, 1) := by decide +kernel
theorem dX3_lettersHere_44 : decode cX3_lettersHere 44 = .ok (.ireturn, 1) := by decide +kernel
theorem dX3_isWordHere_0 : decode cX3_isWordHere 0 = .ok (.aload_n 1, 1) := by decide +kernel
theorem dX3_isWordHere_1 : decode cX3_isWordHere 1 = .ok (.invokevirtual 81, 3) := by decide +kernel
theorem dX3_isWordHere_4 : decode cX3_isWordHere 4 = .ok (.istore_n 2, 1) := by decide +kernel
theorem dX3_isWordHere_5 : decode cX3_isWordHere 5 = .ok (.aload_n 0, 1) := by decide +kernel
theorem dX3_isWordHere_6 : decode cX3_isWordHere 6 = .ok (.invokevirtual 51, 3) := by decide +kernel
theorem dX3_isWordHere_9 : decode cX3_isWordHere 9 = .ok (.iload_n 2, 1) := by decide +kernel
theorem dX3_isWordHere_10 : decode cX3_isWordHere 10 = .ok (.if_icmp .eq 5, 3) := by decide +kernel
theorem dX3_isWordHere_13 : decode cX3_isWordHere 13 = .ok (.iconst 0, 1) := by decide +kernel
theorem dX3_isWordHere_14 : decode cX3_isWordHere 14 = .ok (.ireturn, 1) := by decide +kernel
theorem dX3_isWordHere_15 : decode cX3_isWordHere 15 = .ok (.iconst 0, 1) := by decide +kernel
theorem dX3_isWordHere_16 : decode cX3_isWordHere 16 = .ok (.istore_n 3, 1) := by decide +kernel
theorem dX3_isWordHere_17 : decode cX3_isWordHere 17 = .ok (.iload_n 3, 1) := by decide +kernel
theorem dX3_isWordHere_18 : decode cX3_isWordHere 18 = .ok (.iload_n 2, 1) := by decide +kernel
theorem dX3_isWordHere_19 : decode cX3_isWordHere 19 = .ok (.if_icmp .ge 32, 3) := by decide +kernel
theorem dX3_isWordHere_22 : decode cX3_isWordHere 22 = .ok (.aload_n 0, 1) := by decide +kernel
theorem dX3_isWordHere_23 : decode cX3_isWordHere 23 = .ok (.getfield 9, 3) := by decide +kernel
theorem dX3_isWordHere_26 : decode cX3_isWordHere 26 = .ok (.aload_n 0, 1) := by decide +kernel
theorem dX3_isWordHere_27 : decode cX3_isWordHere 27 = .ok (.getfield 19, 3) := by decide +kernel
theorem dX3_isWordHere_30 : decode cX3_isWordHere 30 = .ok (.iload_n 3, 1) := by decide +kernel
theorem dX3_isWordHere_31 : decode cX3_isWordHere 31 = .ok (.iadd, 1) := by decide +kernel
theorem dX3_isWordHere_32 : decode cX3_isWordHere 32 = .ok (.invokevirtual 55, 3) := by decide +kernel
theorem dX3_isWordHere_35 : decode cX3_isWordHere 35 = .ok (.aload_n 1, 1) := by decide +kernel
theorem dX3_isWordHere_36 : decode cX3_isWordHere 36 = .ok (.iload_n 3, 1) := by decide +kernel
theorem dX3_isWordHere_37 : decode cX3_isWordHere 37 = .ok (.invokevirtual 85, 3) := by decide +kernel
theorem dX3_isWordHere_40 : decode cX3_isWordHere 40 = .ok (.if_icmp .eq 5, 3) := by decide +kernel
theorem dX3_isWordHere_43 : decode cX3_isWordHere 43 = .ok (.iconst 0, 1) := by decide +kernel
theorem dX3_isWordHere_44 : decode cX3_isWordHere 44 = .ok (.ireturn, 1) := by decide +kernel
theorem dX3_isWordHere_45 : decode cX3_isWordHere 45 = .ok (.iinc 3 1, 3) := by decide +kernel
theorem dX3_isWordHere_48 : decode cX3_isWordHere 48 = .ok (.goto (-31), 3) := by decide +kernel
theorem dX3_isWordHere_51 : decode cX3_isWordHere 51 = .ok (.iconst 1, 1) := by decide +kernel
theorem dX3_isWordHere_52 : decode cX3_isWordHere 52 = .ok (.ireturn, 1) := by decide +kernel
theorem dX9_isDigit_0 : decode cX9_isDigit 0 = .ok (.iload_n 0, 1) := by decide +kernel
theorem dX9_isDigit_1 : decode cX9_isDigit 1 = .ok (.bipush 48, 2) := by decide +kernel
theorem dX9_isDigit_3 : decode cX9_isDigit 3 = .ok (.if_icmp .lt 13, 3) := by decide +kernel
theorem dX9_isDigit_6 : decode cX9_isDigit 6 = .ok (.iload_n 0, 1) := by decide +kernel
theorem dX9_isDigit_7 : decode cX9_isDigit 7 = .ok (.bipush 57, 2) := by decide +kernel
theorem dX9_isDigit_9 : decode cX9_isDigit 9 = .ok (.if_icmp .gt 7, 3) := by decide +kernel
theorem dX9_isDigit_12 : decode cX9_isDigit 12 = .ok (.iconst 1, 1) := by decide +kernel
theorem dX9_isDigit_13 : decode cX9_isDigit 13 = .ok (.goto 4, 3) := by decide +kernel
theorem dX9_isDigit_16 : decode cX9_isDigit 16 = .ok (.iconst 0, 1) := by decide +kernel
theorem dX9_isDigit_17 : decode cX9_isDigit 17 = .ok (.ireturn, 1) := by decide +kernel
theorem dX3_readTerms_0 : decode cX3_readTerms 0 = .ok (.iconst 0, 1) := by decide +kernel
theorem dX3_readTerms_1 : decode cX3_readTerms 1 = .ok (.istore_n 1, 1) := by decide +kernel
theorem dX3_readTerms_2 : decode cX3_readTerms 2 = .ok (.iload_n 1, 1) := by decide +kernel
theorem dX3_readTerms_3 : decode cX3_readTerms 3 = .ok (.iconst 4, 1) := by decide +kernel
theorem dX3_readTerms_4 : decode cX3_readTerms 4 = .ok (.if_icmp .gt 134, 3) := by decide +kernel
theorem dX3_readTerms_7 : decode cX3_readTerms 7 = .ok (.aload_n 0, 1) := by decide +kernel
theorem dX3_readTerms_8 : decode cX3_readTerms 8 = .ok (.invokevirtual 31, 3) := by decide +kernel
theorem dX3_readTerms_11 : decode cX3_readTerms 11 = .ok (.iload_n 1, 1) := by decide +kernel
theorem dX3_readTerms_12 : decode cX3_readTerms 12 = .ok (.ifCond .le 30, 3) := by decide +kernel
theorem dX3_readTerms_15 : decode cX3_readTerms 15 = .ok (.aload_n 0, 1) := by decide +kernel
theorem dX3_readTerms_16 : decode cX3_readTerms 16 = .ok (.getfield 9, 3) := by decide +kernel
theorem dX3_readTerms_19 : decode cX3_readTerms 19 = .ok (.aload_n 0, 1) := by decide +kernel
theorem dX3_readTerms_20 : decode cX3_readTerms 20 = .ok (.getfield 19, 3) := by decide +kernel
theorem dX3_readTerms_23 : decode cX3_readTerms 23 = .ok (.invokevirtual 55, 3) := by decide +kernel
theorem dX3_readTerms_26 : decode cX3_readTerms 26 = .ok (.bipush 59, 2) := by decide +kernel
theorem dX3_readTerms_28 : decode cX3_readTerms 28 = .ok (.if_icmp .ne 14, 3) := by decide +kernel
theorem dX3_readTerms_31 : decode cX3_readTerms 31 = .ok (.aload_n 0, 1) := by decide +kernel
theorem dX3_readTerms_32 : decode cX3_readTerms 32 = .ok (.dup, 1) := by decide +kernel
theorem dX3_readTerms_33 : decode cX3_readTerms 33 = .ok (.getfield 19, 3) := by decide +kernel
theorem dX3_readTerms_36 : decode cX3_readTerms 36 = .ok (.iconst 1, 1) := by decide +kernel
theorem dX3_readTerms_37 : decode cX3_readTerms 37 = .ok (.iadd, 1) := by decide +kernel
theorem dX3_readTerms_38 : decode cX3_readTerms 38 = .ok (.putfield 19, 3) := by decide +kernel
theorem dX3_readTerms_41 : decode cX3_readTerms 41 = .ok (.return_, 1) := by decide +kernel
theorem dX3_readTerms_42 : decode cX3_readTerms 42 = .ok (.aload_n 0, 1) := by decide +kernel
theorem dX3_readTerms_43 : decode cX3_readTerms 43 = .ok (.invokevirtual 51, 3) := by decide +kernel
theorem dX3_readTerms_46 : decode cX3_readTerms 46 = .ok (.istore_n 2, 1) := by decide +kernel
theorem dX3_readTerms_47 : decode cX3_readTerms 47 = .ok (.iload_n 2, 1) := by decide +kernel
theorem dX3_readTerms_48 : decode cX3_readTerms 48 = .ok (.ifCond .eq 14, 3) := by decide +kernel
theorem dX3_readTerms_51 : decode cX3_readTerms 51 = .ok (.iload_n 2, 1) := by decide +kernel
theorem dX3_readTerms_52 : decode cX3_readTerms 52 = .ok (.bipush 12, 2) := by decide +kernel
theorem dX3_readTerms_54 : decode cX3_readTerms 54 = .ok (.if_icmp .gt 8, 3) := by decide +kernel
theorem dX3_readTerms_57 : decode cX3_readTerms 57 = .ok (.iload_n 1, 1) := by decide +kernel
theorem dX3_readTerms_58 : decode cX3_readTerms 58 = .ok (.iconst 4, 1) := by decide +kernel
theorem dX3_readTerms_59 : decode cX3_readTerms 59 = .ok (.if_icmp .ne 12, 3) := by decide +kernel
theorem dX3_readTerms_62 : decode cX3_readTerms 62 = .ok (.aload_n 0, 1) := by decide +kernel
theorem dX3_readTerms_63 : decode cX3_readTerms 63 = .ok (.aload_n 0, 1) := by decide +kernel
theorem dX3_readTerms_64 : decode cX3_readTerms 64 = .ok (.getfield 19, 3) := by decide +kernel
theorem dX3_readTerms_67 : decode cX3_readTerms 67 = .ok (.putfield 23, 3) := by decide +kernel
theorem dX3_readTerms_70 : decode cX3_readTerms 70 = .ok (.return_, 1) := by decide +kernel
theorem dX3_readTerms_71 : decode cX3_readTerms 71 = .ok (.aload_n 0, 1) := by decide +kernel
theorem dX3_readTerms_72 : decode cX3_readTerms 72 = .ok (.getfield 9, 3) := by decide +kernel
theorem dX3_readTerms_75 : decode cX3_readTerms 75 = .ok (.aload_n 0, 1) := by decide +kernel
theorem dX3_readTerms_76 : decode cX3_readTerms 76 = .ok (.getfield 19, 3) := by decide +kernel
theorem dX3_readTerms_79 : decode cX3_readTerms 79 = .ok (.iload_n 2, 1) := by decide +kernel
theorem dX3_readTerms_80 : decode cX3_readTerms 80 = .ok (.iadd, 1) := by decide +kernel
theorem dX3_readTerms_81 : decode cX3_readTerms 81 = .ok (.invokevirtual 55, 3) := by decide +kernel
theorem dX3_readTerms_84 : decode cX3_readTerms 84 = .ok (.bipush 42, 2) := by decide +kernel
theorem dX3_readTerms_86 : decode cX3_readTerms 86 = .ok (.if_icmp .ne 7, 3) := by decide +kernel
theorem dX3_readTerms_89 : decode cX3_readTerms 89 = .ok (.iconst 1, 1) := by decide +kernel
theorem dX3_readTerms_90 : decode cX3_readTerms 90 = .ok (.goto 4, 3) := by decide +kernel
theorem dX3_readTerms_93 : decode cX3_readTerms 93 = .ok (.iconst 0, 1) := by decide +kernel
theorem dX3_readTerms_94 : decode cX3_readTerms 94 = .ok (.istore_n 3, 1) := by decide +kernel
theorem dX3_readTerms_95 : decode cX3_readTerms 95 = .ok (.aload_n 0, 1) := by decide +kernel
theorem dX3_readTerms_96 : decode cX3_readTerms 96 = .ok (.getfield 15, 3) := by decide +kernel
theorem dX3_readTerms_99 : decode cX3_readTerms 99 = .ok (.aload_n 0, 1) := by decide +kernel
theorem dX3_readTerms_100 : decode cX3_readTerms 100 = .ok (.getfield 9, 3) := by decide +kernel
theorem dX3_readTerms_103 : decode cX3_readTerms 103 = .ok (.aload_n 0, 1) := by decide +kernel
theorem dX3_readTerms_104 : decode cX3_readTerms 104 = .ok (.getfield 19, 3) := by decide +kernel
theorem dX3_readTerms_107 : decode cX3_readTerms 107 = .ok (.iload_n 2, 1) := by decide +kernel
theorem dX3_readTerms_108 : decode cX3_readTerms 108 = .ok (.iload_n 3, 1) := by decide +kernel
theorem dX3_readTerms_109 : decode cX3_readTerms 109 = .ok (.invokevirtual 71, 3) := by decide +kernel
theorem dX3_readTerms_112 : decode cX3_readTerms 112 = .ok (.aload_n 0, 1) := by decide +kernel
theorem dX3_readTerms_113 : decode cX3_readTerms 113 = .ok (.dup, 1) := by decide +kernel
theorem dX3_readTerms_114 : decode cX3_readTerms 114 = .ok (.getfield 19, 3) := by decide +kernel
theorem dX3_readTerms_117 : decode cX3_readTerms 117 = .ok (.iload_n 3, 1) := by decide +kernel
theorem dX3_readTerms_118 : decode cX3_readTerms 118 = .ok (.ifCond .eq 9, 3) := by decide +kernel
theorem dX3_readTerms_121 : decode cX3_readTerms 121 = .ok (.iload_n 2, 1) := by decide +kernel
theorem dX3_readTerms_122 : decode cX3_readTerms 122 = .ok (.iconst 1, 1) := by decide +kernel
theorem dX3_readTerms_123 : decode cX3_readTerms 123 = .ok (.iadd, 1) := by decide +kernel
theorem dX3_readTerms_124 : decode cX3_readTerms 124 = .ok (.goto 4, 3) := by decide +kernel
theorem dX3_readTerms_127 : decode cX3_readTerms 127 = .ok (.iload_n 2, 1) := by decide +kernel
theorem dX3_readTerms_128 : decode cX3_readTerms 128 = .ok (.iadd, 1) := by decide +kernel
theorem dX3_readTerms_129 : decode cX3_readTerms 129 = .ok (.putfield 19, 3) := by decide +kernel
theorem dX3_readTerms_132 : decode cX3_readTerms 132 = .ok (.iinc 1 1, 3) := by decide +kernel
theorem dX3_readTerms_135 : decode cX3_readTerms 135 = .ok (.goto (-133), 3) := by decide +kernel
theorem dX3_readTerms_138 : decode cX3_readTerms 138 = .ok (.return_, 1) := by decide +kernel
theorem dX3_readItem_0 : decode cX3_readItem 0 = .ok (.aload_n 0, 1) := by decide +kernel
theorem dX3_readItem_1 : decode cX3_readItem 1 = .ok (.getfield 15, 3) := by decide +kernel
theorem dX3_readItem_4 : decode cX3_readItem 4 = .ok (.getfield 42, 3) := by decide +kernel
theorem dX3_readItem_7 : decode cX3_readItem 7 = .ok (.bipush 8, 2) := by decide +kernel
theorem dX3_readItem_9 : decode cX3_readItem 9 = .ok (.if_icmp .eq 12, 3) := by decide +kernel
theorem dX3_readItem_12 : decode cX3_readItem 12 = .ok (.aload_n 0, 1) := by decide +kernel
theorem dX3_readItem_13 : decode cX3_readItem 13 = .ok (.ldc 45, 2) := by decide +kernel
theorem dX3_readItem_15 : decode cX3_readItem 15 = .ok (.invokevirtual 47, 3) := by decide +kernel
theorem dX3_readItem_18 : decode cX3_readItem 18 = .ok (.ifCond .ne 12, 3) := by decide +kernel
theorem dX3_readItem_21 : decode cX3_readItem 21 = .ok (.aload_n 0, 1) := by decide +kernel
theorem dX3_readItem_22 : decode cX3_readItem 22 = .ok (.aload_n 0, 1) := by decide +kernel
theorem dX3_readItem_23 : decode cX3_readItem 23 = .ok (.getfield 19, 3) := by decide +kernel
theorem dX3_readItem_26 : decode cX3_readItem 26 = .ok (.putfield 23, 3) := by decide +kernel
theorem dX3_readItem_29 : decode cX3_readItem 29 = .ok (.return_, 1) := by decide +kernel
theorem dX3_readItem_30 : decode cX3_readItem 30 = .ok (.aload_n 0, 1) := by decide +kernel
theorem dX3_readItem_31 : decode cX3_readItem 31 = .ok (.dup, 1) := by decide +kernel
theorem dX3_readItem_32 : decode cX3_readItem 32 = .ok (.getfield 19, 3) := by decide +kernel
theorem dX3_readItem_35 : decode cX3_readItem 35 = .ok (.aload_n 0, 1) := by decide +kernel
theorem dX3_readItem_36 : decode cX3_readItem 36 = .ok (.invokevirtual 51, 3) := by decide +kernel
theorem dX3_readItem_39 : decode cX3_readItem 39 = .ok (.iadd, 1) := by decide +kernel
theorem dX3_readItem_40 : decode cX3_readItem 40 = .ok (.putfield 19, 3) := by decide +kernel
theorem dX3_readItem_43 : decode cX3_readItem 43 = .ok (.aload_n 0, 1) := by decide +kernel
theorem dX3_readItem_44 : decode cX3_readItem 44 = .ok (.invokevirtual 31, 3) := by decide +kernel
theorem dX3_readItem_47 : decode cX3_readItem 47 = .ok (.aload_n 0, 1) := by decide +kernel
theorem dX3_readItem_48 : decode cX3_readItem 48 = .ok (.getfield 9, 3) := by decide +kernel
theorem dX3_readItem_51 : decode cX3_readItem 51 = .ok (.aload_n 0, 1) := by decide +kernel
theorem dX3_readItem_52 : decode cX3_readItem 52 = .ok (.getfield 19, 3) := by decide +kernel
theorem dX3_readItem_55 : decode cX3_readItem 55 = .ok (.invokevirtual 55, 3) := by decide +kernel
theorem dX3_readItem_58 : decode cX3_readItem 58 = .ok (.istore_n 1, 1) := by decide +kernel
theorem dX3_readItem_59 : decode cX3_readItem 59 = .ok (.iload_n 1, 1) := by decide +kernel
theorem dX3_readItem_60 : decode cX3_readItem 60 = .ok (.bipush 48, 2) := by decide +kernel
theorem dX3_readItem_62 : decode cX3_readItem 62 = .ok (.if_icmp .le 28, 3) := by decide +kernel
theorem dX3_readItem_65 : decode cX3_readItem 65 = .ok (.iload_n 1, 1) := by decide +kernel
theorem dX3_readItem_66 : decode cX3_readItem 66 = .ok (.bipush 57, 2) := by decide +kernel
theorem dX3_readItem_68 : decode cX3_readItem 68 = .ok (.if_icmp .gt 22, 3) := by decide +kernel
theorem dX3_readItem_71 : decode cX3_readItem 71 = .ok (.aload_n 0, 1) := by decide +kernel
theorem dX3_readItem_72 : decode cX3_readItem 72 = .ok (.getfield 9, 3) := by decide +kernel
theorem dX3_readItem_75 : decode cX3_readItem 75 = .ok (.aload_n 0, 1) := by decide +kernel
theorem dX3_readItem_76 : decode cX3_readItem 76 = .ok (.getfield 19, 3) := by decide +kernel
theorem dX3_readItem_79 : decode cX3_readItem 79 = .ok (.iconst 1, 1) := by decide +kernel
theorem dX3_readItem_80 : decode cX3_readItem 80 = .ok (.iadd, 1) := by decide +kernel
theorem dX3_readItem_81 : decode cX3_readItem 81 = .ok (.invokevirtual 55, 3) := by decide +kernel
theorem dX3_readItem_84 : decode cX3_readItem 84 = .ok (.invokestatic 58, 3) := by decide +kernel
theorem dX3_readItem_87 : decode cX3_readItem 87 = .ok (.ifCond .eq 12, 3) := by decide +kernel
theorem dX3_readItem_90 : decode cX3_readItem 90 = .ok (.aload_n 0, 1) := by decide +kernel
theorem dX3_readItem_91 : decode cX3_readItem 91 = .ok (.aload_n 0, 1) := by decide +kernel
theorem dX3_readItem_92 : decode cX3_readItem 92 = .ok (.getfield 19, 3) := by decide +kernel
theorem dX3_readItem_95 : decode cX3_readItem 95 = .ok (.putfield 23, 3) := by decide +kernel
theorem dX3_readItem_98 : decode cX3_readItem 98 = .ok (.return_, 1) := by decide +kernel
theorem dX3_readItem_99 : decode cX3_readItem 99 = .ok (.aload_n 0, 1) := by decide +kernel
theorem dX3_readItem_100 : decode cX3_readItem 100 = .ok (.dup, 1) := by decide +kernel
theorem dX3_readItem_101 : decode cX3_readItem 101 = .ok (.getfield 19, 3) := by decide +kernel
theorem dX3_readItem_104 : decode cX3_readItem 104 = .ok (.iconst 1, 1) := by decide +kernel
theorem dX3_readItem_105 : decode cX3_readItem 105 = .ok (.iadd, 1) := by decide +kernel
theorem dX3_readItem_106 : decode cX3_readItem 106 = .ok (.putfield 19, 3) := by decide +kernel
theorem dX3_readItem_109 : decode cX3_readItem 109 = .ok (.aload_n 0, 1) := by decide +kernel
theorem dX3_readItem_110 : decode cX3_readItem 110 = .ok (.invokevirtual 31, 3) := by decide +kernel
theorem dX3_readItem_113 : decode cX3_readItem 113 = .ok (.aload_n 0, 1) := by decide +kernel
theorem dX3_readItem_114 : decode cX3_readItem 114 = .ok (.ldc 62, 2) := by decide +kernel
theorem dX3_readItem_116 : decode cX3_readItem 116 = .ok (.invokevirtual 47, 3) := by decide +kernel
theorem dX3_readItem_119 : decode cX3_readItem 119 = .ok (.istore_n 2, 1) := by decide +kernel
theorem dX3_readItem_120 : decode cX3_readItem 120 = .ok (.iload_n 2, 1) := by decide +kernel
theorem dX3_readItem_121 : decode cX3_readItem 121 = .ok (.ifCond .eq 16, 3) := by decide +kernel
theorem dX3_readItem_124 : decode cX3_readItem 124 = .ok (.aload_n 0, 1) := by decide +kernel
theorem dX3_readItem_125 : decode cX3_readItem 125 = .ok (.dup, 1) := by decide +kernel
theorem dX3_readItem_126 : decode cX3_readItem 126 = .ok (.getfield 19, 3) := by decide +kernel
theorem dX3_readItem_129 : decode cX3_readItem 129 = .ok (.aload_n 0, 1) := by decide +kernel
theorem dX3_readItem_130 : decode cX3_readItem 130 = .ok (.invokevirtual 51, 3) := by decide +kernel
theorem dX3_readItem_133 : decode cX3_readItem 133 = .ok (.iadd, 1) := by decide +kernel
theorem dX3_readItem_134 : decode cX3_readItem 134 = .ok (.putfield 19, 3) := by decide +kernel
theorem dX3_readItem_137 : decode cX3_readItem 137 = .ok (.aload_n 0, 1) := by decide +kernel
theorem dX3_readItem_138 : decode cX3_readItem 138 = .ok (.getfield 15, 3) := by decide +kernel
theorem dX3_readItem_141 : decode cX3_readItem 141 = .ok (.iload_n 1, 1) := by decide +kernel
theorem dX3_readItem_142 : decode cX3_readItem 142 = .ok (.bipush 48, 2) := by decide +kernel
theorem dX3_readItem_144 : decode cX3_readItem 144 = .ok (.isub, 1) := by decide +kernel
theorem dX3_readItem_145 : decode cX3_readItem 145 = .ok (.iload_n 2, 1) := by decide +kernel
theorem dX3_readItem_146 : decode cX3_readItem 146 = .ok (.invokevirtual 64, 3) := by decide +kernel
theorem dX3_readItem_149 : decode cX3_readItem 149 = .ok (.aload_n 0, 1) := by decide +kernel
theorem dX3_readItem_150 : decode cX3_readItem 150 = .ok (.invokevirtual 68, 3) := by decide +kernel
theorem dX3_readItem_153 : decode cX3_readItem 153 = .ok (.return_, 1) := by decide +kernel
theorem dX3_readAll_0 : decode cX3_readAll 0 = .ok (.aload_n 0, 1) := by decide +kernel
theorem dX3_readAll_1 : decode cX3_readAll 1 = .ok (.iconst 0, 1) := by decide +kernel
theorem dX3_readAll_2 : decode cX3_readAll 2 = .ok (.putfield 19, 3) := by decide +kernel
theorem dX3_readAll_5 : decode cX3_readAll 5 = .ok (.aload_n 0, 1) := by decide +kernel
theorem dX3_readAll_6 : decode cX3_readAll 6 = .ok (.iconst (-1), 1) := by decide +kernel
theorem dX3_readAll_7 : decode cX3_readAll 7 = .ok (.putfield 23, 3) := by decide +kernel
theorem dX3_readAll_10 : decode cX3_readAll 10 = .ok (.aload_n 0, 1) := by decide +kernel
theorem dX3_readAll_11 : decode cX3_readAll 11 = .ok (.getfield 15, 3) := by decide +kernel
theorem dX3_readAll_14 : decode cX3_readAll 14 = .ok (.invokevirtual 26, 3) := by decide +kernel
theorem dX3_readAll_17 : decode cX3_readAll 17 = .ok (.aload_n 0, 1) := by decide +kernel
theorem dX3_readAll_18 : decode cX3_readAll 18 = .ok (.invokevirtual 31, 3) := by decide +kernel
theorem dX3_readAll_21 : decode cX3_readAll 21 = .ok (.iconst 0, 1) := by decide +kernel
theorem dX3_readAll_22 : decode cX3_readAll 22 = .ok (.istore_n 1, 1) := by decide +kernel
theorem dX3_readAll_23 : decode cX3_readAll 23 = .ok (.iload_n 1, 1) := by decide +kernel
theorem dX3_readAll_24 : decode cX3_readAll 24 = .ok (.bipush 8, 2) := by decide +kernel
theorem dX3_readAll_26 : decode cX3_readAll 26 = .ok (.if_icmp .gt 39, 3) := by decide +kernel
theorem dX3_readAll_29 : decode cX3_readAll 29 = .ok (.aload_n 0, 1) := by decide +kernel
theorem dX3_readAll_30 : decode cX3_readAll 30 = .ok (.getfield 19, 3) := by decide +kernel
theorem dX3_readAll_33 : decode cX3_readAll 33 = .ok (.aload_n 0, 1) := by decide +kernel
theorem dX3_readAll_34 : decode cX3_readAll 34 = .ok (.getfield 9, 3) := by decide +kernel
theorem dX3_readAll_37 : decode cX3_readAll 37 = .ok (.getfield 34, 3) := by decide +kernel
theorem dX3_readAll_40 : decode cX3_readAll 40 = .ok (.if_icmp .ge 25, 3) := by decide +kernel
theorem dX3_readAll_43 : decode cX3_readAll 43 = .ok (.aload_n 0, 1) := by decide +kernel
theorem dX3_readAll_44 : decode cX3_readAll 44 = .ok (.getfield 23, 3) := by decide +kernel
theorem dX3_readAll_47 : decode cX3_readAll 47 = .ok (.iconst (-1), 1) := by decide +kernel
theorem dX3_readAll_48 : decode cX3_readAll 48 = .ok (.if_icmp .ne 17, 3) := by decide +kernel
theorem dX3_readAll_51 : decode cX3_readAll 51 = .ok (.aload_n 0, 1) := by decide +kernel
theorem dX3_readAll_52 : decode cX3_readAll 52 = .ok (.invokevirtual 39, 3) := by decide +kernel
theorem dX3_readAll_55 : decode cX3_readAll 55 = .ok (.aload_n 0, 1) := by decide +kernel
theorem dX3_readAll_56 : decode cX3_readAll 56 = .ok (.invokevirtual 31, 3) := by decide +kernel
theorem dX3_readAll_59 : decode cX3_readAll 59 = .ok (.iinc 1 1, 3) := by decide +kernel
theorem dX3_readAll_62 : decode cX3_readAll 62 = .ok (.goto (-39), 3) := by decide +kernel
theorem dX3_readAll_65 : decode cX3_readAll 65 = .ok (.aload_n 0, 1) := by decide +kernel
theorem dX3_readAll_66 : decode cX3_readAll 66 = .ok (.getfield 23, 3) := by decide +kernel
theorem dX3_readAll_69 : decode cX3_readAll 69 = .ok (.ireturn, 1) := by decide +kernel
theorem dX4_findTooLike_0 : decode cX4_findTooLike 0 = .ok (.iconst 0, 1) := by decide +kernel
theorem dX4_findTooLike_1 : decode cX4_findTooLike 1 = .ok (.istore_n 2, 1) := by decide +kernel
theorem dX4_findTooLike_2 : decode cX4_findTooLike 2 = .ok (.iload_n 2, 1) := by decide +kernel
theorem dX4_findTooLike_3 : decode cX4_findTooLike 3 = .ok (.aload_n 0, 1) := by decide +kernel
theorem dX4_findTooLike_4 : decode cX4_findTooLike 4 = .ok (.getfield 15, 3) := by decide +kernel
theorem dX4_findTooLike_7 : decode cX4_findTooLike 7 = .ok (.getfield 27, 3) := by decide +kernel
theorem dX4_findTooLike_10 : decode cX4_findTooLike 10 = .ok (.if_icmp .ge 65, 3) := by decide +kernel
theorem dX4_findTooLike_13 : decode cX4_findTooLike 13 = .ok (.aload_n 0, 1) := by decide +kernel
theorem dX4_findTooLike_14 : decode cX4_findTooLike 14 = .ok (.getfield 9, 3) := by decide +kernel
theorem dX4_findTooLike_17 : decode cX4_findTooLike 17 = .ok (.iload_n 2, 1) := by decide +kernel
theorem dX4_findTooLike_18 : decode cX4_findTooLike 18 = .ok (.iconst 0, 1) := by decide +kernel
theorem dX4_findTooLike_19 : decode cX4_findTooLike 19 = .ok (.iastore, 1) := by decide +kernel
theorem dX4_findTooLike_20 : decode cX4_findTooLike 20 = .ok (.iconst 0, 1) := by decide +kernel
theorem dX4_findTooLike_21 : decode cX4_findTooLike 21 = .ok (.istore_n 3, 1) := by decide +kernel
theorem dX4_findTooLike_22 : decode cX4_findTooLike 22 = .ok (.iload_n 3, 1) := by decide +kernel
theorem dX4_findTooLike_23 : decode cX4_findTooLike 23 = .ok (.aload_n 0, 1) := by decide +kernel
theorem dX4_findTooLike_24 : decode cX4_findTooLike 24 = .ok (.getfield 15, 3) := by decide +kernel
theorem dX4_findTooLike_27 : decode cX4_findTooLike 27 = .ok (.getfield 27, 3) := by decide +kernel
theorem dX4_findTooLike_30 : decode cX4_findTooLike 30 = .ok (.if_icmp .ge 39, 3) := by decide +kernel
theorem dX4_findTooLike_33 : decode cX4_findTooLike 33 = .ok (.iload_n 3, 1) := by decide +kernel
theorem dX4_findTooLike_34 : decode cX4_findTooLike 34 = .ok (.iload_n 2, 1) := by decide +kernel
theorem dX4_findTooLike_35 : decode cX4_findTooLike 35 = .ok (.if_icmp .eq 28, 3) := by decide +kernel
theorem dX4_findTooLike_38 : decode cX4_findTooLike 38 = .ok (.aload_n 0, 1) := by decide +kernel
theorem dX4_findTooLike_39 : decode cX4_findTooLike 39 = .ok (.getfield 15, 3) := by decide +kernel
theorem dX4_findTooLike_42 : decode cX4_findTooLike 42 = .ok (.iload_n 2, 1) := by decide +kernel
theorem dX4_findTooLike_43 : decode cX4_findTooLike 43 = .ok (.iload_n 3, 1) := by decide +kernel
theorem dX4_findTooLike_44 : decode cX4_findTooLike 44 = .ok (.invokevirtual 33, 3) := by decide +kernel
theorem dX4_findTooLike_47 : decode cX4_findTooLike 47 = .ok (.iload_n 1, 1) := by decide +kernel
theorem dX4_findTooLike_48 : decode cX4_findTooLike 48 = .ok (.if_icmp .le 15, 3) := by decide +kernel
theorem dX4_findTooLike_51 : decode cX4_findTooLike 51 = .ok (.aload_n 0, 1) := by decide +kernel
theorem dX4_findTooLike_52 : decode cX4_findTooLike 52 = .ok (.getfield 9, 3) := by decide +kernel
theorem dX4_findTooLike_55 : decode cX4_findTooLike 55 = .ok (.iload_n 2, 1) := by decide +kernel
theorem dX4_findTooLike_56 : decode cX4_findTooLike 56 = .ok (.dup2, 1) := by decide +kernel
theorem dX4_findTooLike_57 : decode cX4_findTooLike 57 = .ok (.iaload, 1) := by decide +kernel
theorem dX4_findTooLike_58 : decode cX4_findTooLike 58 = .ok (.iconst 1, 1) := by decide +kernel
theorem dX4_findTooLike_59 : decode cX4_findTooLike 59 = .ok (.iload_n 3, 1) := by decide +kernel
theorem dX4_findTooLike_60 : decode cX4_findTooLike 60 = .ok (.ishl, 1) := by decide +kernel
theorem dX4_findTooLike_61 : decode cX4_findTooLike 61 = .ok (.ior, 1) := by decide +kernel
theorem dX4_findTooLike_62 : decode cX4_findTooLike 62 = .ok (.iastore, 1) := by decide +kernel
theorem dX4_findTooLike_63 : decode cX4_findTooLike 63 = .ok (.iinc 3 1, 3) := by decide +kernel
theorem dX4_findTooLike_66 : decode cX4_findTooLike 66 = .ok (.goto (-44), 3) := by decide +kernel
theorem dX4_findTooLike_69 : decode cX4_findTooLike 69 = .ok (.iinc 2 1, 3) := by decide +kernel
theorem dX4_findTooLike_72 : decode cX4_findTooLike 72 = .ok (.goto (-70), 3) := by decide +kernel
theorem dX4_findTooLike_75 : decode cX4_findTooLike 75 = .ok (.return_, 1) := by decide +kernel
theorem dX4_areApart_0 : decode cX4_areApart 0 = .ok (.iconst 0, 1) := by decide +kernel
theorem dX4_areApart_1 : decode cX4_areApart 1 = .ok (.istore_n 2, 1) := by decide +kernel
theorem dX4_areApart_2 : decode cX4_areApart 2 = .ok (.iload_n 2, 1) := by decide +kernel
theorem dX4_areApart_3 : decode cX4_areApart 3 = .ok (.aload_n 0, 1) := by decide +kernel
theorem dX4_areApart_4 : decode cX4_areApart 4 = .ok (.getfield 15, 3) := by decide +kernel
theorem dX4_areApart_7 : decode cX4_areApart 7 = .ok (.getfield 27, 3) := by decide +kernel
theorem dX4_areApart_10 : decode cX4_areApart 10 = .ok (.if_icmp .ge 30, 3) := by decide +kernel
theorem dX4_areApart_13 : decode cX4_areApart 13 = .ok (.iload_n 1, 1) := by decide +kernel
theorem dX4_areApart_14 : decode cX4_areApart 14 = .ok (.iload_n 2, 1) := by decide +kernel
theorem dX4_areApart_15 : decode cX4_areApart 15 = .ok (.invokestatic 37, 3) := by decide +kernel
theorem dX4_areApart_18 : decode cX4_areApart 18 = .ok (.ifCond .eq 16, 3) := by decide +kernel
theorem dX4_areApart_21 : decode cX4_areApart 21 = .ok (.aload_n 0, 1) := by decide +kernel
theorem dX4_areApart_22 : decode cX4_areApart 22 = .ok (.getfield 9, 3) := by decide +kernel
theorem dX4_areApart_25 : decode cX4_areApart 25 = .ok (.iload_n 2, 1) := by decide +kernel
theorem dX4_areApart_26 : decode cX4_areApart 26 = .ok (.iaload, 1) := by decide +kernel
theorem dX4_areApart_27 : decode cX4_areApart 27 = .ok (.iload_n 1, 1) := by decide +kernel
theorem dX4_areApart_28 : decode cX4_areApart 28 = .ok (.iand, 1) := by decide +kernel
theorem dX4_areApart_29 : decode cX4_areApart 29 = .ok (.ifCond .eq 5, 3) := by decide +kernel
theorem dX4_areApart_32 : decode cX4_areApart 32 = .ok (.iconst 0, 1) := by decide +kernel
theorem dX4_areApart_33 : decode cX4_areApart 33 = .ok (.ireturn, 1) := by decide +kernel
theorem dX4_areApart_34 : decode cX4_areApart 34 = .ok (.iinc 2 1, 3) := by decide +kernel
theorem dX4_areApart_37 : decode cX4_areApart 37 = .ok (.goto (-35), 3) := by decide +kernel
theorem dX4_areApart_40 : decode cX4_areApart 40 = .ok (.iconst 1, 1) := by decide +kernel
theorem dX4_areApart_41 : decode cX4_areApart 41 = .ok (.ireturn, 1) := by decide +kernel
theorem dX4_keepIfTop_0 : decode cX4_keepIfTop 0 = .ok (.iload_n 3, 1) := by decide +kernel
theorem dX4_keepIfTop_1 : decode cX4_keepIfTop 1 = .ok (.aload_n 0, 1) := by decide +kernel
theorem dX4_keepIfTop_2 : decode cX4_keepIfTop 2 = .ok (.getfield 56, 3) := by decide +kernel
theorem dX4_keepIfTop_5 : decode cX4_keepIfTop 5 = .ok (.if_icmp .lt 19, 3) := by decide +kernel
theorem dX4_keepIfTop_8 : decode cX4_keepIfTop 8 = .ok (.iload_n 3, 1) := by decide +kernel
theorem dX4_keepIfTop_9 : decode cX4_keepIfTop 9 = .ok (.aload_n 0, 1) := by decide +kernel
theorem dX4_keepIfTop_10 : decode cX4_keepIfTop 10 = .ok (.getfield 56, 3) := by decide +kernel
theorem dX4_keepIfTop_13 : decode cX4_keepIfTop 13 = .ok (.if_icmp .ne 15, 3) := by decide +kernel
theorem dX4_keepIfTop_16 : decode cX4_keepIfTop 16 = .ok (.iload_n 1, 1) := by decide +kernel
theorem dX4_keepIfTop_17 : decode cX4_keepIfTop 17 = .ok (.aload_n 0, 1) := by decide +kernel
theorem dX4_keepIfTop_18 : decode cX4_keepIfTop 18 = .ok (.getfield 50, 3) := by decide +kernel
theorem dX4_keepIfTop_21 : decode cX4_keepIfTop 21 = .ok (.if_icmp .ge 7, 3) := by decide +kernel
theorem dX4_keepIfTop_24 : decode cX4_keepIfTop 24 = .ok (.iconst 1, 1) := by decide +kernel
theorem dX4_keepIfTop_25 : decode cX4_keepIfTop 25 = .ok (.goto 4, 3) := by decide +kernel
theorem dX4_keepIfTop_28 : decode cX4_keepIfTop 28 = .ok (.iconst 0, 1) := by decide +kernel
theorem dX4_keepIfTop_29 : decode cX4_keepIfTop 29 = .ok (.istore 4, 2) := by decide +kernel
theorem dX4_keepIfTop_31 : decode cX4_keepIfTop 31 = .ok (.iload_n 2, 1) := by decide +kernel
theorem dX4_keepIfTop_32 : decode cX4_keepIfTop 32 = .ok (.aload_n 0, 1) := by decide +kernel
theorem dX4_keepIfTop_33 : decode cX4_keepIfTop 33 = .ok (.getfield 53, 3) := by decide +kernel
theorem dX4_keepIfTop_36 : decode cX4_keepIfTop 36 = .ok (.if_icmp .gt 16, 3) := by decide +kernel
theorem dX4_keepIfTop_39 : decode cX4_keepIfTop 39 = .ok (.iload_n 2, 1) := by decide +kernel
theorem dX4_keepIfTop_40 : decode cX4_keepIfTop 40 = .ok (.aload_n 0, 1) := by decide +kernel
theorem dX4_keepIfTop_41 : decode cX4_keepIfTop 41 = .ok (.getfield 53, 3) := by decide +kernel
theorem dX4_keepIfTop_44 : decode cX4_keepIfTop 44 = .ok (.if_icmp .ne 23, 3) := by decide +kernel
theorem dX4_keepIfTop_47 : decode cX4_keepIfTop 47 = .ok (.iload 4, 2) := by decide +kernel
theorem dX4_keepIfTop_49 : decode cX4_keepIfTop 49 = .ok (.ifCond .eq 18, 3) := by decide +kernel
theorem dX4_keepIfTop_52 : decode cX4_keepIfTop 52 = .ok (.aload_n 0, 1) := by decide +kernel
theorem dX4_keepIfTop_53 : decode cX4_keepIfTop 53 = .ok (.iload_n 1, 1) := by decide +kernel
theorem dX4_keepIfTop_54 : decode cX4_keepIfTop 54 = .ok (.putfield 50, 3) := by decide +kernel
theorem dX4_keepIfTop_57 : decode cX4_keepIfTop 57 = .ok (.aload_n 0, 1) := by decide +kernel
theorem dX4_keepIfTop_58 : decode cX4_keepIfTop 58 = .ok (.iload_n 2, 1) := by decide +kernel
theorem dX4_keepIfTop_59 : decode cX4_keepIfTop 59 = .ok (.putfield 53, 3) := by decide +kernel
theorem dX4_keepIfTop_62 : decode cX4_keepIfTop 62 = .ok (.aload_n 0, 1) := by decide +kernel
theorem dX4_keepIfTop_63 : decode cX4_keepIfTop 63 = .ok (.iload_n 3, 1) := by decide +kernel
theorem dX4_keepIfTop_64 : decode cX4_keepIfTop 64 = .ok (.putfield 56, 3) := by decide +kernel
theorem dX4_keepIfTop_67 : decode cX4_keepIfTop 67 = .ok (.return_, 1) := by decide +kernel
theorem dX4_extend_0 : decode cX4_extend 0 = .ok (.iload_n 1, 1) := by decide +kernel
theorem dX4_extend_1 : decode cX4_extend 1 = .ok (.invokestatic 63, 3) := by decide +kernel
theorem dX4_extend_4 : decode cX4_extend 4 = .ok (.aload_n 0, 1) := by decide +kernel
theorem dX4_extend_5 : decode cX4_extend 5 = .ok (.getfield 41, 3) := by decide +kernel
theorem dX4_extend_8 : decode cX4_extend 8 = .ok (.if_icmp .lt 4, 3) := by decide +kernel
theorem dX4_extend_11 : decode cX4_extend 11 = .ok (.return_, 1) := by decide +kernel
theorem dX4_extend_12 : decode cX4_extend 12 = .ok (.iload 6, 2) := by decide +kernel
theorem dX4_extend_14 : decode cX4_extend 14 = .ok (.istore 7, 2) := by decide +kernel
theorem dX4_extend_16 : decode cX4_extend 16 = .ok (.iload 7, 2) := by decide +kernel
theorem dX4_extend_18 : decode cX4_extend 18 = .ok (.aload_n 0, 1) := by decide +kernel
theorem dX4_extend_19 : decode cX4_extend 19 = .ok (.getfield 15, 3) := by decide +kernel
theorem dX4_extend_22 : decode cX4_extend 22 = .ok (.getfield 27, 3) := by decide +kernel
theorem dX4_extend_25 : decode cX4_extend 25 = .ok (.if_icmp .ge 114, 3) := by decide +kernel
theorem dX4_extend_28 : decode cX4_extend 28 = .ok (.iload 4, 2) := by decide +kernel
theorem dX4_extend_30 : decode cX4_extend 30 = .ok (.aload_n 0, 1) := by decide +kernel
theorem dX4_extend_31 : decode cX4_extend 31 = .ok (.getfield 15, 3) := by decide +kernel
theorem dX4_extend_34 : decode cX4_extend 34 = .ok (.iload 7, 2) := by decide +kernel
theorem dX4_extend_36 : decode cX4_extend 36 = .ok (.invokevirtual 69, 3) := by decide +kernel
theorem dX4_extend_39 : decode cX4_extend 39 = .ok (.iadd, 1) := by decide +kernel
theorem dX4_extend_40 : decode cX4_extend 40 = .ok (.istore 8, 2) := by decide +kernel
theorem dX4_extend_42 : decode cX4_extend 42 = .ok (.iload 5, 2) := by decide +kernel
theorem dX4_extend_44 : decode cX4_extend 44 = .ok (.iload 7, 2) := by decide +kernel
theorem dX4_extend_46 : decode cX4_extend 46 = .ok (.invokestatic 37, 3) := by decide +kernel
theorem dX4_extend_49 : decode cX4_extend 49 = .ok (.ifCond .eq 84, 3) := by decide +kernel
theorem dX4_extend_52 : decode cX4_extend 52 = .ok (.iload 8, 2) := by decide +kernel
theorem dX4_extend_54 : decode cX4_extend 54 = .ok (.aload_n 0, 1) := by decide +kernel
theorem dX4_extend_55 : decode cX4_extend 55 = .ok (.getfield 44, 3) := by decide +kernel
theorem dX4_extend_58 : decode cX4_extend 58 = .ok (.if_icmp .gt 75, 3) := by decide +kernel
theorem dX4_extend_61 : decode cX4_extend 61 = .ok (.iload_n 1, 1) := by decide +kernel
theorem dX4_extend_62 : decode cX4_extend 62 = .ok (.iconst 1, 1) := by decide +kernel
theorem dX4_extend_63 : decode cX4_extend 63 = .ok (.iload 7, 2) := by decide +kernel
theorem dX4_extend_65 : decode cX4_extend 65 = .ok (.ishl, 1) := by decide +kernel
theorem dX4_extend_66 : decode cX4_extend 66 = .ok (.ior, 1) := by decide +kernel
theorem dX4_extend_67 : decode cX4_extend 67 = .ok (.istore 9, 2) := by decide +kernel
theorem dX4_extend_69 : decode cX4_extend 69 = .ok (.lload_n 2, 1) := by decide +kernel
theorem dX4_extend_70 : decode cX4_extend 70 = .ok (.aload_n 0, 1) := by decide +kernel
theorem dX4_extend_71 : decode cX4_extend 71 = .ok (.getfield 23, 3) := by decide +kernel
theorem dX4_extend_74 : decode cX4_extend 74 = .ok (.getfield 72, 3) := by decide +kernel
theorem dX4_extend_77 : decode cX4_extend 77 = .ok (.iload 7, 2) := by decide +kernel
theorem dX4_extend_79 : decode cX4_extend 79 = .ok (.laload, 1) := by decide +kernel
theorem dX4_extend_80 : decode cX4_extend 80 = .ok (.ladd, 1) := by decide +kernel
theorem dX4_extend_81 : decode cX4_extend 81 = .ok (.lstore 10, 2) := by decide +kernel
theorem dX4_extend_83 : decode cX4_extend 83 = .ok (.aload_n 0, 1) := by decide +kernel
theorem dX4_extend_84 : decode cX4_extend 84 = .ok (.iload 9, 2) := by decide +kernel
theorem dX4_extend_86 : decode cX4_extend 86 = .ok (.aload_n 0, 1) := by decide +kernel
theorem dX4_extend_87 : decode cX4_extend 87 = .ok (.getfield 19, 3) := by decide +kernel
theorem dX4_extend_90 : decode cX4_extend 90 = .ok (.lload 10, 2) := by decide +kernel
theorem dX4_extend_92 : decode cX4_extend 92 = .ok (.invokevirtual 78, 3) := by decide +kernel
theorem dX4_extend_95 : decode cX4_extend 95 = .ok (.aload_n 0, 1) := by decide +kernel
theorem dX4_extend_96 : decode cX4_extend 96 = .ok (.getfield 47, 3) := by decide +kernel
theorem dX4_extend_99 : decode cX4_extend 99 = .ok (.invokestatic 84, 3) := by decide +kernel
theorem dX4_extend_102 : decode cX4_extend 102 = .ok (.iload 8, 2) := by decide +kernel
theorem dX4_extend_104 : decode cX4_extend 104 = .ok (.invokevirtual 89, 3) := by decide +kernel
theorem dX4_extend_107 : decode cX4_extend 107 = .ok (.aload_n 0, 1) := by decide +kernel
theorem dX4_extend_108 : decode cX4_extend 108 = .ok (.iload 9, 2) := by decide +kernel
theorem dX4_extend_110 : decode cX4_extend 110 = .ok (.lload 10, 2) := by decide +kernel
theorem dX4_extend_112 : decode cX4_extend 112 = .ok (.iload 8, 2) := by decide +kernel
theorem dX4_extend_114 : decode cX4_extend 114 = .ok (.iload 5, 2) := by decide +kernel
theorem dX4_extend_116 : decode cX4_extend 116 = .ok (.aload_n 0, 1) := by decide +kernel
theorem dX4_extend_117 : decode cX4_extend 117 = .ok (.getfield 9, 3) := by decide +kernel
theorem dX4_extend_120 : decode cX4_extend 120 = .ok (.iload 7, 2) := by decide +kernel
theorem dX4_extend_122 : decode cX4_extend 122 = .ok (.iaload, 1) := by decide +kernel
theorem dX4_extend_123 : decode cX4_extend 123 = .ok (.iconst (-1), 1) := by decide +kernel
theorem dX4_extend_124 : decode cX4_extend 124 = .ok (.ixor, 1) := by decide +kernel
theorem dX4_extend_125 : decode cX4_extend 125 = .ok (.iand, 1) := by decide +kernel
theorem dX4_extend_126 : decode cX4_extend 126 = .ok (.iload 7, 2) := by decide +kernel
theorem dX4_extend_128 : decode cX4_extend 128 = .ok (.iconst 1, 1) := by decide +kernel
theorem dX4_extend_129 : decode cX4_extend 129 = .ok (.iadd, 1) := by decide +kernel
theorem dX4_extend_130 : decode cX4_extend 130 = .ok (.invokevirtual 59, 3) := by decide +kernel
theorem dX4_extend_133 : decode cX4_extend 133 = .ok (.iinc 7 1, 3) := by decide +kernel
theorem dX4_extend_136 : decode cX4_extend 136 = .ok (.goto (-120), 3) := by decide +kernel
theorem dX4_extend_139 : decode cX4_extend 139 = .ok (.return_, 1) := by decide +kernel
theorem dX4_seekTop_0 : decode cX4_seekTop 0 = .ok (.aload_n 0, 1) := by decide +kernel
theorem dX4_seekTop_1 : decode cX4_seekTop 1 = .ok (.iload_n 2, 1) := by decide +kernel
theorem dX4_seekTop_2 : decode cX4_seekTop 2 = .ok (.putfield 41, 3) := by decide +kernel
theorem dX4_seekTop_5 : decode cX4_seekTop 5 = .ok (.aload_n 0, 1) := by decide +kernel
theorem dX4_seekTop_6 : decode cX4_seekTop 6 = .ok (.iload_n 3, 1) := by decide +kernel
theorem dX4_seekTop_7 : decode cX4_seekTop 7 = .ok (.putfield 44, 3) := by decide +kernel
theorem dX4_seekTop_10 : decode cX4_seekTop 10 = .ok (.aload_n 0, 1) := by decide +kernel
theorem dX4_seekTop_11 : decode cX4_seekTop 11 = .ok (.iload 4, 2) := by decide +kernel
theorem dX4_seekTop_13 : decode cX4_seekTop 13 = .ok (.putfield 47, 3) := by decide +kernel
theorem dX4_seekTop_16 : decode cX4_seekTop 16 = .ok (.aload_n 0, 1) := by decide +kernel
theorem dX4_seekTop_17 : decode cX4_seekTop 17 = .ok (.iconst 0, 1) := by decide +kernel
theorem dX4_seekTop_18 : decode cX4_seekTop 18 = .ok (.putfield 50, 3) := by decide +kernel
theorem dX4_seekTop_21 : decode cX4_seekTop 21 = .ok (.aload_n 0, 1) := by decide +kernel
theorem dX4_seekTop_22 : decode cX4_seekTop 22 = .ok (.iconst 0, 1) := by decide +kernel
theorem dX4_seekTop_23 : decode cX4_seekTop 23 = .ok (.putfield 53, 3) := by decide +kernel
theorem dX4_seekTop_26 : decode cX4_seekTop 26 = .ok (.aload_n 0, 1) := by decide +kernel
theorem dX4_seekTop_27 : decode cX4_seekTop 27 = .ok (.iconst 0, 1) := by decide +kernel
theorem dX4_seekTop_28 : decode cX4_seekTop 28 = .ok (.putfield 56, 3) := by decide +kernel
theorem dX4_seekTop_31 : decode cX4_seekTop 31 = .ok (.aload_n 0, 1) := by decide +kernel
theorem dX4_seekTop_32 : decode cX4_seekTop 32 = .ok (.iconst 0, 1) := by decide +kernel
theorem dX4_seekTop_33 : decode cX4_seekTop 33 = .ok (.lconst 0, 1) := by decide +kernel
theorem dX4_seekTop_34 : decode cX4_seekTop 34 = .ok (.iconst 0, 1) := by decide +kernel
theorem dX4_seekTop_35 : decode cX4_seekTop 35 = .ok (.iload_n 1, 1) := by decide +kernel
theorem dX4_seekTop_36 : decode cX4_seekTop 36 = .ok (.iconst 0, 1) := by decide +kernel
theorem dX4_seekTop_37 : decode cX4_seekTop 37 = .ok (.invokevirtual 59, 3) := by decide +kernel
theorem dX4_seekTop_40 : decode cX4_seekTop 40 = .ok (.return_, 1) := by decide +kernel
theorem dX4_enlarge_0 : decode cX4_enlarge 0 = .ok (.iload_n 1, 1) := by decide +kernel
theorem dX4_enlarge_1 : decode cX4_enlarge 1 = .ok (.invokestatic 63, 3) := by decide +kernel
theorem dX4_enlarge_4 : decode cX4_enlarge 4 = .ok (.iload_n 2, 1) := by decide +kernel
theorem dX4_enlarge_5 : decode cX4_enlarge 5 = .ok (.invokestatic 63, 3) := by decide +kernel
theorem dX4_enlarge_8 : decode cX4_enlarge 8 = .ok (.iadd, 1) := by decide +kernel
theorem dX4_enlarge_9 : decode cX4_enlarge 9 = .ok (.istore 4, 2) := by decide +kernel
theorem dX4_enlarge_11 : decode cX4_enlarge 11 = .ok (.iload 4, 2) := by decide +kernel
theorem dX4_enlarge_13 : decode cX4_enlarge 13 = .ok (.aload_n 0, 1) := by decide +kernel
theorem dX4_enlarge_14 : decode cX4_enlarge 14 = .ok (.getfield 93, 3) := by decide +kernel
theorem dX4_enlarge_17 : decode cX4_enlarge 17 = .ok (.invokestatic 63, 3) := by decide +kernel
theorem dX4_enlarge_20 : decode cX4_enlarge 20 = .ok (.if_icmp .ge 4, 3) := by decide +kernel
theorem dX4_enlarge_23 : decode cX4_enlarge 23 = .ok (.return_, 1) := by decide +kernel
theorem dX4_enlarge_24 : decode cX4_enlarge 24 = .ok (.iload_n 3, 1) := by decide +kernel
theorem dX4_enlarge_25 : decode cX4_enlarge 25 = .ok (.aload_n 0, 1) := by decide +kernel
theorem dX4_enlarge_26 : decode cX4_enlarge 26 = .ok (.getfield 15, 3) := by decide +kernel
theorem dX4_enlarge_29 : decode cX4_enlarge 29 = .ok (.getfield 27, 3) := by decide +kernel
theorem dX4_enlarge_32 : decode cX4_enlarge 32 = .ok (.if_icmp .lt 48, 3) := by decide +kernel
theorem dX4_enlarge_35 : decode cX4_enlarge 35 = .ok (.iload 4, 2) := by decide +kernel
theorem dX4_enlarge_37 : decode cX4_enlarge 37 = .ok (.aload_n 0, 1) := by decide +kernel
theorem dX4_enlarge_38 : decode cX4_enlarge 38 = .ok (.getfield 93, 3) := by decide +kernel
theorem dX4_enlarge_41 : decode cX4_enlarge 41 = .ok (.invokestatic 63, 3) := by decide +kernel
theorem dX4_enlarge_44 : decode cX4_enlarge 44 = .ok (.if_icmp .le 7, 3) := by decide +kernel
theorem dX4_enlarge_47 : decode cX4_enlarge 47 = .ok (.iconst 1, 1) := by decide +kernel
theorem dX4_enlarge_48 : decode cX4_enlarge 48 = .ok (.goto 4, 3) := by decide +kernel
theorem dX4_enlarge_51 : decode cX4_enlarge 51 = .ok (.iconst 0, 1) := by decide +kernel
theorem dX4_enlarge_52 : decode cX4_enlarge 52 = .ok (.istore 5, 2) := by decide +kernel
theorem dX4_enlarge_54 : decode cX4_enlarge 54 = .ok (.aload_n 0, 1) := by decide +kernel
theorem dX4_enlarge_55 : decode cX4_enlarge 55 = .ok (.iload 5, 2) := by decide +kernel
theorem dX4_enlarge_57 : decode cX4_enlarge 57 = .ok (.ifCond .ne 11, 3) := by decide +kernel
theorem dX4_enlarge_60 : decode cX4_enlarge 60 = .ok (.iload_n 1, 1) := by decide +kernel
theorem dX4_enlarge_61 : decode cX4_enlarge 61 = .ok (.aload_n 0, 1) := by decide +kernel
theorem dX4_enlarge_62 : decode cX4_enlarge 62 = .ok (.getfield 93, 3) := by decide +kernel
theorem dX4_enlarge_65 : decode cX4_enlarge 65 = .ok (.if_icmp .ge 7, 3) := by decide +kernel
theorem dX4_enlarge_68 : decode cX4_enlarge 68 = .ok (.iload_n 1, 1) := by decide +kernel
theorem dX4_enlarge_69 : decode cX4_enlarge 69 = .ok (.goto 7, 3) := by decide +kernel
theorem dX4_enlarge_72 : decode cX4_enlarge 72 = .ok (.aload_n 0, 1) := by decide +kernel
theorem dX4_enlarge_73 : decode cX4_enlarge 73 = .ok (.getfield 93, 3) := by decide +kernel
theorem dX4_enlarge_76 : decode cX4_enlarge 76 = .ok (.putfield 93, 3) := by decide +kernel
theorem dX4_enlarge_79 : decode cX4_enlarge 79 = .ok (.return_, 1) := by decide +kernel
theorem dX4_enlarge_80 : decode cX4_enlarge 80 = .ok (.iload_n 2, 1) := by decide +kernel
theorem dX4_enlarge_81 : decode cX4_enlarge 81 = .ok (.iconst 1, 1) := by decide +kernel
theorem dX4_enlarge_82 : decode cX4_enlarge 82 = .ok (.iload_n 3, 1) := by decide +kernel
theorem dX4_enlarge_83 : decode cX4_enlarge 83 = .ok (.ishl, 1) := by decide +kernel
theorem dX4_enlarge_84 : decode cX4_enlarge 84 = .ok (.iconst (-1), 1) := by decide +kernel
theorem dX4_enlarge_85 : decode cX4_enlarge 85 = .ok (.ixor, 1) := by decide +kernel
theorem dX4_enlarge_86 : decode cX4_enlarge 86 = .ok (.iand, 1) := by decide +kernel
theorem dX4_enlarge_87 : decode cX4_enlarge 87 = .ok (.istore 5, 2) := by decide +kernel
theorem dX4_enlarge_89 : decode cX4_enlarge 89 = .ok (.iload_n 2, 1) := by decide +kernel
theorem dX4_enlarge_90 : decode cX4_enlarge 90 = .ok (.iload_n 3, 1) := by decide +kernel
theorem dX4_enlarge_91 : decode cX4_enlarge 91 = .ok (.invokestatic 37, 3) := by decide +kernel
theorem dX4_enlarge_94 : decode cX4_enlarge 94 = .ok (.ifCond .eq 26, 3) := by decide +kernel
theorem dX4_enlarge_97 : decode cX4_enlarge 97 = .ok (.aload_n 0, 1) := by decide +kernel
theorem dX4_enlarge_98 : decode cX4_enlarge 98 = .ok (.iload_n 1, 1) := by decide +kernel
theorem dX4_enlarge_99 : decode cX4_enlarge 99 = .ok (.iconst 1, 1) := by decide +kernel
theorem dX4_enlarge_100 : decode cX4_enlarge 100 = .ok (.iload_n 3, 1) := by decide +kernel
theorem dX4_enlarge_101 : decode cX4_enlarge 101 = .ok (.ishl, 1) := by decide +kernel
theorem dX4_enlarge_102 : decode cX4_enlarge 102 = .ok (.ior, 1) := by decide +kernel
theorem dX4_enlarge_103 : decode cX4_enlarge 103 = .ok (.iload 5, 2) := by decide +kernel
theorem dX4_enlarge_105 : decode cX4_enlarge 105 = .ok (.aload_n 0, 1) := by decide +kernel
theorem dX4_enlarge_106 : decode cX4_enlarge 106 = .ok (.getfield 9, 3) := by decide +kernel
theorem dX4_enlarge_109 : decode cX4_enlarge 109 = .ok (.iload_n 3, 1) := by decide +kernel
theorem dX4_enlarge_110 : decode cX4_enlarge 110 = .ok (.iaload, 1) := by decide +kernel
theorem dX4_enlarge_111 : decode cX4_enlarge 111 = .ok (.iconst (-1), 1) := by decide +kernel
theorem dX4_enlarge_112 : decode cX4_enlarge 112 = .ok (.ixor, 1) := by decide +kernel
theorem dX4_enlarge_113 : decode cX4_enlarge 113 = .ok (.iand, 1) := by decide +kernel
theorem dX4_enlarge_114 : decode cX4_enlarge 114 = .ok (.iload_n 3, 1) := by decide +kernel
theorem dX4_enlarge_115 : decode cX4_enlarge 115 = .ok (.iconst 1, 1) := by decide +kernel
theorem dX4_enlarge_116 : decode cX4_enlarge 116 = .ok (.iadd, 1) := by decide +kernel
theorem dX4_enlarge_117 : decode cX4_enlarge 117 = .ok (.invokevirtual 96, 3) := by decide +kernel
theorem dX4_enlarge_120 : decode cX4_enlarge 120 = .ok (.aload_n 0, 1) := by decide +kernel
theorem dX4_enlarge_121 : decode cX4_enlarge 121 = .ok (.iload_n 1, 1) := by decide +kernel
theorem dX4_enlarge_122 : decode cX4_enlarge 122 = .ok (.iload 5, 2) := by decide +kernel
theorem dX4_enlarge_124 : decode cX4_enlarge 124 = .ok (.iload_n 3, 1) := by decide +kernel
theorem dX4_enlarge_125 : decode cX4_enlarge 125 = .ok (.iconst 1, 1) := by decide +kernel
theorem dX4_enlarge_126 : decode cX4_enlarge 126 = .ok (.iadd, 1) := by decide +kernel
theorem dX4_enlarge_127 : decode cX4_enlarge 127 = .ok (.invokevirtual 96, 3) := by decide +kernel
theorem dX4_enlarge_130 : decode cX4_enlarge 130 = .ok (.return_, 1) := by decide +kernel
theorem dX4_largestSet_0 : decode cX4_largestSet 0 = .ok (.aload_n 0, 1) := by decide +kernel
theorem dX4_largestSet_1 : decode cX4_largestSet 1 = .ok (.iconst 0, 1) := by decide +kernel
theorem dX4_largestSet_2 : decode cX4_largestSet 2 = .ok (.putfield 93, 3) := by decide +kernel
theorem dX4_largestSet_5 : decode cX4_largestSet 5 = .ok (.aload_n 0, 1) := by decide +kernel
theorem dX4_largestSet_6 : decode cX4_largestSet 6 = .ok (.iconst 0, 1) := by decide +kernel
theorem dX4_largestSet_7 : decode cX4_largestSet 7 = .ok (.iconst 1, 1) := by decide +kernel
theorem dX4_largestSet_8 : decode cX4_largestSet 8 = .ok (.aload_n 0, 1) := by decide +kernel
theorem dX4_largestSet_9 : decode cX4_largestSet 9 = .ok (.getfield 15, 3) := by decide +kernel
theorem dX4_largestSet_12 : decode cX4_largestSet 12 = .ok (.getfield 27, 3) := by decide +kernel
theorem dX4_largestSet_15 : decode cX4_largestSet 15 = .ok (.ishl, 1) := by decide +kernel
theorem dX4_largestSet_16 : decode cX4_largestSet 16 = .ok (.iconst 1, 1) := by decide +kernel
theorem dX4_largestSet_17 : decode cX4_largestSet 17 = .ok (.isub, 1) := by decide +kernel
theorem dX4_largestSet_18 : decode cX4_largestSet 18 = .ok (.iconst 0, 1) := by decide +kernel
theorem dX4_largestSet_19 : decode cX4_largestSet 19 = .ok (.invokevirtual 96, 3) := by decide +kernel
theorem dX4_largestSet_22 : decode cX4_largestSet 22 = .ok (.aload_n 0, 1) := by decide +kernel
theorem dX4_largestSet_23 : decode cX4_largestSet 23 = .ok (.getfield 93, 3) := by decide +kernel
theorem dX4_largestSet_26 : decode cX4_largestSet 26 = .ok (.ireturn, 1) := by decide +kernel
theorem dX5_setting_0 : decode cX5_setting 0 = .ok (.iload_n 1, 1) := by decide +kernel
theorem dX5_setting_1 : decode cX5_setting 1 = .ok (.ifCond .ne 8, 3) := by decide +kernel
theorem dX5_setting_4 : decode cX5_setting 4 = .ok (.aload_n 0, 1) := by decide +kernel
theorem dX5_setting_5 : decode cX5_setting 5 = .ok (.getfield 9, 3) := by decide +kernel
theorem dX5_setting_8 : decode cX5_setting 8 = .ok (.ireturn, 1) := by decide +kernel
theorem dX5_setting_9 : decode cX5_setting 9 = .ok (.iload_n 1, 1) := by decide +kernel
theorem dX5_setting_10 : decode cX5_setting 10 = .ok (.iconst 1, 1) := by decide +kernel
theorem dX5_setting_11 : decode cX5_setting 11 = .ok (.if_icmp .ne 10, 3) := by decide +kernel
theorem dX5_setting_14 : decode cX5_setting 14 = .ok (.aload_n 0, 1) := by decide +kernel
theorem dX5_setting_15 : decode cX5_setting 15 = .ok (.getfield 15, 3) := by decide +kernel
theorem dX5_setting_18 : decode cX5_setting 18 = .ok (.goto 7, 3) := by decide +kernel
theorem dX5_setting_21 : decode cX5_setting 21 = .ok (.aload_n 0, 1) := by decide +kernel
theorem dX5_setting_22 : decode cX5_setting 22 = .ok (.getfield 18, 3) := by decide +kernel
theorem dX5_setting_25 : decode cX5_setting 25 = .ok (.ireturn, 1) := by decide +kernel
theorem dX5_startAnew_0 : decode cX5_startAnew 0 = .ok (.aload_n 0, 1) := by decide +kernel
theorem dX5_startAnew_1 : decode cX5_startAnew 1 = .ok (.iconst 0, 1) := by decide +kernel
theorem dX5_startAnew_2 : decode cX5_startAnew 2 = .ok (.putfield 46, 3) := by decide +kernel
theorem dX5_startAnew_5 : decode cX5_startAnew 5 = .ok (.aload_n 0, 1) := by decide +kernel
theorem dX5_startAnew_6 : decode cX5_startAnew 6 = .ok (.iconst 0, 1) := by decide +kernel
theorem dX5_startAnew_7 : decode cX5_startAnew 7 = .ok (.putfield 49, 3) := by decide +kernel
theorem dX5_startAnew_10 : decode cX5_startAnew 10 = .ok (.aload_n 0, 1) := by decide +kernel
theorem dX5_startAnew_11 : decode cX5_startAnew 11 = .ok (.getfield 42, 3) := by decide +kernel
theorem dX5_startAnew_14 : decode cX5_startAnew 14 = .ok (.aload_n 0, 1) := by decide +kernel
theorem dX5_startAnew_15 : decode cX5_startAnew 15 = .ok (.getfield 18, 3) := by decide +kernel
theorem dX5_startAnew_18 : decode cX5_startAnew 18 = .ok (.invokevirtual 53, 3) := by decide +kernel
theorem dX5_startAnew_21 : decode cX5_startAnew 21 = .ok (.return_, 1) := by decide +kernel
theorem dX5_lengthOfSet_0 : decode cX5_lengthOfSet 0 = .ok (.iconst 0, 1) := by decide +kernel
theorem dX5_lengthOfSet_1 : decode cX5_lengthOfSet 1 = .ok (.istore_n 2, 1) := by decide +kernel
theorem dX5_lengthOfSet_2 : decode cX5_lengthOfSet 2 = .ok (.iconst 0, 1) := by decide +kernel
theorem dX5_lengthOfSet_3 : decode cX5_lengthOfSet 3 = .ok (.istore_n 3, 1) := by decide +kernel
theorem dX5_lengthOfSet_4 : decode cX5_lengthOfSet 4 = .ok (.iload_n 3, 1) := by decide +kernel
theorem dX5_lengthOfSet_5 : decode cX5_lengthOfSet 5 = .ok (.aload_n 0, 1) := by decide +kernel
theorem dX5_lengthOfSet_6 : decode cX5_lengthOfSet 6 = .ok (.getfield 25, 3) := by decide +kernel
theorem dX5_lengthOfSet_9 : decode cX5_lengthOfSet 9 = .ok (.getfield 57, 3) := by decide +kernel
theorem dX5_lengthOfSet_12 : decode cX5_lengthOfSet 12 = .ok (.if_icmp .ge 32, 3) := by decide +kernel
theorem dX5_lengthOfSet_15 : decode cX5_lengthOfSet 15 = .ok (.iload_n 2, 1) := by decide +kernel
theorem dX5_lengthOfSet_16 : decode cX5_lengthOfSet 16 = .ok (.iload_n 1, 1) := by decide +kernel
theorem dX5_lengthOfSet_17 : decode cX5_lengthOfSet 17 = .ok (.iload_n 3, 1) := by decide +kernel
theorem dX5_lengthOfSet_18 : decode cX5_lengthOfSet 18 = .ok (.invokestatic 62, 3) := by decide +kernel
theorem dX5_lengthOfSet_21 : decode cX5_lengthOfSet 21 = .ok (.ifCond .eq 14, 3) := by decide +kernel
theorem dX5_lengthOfSet_24 : decode cX5_lengthOfSet 24 = .ok (.aload_n 0, 1) := by decide +kernel
theorem dX5_lengthOfSet_25 : decode cX5_lengthOfSet 25 = .ok (.getfield 25, 3) := by decide +kernel
theorem dX5_lengthOfSet_28 : decode cX5_lengthOfSet 28 = .ok (.iload_n 3, 1) := by decide +kernel
theorem dX5_lengthOfSet_29 : decode cX5_lengthOfSet 29 = .ok (.invokevirtual 66, 3) := by decide +kernel
theorem dX5_lengthOfSet_32 : decode cX5_lengthOfSet 32 = .ok (.goto 4, 3) := by decide +kernel
theorem dX5_lengthOfSet_35 : decode cX5_lengthOfSet 35 = .ok (.iconst 0, 1) := by decide +kernel
theorem dX5_lengthOfSet_36 : decode cX5_lengthOfSet 36 = .ok (.iadd, 1) := by decide +kernel
theorem dX5_lengthOfSet_37 : decode cX5_lengthOfSet 37 = .ok (.istore_n 2, 1) := by decide +kernel
theorem dX5_lengthOfSet_38 : decode cX5_lengthOfSet 38 = .ok (.iinc 3 1, 3) := by decide +kernel
theorem dX5_lengthOfSet_41 : decode cX5_lengthOfSet 41 = .ok (.goto (-37), 3) := by decide +kernel
theorem dX5_lengthOfSet_44 : decode cX5_lengthOfSet 44 = .ok (.iload_n 2, 1) := by decide +kernel
theorem dX5_lengthOfSet_45 : decode cX5_lengthOfSet 45 = .ok (.ireturn, 1) := by decide +kernel
theorem dX5_worthOfSet_0 : decode cX5_worthOfSet 0 = .ok (.aload_n 0, 1) := by decide +kernel
theorem dX5_worthOfSet_1 : decode cX5_worthOfSet 1 = .ok (.getfield 29, 3) := by decide +kernel
theorem dX5_worthOfSet_4 : decode cX5_worthOfSet 4 = .ok (.aload_n 0, 1) := by decide +kernel
theorem dX5_worthOfSet_5 : decode cX5_worthOfSet 5 = .ok (.getfield 33, 3) := by decide +kernel
theorem dX5_worthOfSet_8 : decode cX5_worthOfSet 8 = .ok (.iload_n 1, 1) := by decide +kernel
theorem dX5_worthOfSet_9 : decode cX5_worthOfSet 9 = .ok (.invokevirtual 70, 3) := by decide +kernel
theorem dX5_worthOfSet_12 : decode cX5_worthOfSet 12 = .ok (.invokevirtual 76, 3) := by decide +kernel
theorem dX5_worthOfSet_15 : decode cX5_worthOfSet 15 = .ok (.ireturn, 1) := by decide +kernel
theorem dX5_mayBe_0 : decode cX5_mayBe 0 = .ok (.iload_n 1, 1) := by decide +kernel
theorem dX5_mayBe_1 : decode cX5_mayBe 1 = .ok (.invokestatic 82, 3) := by decide +kernel
theorem dX5_mayBe_4 : decode cX5_mayBe 4 = .ok (.aload_n 0, 1) := by decide +kernel
theorem dX5_mayBe_5 : decode cX5_mayBe 5 = .ok (.getfield 15, 3) := by decide +kernel
theorem dX5_mayBe_8 : decode cX5_mayBe 8 = .ok (.if_icmp .gt 30, 3) := by decide +kernel
theorem dX5_mayBe_11 : decode cX5_mayBe 11 = .ok (.aload_n 0, 1) := by decide +kernel
theorem dX5_mayBe_12 : decode cX5_mayBe 12 = .ok (.iload_n 1, 1) := by decide +kernel
theorem dX5_mayBe_13 : decode cX5_mayBe 13 = .ok (.invokevirtual 87, 3) := by decide +kernel
theorem dX5_mayBe_16 : decode cX5_mayBe 16 = .ok (.aload_n 0, 1) := by decide +kernel
theorem dX5_mayBe_17 : decode cX5_mayBe 17 = .ok (.getfield 9, 3) := by decide +kernel
theorem dX5_mayBe_20 : decode cX5_mayBe 20 = .ok (.if_icmp .gt 18, 3) := by decide +kernel
theorem dX5_mayBe_23 : decode cX5_mayBe 23 = .ok (.aload_n 0, 1) := by decide +kernel
theorem dX5_mayBe_24 : decode cX5_mayBe 24 = .ok (.getfield 42, 3) := by decide +kernel
theorem dX5_mayBe_27 : decode cX5_mayBe 27 = .ok (.iload_n 1, 1) := by decide +kernel
theorem dX5_mayBe_28 : decode cX5_mayBe 28 = .ok (.invokevirtual 90, 3) := by decide +kernel
theorem dX5_mayBe_31 : decode cX5_mayBe 31 = .ok (.ifCond .eq 7, 3) := by decide +kernel
theorem dX5_mayBe_34 : decode cX5_mayBe 34 = .ok (.iconst 1, 1) := by decide +kernel
theorem dX5_mayBe_35 : decode cX5_mayBe 35 = .ok (.goto 4, 3) := by decide +kernel
theorem dX5_mayBe_38 : decode cX5_mayBe 38 = .ok (.iconst 0, 1) := by decide +kernel
theorem dX5_mayBe_39 : decode cX5_mayBe 39 = .ok (.ireturn, 1) := by decide +kernel
theorem dX5_mayJoin_0 : decode cX5_mayJoin 0 = .ok (.iload_n 1, 1) := by decide +kernel
theorem dX5_mayJoin_1 : decode cX5_mayJoin 1 = .ok (.iload_n 2, 1) := by decide +kernel
theorem dX5_mayJoin_2 : decode cX5_mayJoin 2 = .ok (.invokestatic 62, 3) := by decide +kernel
theorem dX5_mayJoin_5 : decode cX5_mayJoin 5 = .ok (.ifCond .ne 19, 3) := by decide +kernel
theorem dX5_mayJoin_8 : decode cX5_mayJoin 8 = .ok (.aload_n 0, 1) := by decide +kernel
theorem dX5_mayJoin_9 : decode cX5_mayJoin 9 = .ok (.iload_n 1, 1) := by decide +kernel
theorem dX5_mayJoin_10 : decode cX5_mayJoin 10 = .ok (.iconst 1, 1) := by decide +kernel
theorem dX5_mayJoin_11 : decode cX5_mayJoin 11 = .ok (.iload_n 2, 1) := by decide +kernel
theorem dX5_mayJoin_12 : decode cX5_mayJoin 12 = .ok (.ishl, 1) := by decide +kernel
theorem dX5_mayJoin_13 : decode cX5_mayJoin 13 = .ok (.ior, 1) := by decide +kernel
theorem dX5_mayJoin_14 : decode cX5_mayJoin 14 = .ok (.invokevirtual 94, 3) := by decide +kernel
theorem dX5_mayJoin_17 : decode cX5_mayJoin 17 = .ok (.ifCond .eq 7, 3) := by decide +kernel
theorem dX5_mayJoin_20 : decode cX5_mayJoin 20 = .ok (.iconst 1, 1) := by decide +kernel
theorem dX5_mayJoin_21 : decode cX5_mayJoin 21 = .ok (.goto 4, 3) := by decide +kernel
theorem dX5_mayJoin_24 : decode cX5_mayJoin 24 = .ok (.iconst 0, 1) := by decide +kernel
theorem dX5_mayJoin_25 : decode cX5_mayJoin 25 = .ok (.ireturn, 1) := by decide +kernel
theorem dX5_gain_0 : decode cX5_gain 0 = .ok (.aload_n 0, 1) := by decide +kernel
theorem dX5_gain_1 : decode cX5_gain 1 = .ok (.iload_n 1, 1) := by decide +kernel
theorem dX5_gain_2 : decode cX5_gain 2 = .ok (.iconst 1, 1) := by decide +kernel
theorem dX5_gain_3 : decode cX5_gain 3 = .ok (.iload_n 2, 1) := by decide +kernel
theorem dX5_gain_4 : decode cX5_gain 4 = .ok (.ishl, 1) := by decide +kernel
theorem dX5_gain_5 : decode cX5_gain 5 = .ok (.ior, 1) := by decide +kernel
theorem dX5_gain_6 : decode cX5_gain 6 = .ok (.invokevirtual 97, 3) := by decide +kernel
theorem dX5_gain_9 : decode cX5_gain 9 = .ok (.aload_n 0, 1) := by decide +kernel
theorem dX5_gain_10 : decode cX5_gain 10 = .ok (.iload_n 1, 1) := by decide +kernel
theorem dX5_gain_11 : decode cX5_gain 11 = .ok (.invokevirtual 97, 3) := by decide +kernel
theorem dX5_gain_14 : decode cX5_gain 14 = .ok (.isub, 1) := by decide +kernel
theorem dX5_gain_15 : decode cX5_gain 15 = .ok (.ireturn, 1) := by decide +kernel
theorem dX5_isBetterStep_0 : decode cX5_isBetterStep 0 = .ok (.iload_n 1, 1) := by decide +kernel
theorem dX5_isBetterStep_1 : decode cX5_isBetterStep 1 = .ok (.iload 4, 2) := by decide +kernel
theorem dX5_isBetterStep_3 : decode cX5_isBetterStep 3 = .ok (.imul, 1) := by decide +kernel
theorem dX5_isBetterStep_4 : decode cX5_isBetterStep 4 = .ok (.istore 5, 2) := by decide +kernel
theorem dX5_isBetterStep_6 : decode cX5_isBetterStep 6 = .ok (.iload_n 3, 1) := by decide +kernel
theorem dX5_isBetterStep_7 : decode cX5_isBetterStep 7 = .ok (.iload_n 2, 1) := by decide +kernel
theorem dX5_isBetterStep_8 : decode cX5_isBetterStep 8 = .ok (.imul, 1) := by decide +kernel
theorem dX5_isBetterStep_9 : decode cX5_isBetterStep 9 = .ok (.istore 6, 2) := by decide +kernel
theorem dX5_isBetterStep_11 : decode cX5_isBetterStep 11 = .ok (.iload 5, 2) := by decide +kernel
theorem dX5_isBetterStep_13 : decode cX5_isBetterStep 13 = .ok (.iload 6, 2) := by decide +kernel
theorem dX5_isBetterStep_15 : decode cX5_isBetterStep 15 = .ok (.if_icmp .gt 15, 3) := by decide +kernel
theorem dX5_isBetterStep_18 : decode cX5_isBetterStep 18 = .ok (.iload 5, 2) := by decide +kernel
theorem dX5_isBetterStep_20 : decode cX5_isBetterStep 20 = .ok (.iload 6, 2) := by decide +kernel
theorem dX5_isBetterStep_22 : decode cX5_isBetterStep 22 = .ok (.if_icmp .ne 12, 3) := by decide +kernel
theorem dX5_isBetterStep_25 : decode cX5_isBetterStep 25 = .ok (.iload_n 1, 1) := by decide +kernel
theorem dX5_isBetterStep_26 : decode cX5_isBetterStep 26 = .ok (.iload_n 3, 1) := by decide +kernel
theorem dX5_isBetterStep_27 : decode cX5_isBetterStep 27 = .ok (.if_icmp .le 7, 3) := by decide +kernel
theorem dX5_isBetterStep_30 : decode cX5_isBetterStep 30 = .ok (.iconst 1, 1) := by decide +kernel
theorem dX5_isBetterStep_31 : decode cX5_isBetterStep 31 = .ok (.goto 4, 3) := by decide +kernel
theorem dX5_isBetterStep_34 : decode cX5_isBetterStep 34 = .ok (.iconst 0, 1) := by decide +kernel
theorem dX5_isBetterStep_35 : decode cX5_isBetterStep 35 = .ok (.ireturn, 1) := by decide +kernel
theorem dX5_nextStep_0 : decode cX5_nextStep 0 = .ok (.iconst (-1), 1) := by decide +kernel
theorem dX5_nextStep_1 : decode cX5_nextStep 1 = .ok (.istore_n 2, 1) := by decide +kernel
theorem dX5_nextStep_2 : decode cX5_nextStep 2 = .ok (.iconst 0, 1) := by decide +kernel
theorem dX5_nextStep_3 : decode cX5_nextStep 3 = .ok (.istore_n 3, 1) := by decide +kernel
theorem dX5_nextStep_4 : decode cX5_nextStep 4 = .ok (.aload_n 0, 1) := by decide +kernel
theorem dX5_nextStep_5 : decode cX5_nextStep 5 = .ok (.iload_n 1, 1) := by decide +kernel
theorem dX5_nextStep_6 : decode cX5_nextStep 6 = .ok (.invokevirtual 97, 3) := by decide +kernel
theorem dX5_nextStep_9 : decode cX5_nextStep 9 = .ok (.istore 4, 2) := by decide +kernel
theorem dX5_nextStep_11 : decode cX5_nextStep 11 = .ok (.iconst 0, 1) := by decide +kernel
theorem dX5_nextStep_12 : decode cX5_nextStep 12 = .ok (.istore 5, 2) := by decide +kernel
theorem dX5_nextStep_14 : decode cX5_nextStep 14 = .ok (.iload 5, 2) := by decide +kernel
theorem dX5_nextStep_16 : decode cX5_nextStep 16 = .ok (.aload_n 0, 1) := by decide +kernel
theorem dX5_nextStep_17 : decode cX5_nextStep 17 = .ok (.getfield 25, 3) := by decide +kernel
theorem dX5_nextStep_20 : decode cX5_nextStep 20 = .ok (.getfield 57, 3) := by decide +kernel
theorem dX5_nextStep_23 : decode cX5_nextStep 23 = .ok (.if_icmp .ge 92, 3) := by decide +kernel
theorem dX5_nextStep_26 : decode cX5_nextStep 26 = .ok (.aload_n 0, 1) := by decide +kernel
theorem dX5_nextStep_27 : decode cX5_nextStep 27 = .ok (.iload_n 1, 1) := by decide +kernel
theorem dX5_nextStep_28 : decode cX5_nextStep 28 = .ok (.iconst 1, 1) := by decide +kernel
theorem dX5_nextStep_29 : decode cX5_nextStep 29 = .ok (.iload 5, 2) := by decide +kernel
theorem dX5_nextStep_31 : decode cX5_nextStep 31 = .ok (.ishl, 1) := by decide +kernel
theorem dX5_nextStep_32 : decode cX5_nextStep 32 = .ok (.ior, 1) := by decide +kernel
theorem dX5_nextStep_33 : decode cX5_nextStep 33 = .ok (.invokevirtual 97, 3) := by decide +kernel
theorem dX5_nextStep_36 : decode cX5_nextStep 36 = .ok (.iload 4, 2) := by decide +kernel
theorem dX5_nextStep_38 : decode cX5_nextStep 38 = .ok (.isub, 1) := by decide +kernel
theorem dX5_nextStep_39 : decode cX5_nextStep 39 = .ok (.istore 6, 2) := by decide +kernel
theorem dX5_nextStep_41 : decode cX5_nextStep 41 = .ok (.iload_n 2, 1) := by decide +kernel
theorem dX5_nextStep_42 : decode cX5_nextStep 42 = .ok (.iconst (-1), 1) := by decide +kernel
theorem dX5_nextStep_43 : decode cX5_nextStep 43 = .ok (.if_icmp .eq 30, 3) := by decide +kernel
theorem dX5_nextStep_46 : decode cX5_nextStep 46 = .ok (.aload_n 0, 1) := by decide +kernel
theorem dX5_nextStep_47 : decode cX5_nextStep 47 = .ok (.iload 6, 2) := by decide +kernel
theorem dX5_nextStep_49 : decode cX5_nextStep 49 = .ok (.aload_n 0, 1) := by decide +kernel
theorem dX5_nextStep_50 : decode cX5_nextStep 50 = .ok (.getfield 25, 3) := by decide +kernel
theorem dX5_nextStep_53 : decode cX5_nextStep 53 = .ok (.iload 5, 2) := by decide +kernel
theorem dX5_nextStep_55 : decode cX5_nextStep 55 = .ok (.invokevirtual 66, 3) := by decide +kernel
theorem dX5_nextStep_58 : decode cX5_nextStep 58 = .ok (.iload_n 3, 1) := by decide +kernel
theorem dX5_nextStep_59 : decode cX5_nextStep 59 = .ok (.aload_n 0, 1) := by decide +kernel
theorem dX5_nextStep_60 : decode cX5_nextStep 60 = .ok (.getfield 25, 3) := by decide +kernel
theorem dX5_nextStep_63 : decode cX5_nextStep 63 = .ok (.iload_n 2, 1) := by decide +kernel
theorem dX5_nextStep_64 : decode cX5_nextStep 64 = .ok (.invokevirtual 66, 3) := by decide +kernel
theorem dX5_nextStep_67 : decode cX5_nextStep 67 = .ok (.invokevirtual 106, 3) := by decide +kernel
theorem dX5_nextStep_70 : decode cX5_nextStep 70 = .ok (.ifCond .eq 7, 3) := by decide +kernel
theorem dX5_nextStep_73 : decode cX5_nextStep 73 = .ok (.iconst 1, 1) := by decide +kernel
theorem dX5_nextStep_74 : decode cX5_nextStep 74 = .ok (.goto 4, 3) := by decide +kernel
theorem dX5_nextStep_77 : decode cX5_nextStep 77 = .ok (.iconst 0, 1) := by decide +kernel
theorem dX5_nextStep_78 : decode cX5_nextStep 78 = .ok (.istore 7, 2) := by decide +kernel
theorem dX5_nextStep_80 : decode cX5_nextStep 80 = .ok (.iload 6, 2) := by decide +kernel
theorem dX5_nextStep_82 : decode cX5_nextStep 82 = .ok (.ifCond .le 27, 3) := by decide +kernel
theorem dX5_nextStep_85 : decode cX5_nextStep 85 = .ok (.iload 7, 2) := by decide +kernel
theorem dX5_nextStep_87 : decode cX5_nextStep 87 = .ok (.ifCond .eq 22, 3) := by decide +kernel
theorem dX5_nextStep_90 : decode cX5_nextStep 90 = .ok (.aload_n 0, 1) := by decide +kernel
theorem dX5_nextStep_91 : decode cX5_nextStep 91 = .ok (.iload_n 1, 1) := by decide +kernel
theorem dX5_nextStep_92 : decode cX5_nextStep 92 = .ok (.iconst 1, 1) := by decide +kernel
theorem dX5_nextStep_93 : decode cX5_nextStep 93 = .ok (.iload 5, 2) := by decide +kernel
theorem dX5_nextStep_95 : decode cX5_nextStep 95 = .ok (.ishl, 1) := by decide +kernel
theorem dX5_nextStep_96 : decode cX5_nextStep 96 = .ok (.ior, 1) := by decide +kernel
theorem dX5_nextStep_97 : decode cX5_nextStep 97 = .ok (.invokevirtual 94, 3) := by decide +kernel
theorem dX5_nextStep_100 : decode cX5_nextStep 100 = .ok (.ifCond .eq 9, 3) := by decide +kernel
theorem dX5_nextStep_103 : decode cX5_nextStep 103 = .ok (.iload 5, 2) := by decide +kernel
theorem dX5_nextStep_105 : decode cX5_nextStep 105 = .ok (.istore_n 2, 1) := by decide +kernel
theorem dX5_nextStep_106 : decode cX5_nextStep 106 = .ok (.iload 6, 2) := by decide +kernel
theorem dX5_nextStep_108 : decode cX5_nextStep 108 = .ok (.istore_n 3, 1) := by decide +kernel
theorem dX5_nextStep_109 : decode cX5_nextStep 109 = .ok (.iinc 5 1, 3) := by decide +kernel
theorem dX5_nextStep_112 : decode cX5_nextStep 112 = .ok (.goto (-98), 3) := by decide +kernel
theorem dX5_nextStep_115 : decode cX5_nextStep 115 = .ok (.iload_n 2, 1) := by decide +kernel
theorem dX5_nextStep_116 : decode cX5_nextStep 116 = .ok (.ireturn, 1) := by decide +kernel
theorem dX5_makeSteps_0 : decode cX5_makeSteps 0 = .ok (.aload_n 0, 1) := by decide +kernel
theorem dX5_makeSteps_1 : decode cX5_makeSteps 1 = .ok (.iconst 0, 1) := by decide +kernel
theorem dX5_makeSteps_2 : decode cX5_makeSteps 2 = .ok (.putfield 100, 3) := by decide +kernel
theorem dX5_makeSteps_5 : decode cX5_makeSteps 5 = .ok (.iconst 0, 1) := by decide +kernel
theorem dX5_makeSteps_6 : decode cX5_makeSteps 6 = .ok (.istore_n 1, 1) := by decide +kernel
theorem dX5_makeSteps_7 : decode cX5_makeSteps 7 = .ok (.iconst 0, 1) := by decide +kernel
theorem dX5_makeSteps_8 : decode cX5_makeSteps 8 = .ok (.istore_n 2, 1) := by decide +kernel
theorem dX5_makeSteps_9 : decode cX5_makeSteps 9 = .ok (.iload_n 2, 1) := by decide +kernel
theorem dX5_makeSteps_10 : decode cX5_makeSteps 10 = .ok (.bipush 6, 2) := by decide +kernel
theorem dX5_makeSteps_12 : decode cX5_makeSteps 12 = .ok (.if_icmp .ge 46, 3) := by decide +kernel
theorem dX5_makeSteps_15 : decode cX5_makeSteps 15 = .ok (.aload_n 0, 1) := by decide +kernel
theorem dX5_makeSteps_16 : decode cX5_makeSteps 16 = .ok (.iload_n 1, 1) := by decide +kernel
theorem dX5_makeSteps_17 : decode cX5_makeSteps 17 = .ok (.invokevirtual 103, 3) := by decide +kernel
theorem dX5_makeSteps_20 : decode cX5_makeSteps 20 = .ok (.istore_n 3, 1) := by decide +kernel
theorem dX5_makeSteps_21 : decode cX5_makeSteps 21 = .ok (.iload_n 3, 1) := by decide +kernel
theorem dX5_makeSteps_22 : decode cX5_makeSteps 22 = .ok (.iconst (-1), 1) := by decide +kernel
theorem dX5_makeSteps_23 : decode cX5_makeSteps 23 = .ok (.if_icmp .ne 6, 3) := by decide +kernel
theorem dX5_makeSteps_26 : decode cX5_makeSteps 26 = .ok (.goto 32, 3) := by decide +kernel
theorem dX5_makeSteps_29 : decode cX5_makeSteps 29 = .ok (.aload_n 0, 1) := by decide +kernel
theorem dX5_makeSteps_30 : decode cX5_makeSteps 30 = .ok (.getfield 21, 3) := by decide +kernel
theorem dX5_makeSteps_33 : decode cX5_makeSteps 33 = .ok (.iload_n 2, 1) := by decide +kernel
theorem dX5_makeSteps_34 : decode cX5_makeSteps 34 = .ok (.iload_n 3, 1) := by decide +kernel
theorem dX5_makeSteps_35 : decode cX5_makeSteps 35 = .ok (.iastore, 1) := by decide +kernel
theorem dX5_makeSteps_36 : decode cX5_makeSteps 36 = .ok (.aload_n 0, 1) := by decide +kernel
theorem dX5_makeSteps_37 : decode cX5_makeSteps 37 = .ok (.dup, 1) := by decide +kernel
theorem dX5_makeSteps_38 : decode cX5_makeSteps 38 = .ok (.getfield 100, 3) := by decide +kernel
theorem dX5_makeSteps_41 : decode cX5_makeSteps 41 = .ok (.iconst 1, 1) := by decide +kernel
theorem dX5_makeSteps_42 : decode cX5_makeSteps 42 = .ok (.iadd, 1) := by decide +kernel
theorem dX5_makeSteps_43 : decode cX5_makeSteps 43 = .ok (.putfield 100, 3) := by decide +kernel
theorem dX5_makeSteps_46 : decode cX5_makeSteps 46 = .ok (.iload_n 1, 1) := by decide +kernel
theorem dX5_makeSteps_47 : decode cX5_makeSteps 47 = .ok (.iconst 1, 1) := by decide +kernel
theorem dX5_makeSteps_48 : decode cX5_makeSteps 48 = .ok (.iload_n 3, 1) := by decide +kernel
theorem dX5_makeSteps_49 : decode cX5_makeSteps 49 = .ok (.ishl, 1) := by decide +kernel
theorem dX5_makeSteps_50 : decode cX5_makeSteps 50 = .ok (.ior, 1) := by decide +kernel
theorem dX5_makeSteps_51 : decode cX5_makeSteps 51 = .ok (.istore_n 1, 1) := by decide +kernel
theorem dX5_makeSteps_52 : decode cX5_makeSteps 52 = .ok (.iinc 2 1, 3) := by decide +kernel
theorem dX5_makeSteps_55 : decode cX5_makeSteps 55 = .ok (.goto (-46), 3) := by decide +kernel
theorem dX5_makeSteps_58 : decode cX5_makeSteps 58 = .ok (.iload_n 1, 1) := by decide +kernel
theorem dX5_makeSteps_59 : decode cX5_makeSteps 59 = .ok (.ireturn, 1) := by decide +kernel
theorem dX5_greedySet_0 : decode cX5_greedySet 0 = .ok (.aload_n 0, 1) := by decide +kernel
theorem dX5_greedySet_1 : decode cX5_greedySet 1 = .ok (.invokevirtual 110, 3) := by decide +kernel
theorem dX5_greedySet_4 : decode cX5_greedySet 4 = .ok (.istore_n 1, 1) := by decide +kernel
theorem dX5_greedySet_5 : decode cX5_greedySet 5 = .ok (.aload_n 0, 1) := by decide +kernel
theorem dX5_greedySet_6 : decode cX5_greedySet 6 = .ok (.iload_n 1, 1) := by decide +kernel
theorem dX5_greedySet_7 : decode cX5_greedySet 7 = .ok (.invokevirtual 97, 3) := by decide +kernel
theorem dX5_greedySet_10 : decode cX5_greedySet 10 = .ok (.istore_n 2, 1) := by decide +kernel
theorem dX5_greedySet_11 : decode cX5_greedySet 11 = .ok (.iconst 0, 1) := by decide +kernel
theorem dX5_greedySet_12 : decode cX5_greedySet 12 = .ok (.istore_n 3, 1) := by decide +kernel
theorem dX5_greedySet_13 : decode cX5_greedySet 13 = .ok (.iload_n 3, 1) := by decide +kernel
theorem dX5_greedySet_14 : decode cX5_greedySet 14 = .ok (.aload_n 0, 1) := by decide +kernel
theorem dX5_greedySet_15 : decode cX5_greedySet 15 = .ok (.getfield 25, 3) := by decide +kernel
theorem dX5_greedySet_18 : decode cX5_greedySet 18 = .ok (.getfield 57, 3) := by decide +kernel
theorem dX5_greedySet_21 : decode cX5_greedySet 21 = .ok (.if_icmp .ge 40, 3) := by decide +kernel
theorem dX5_greedySet_24 : decode cX5_greedySet 24 = .ok (.aload_n 0, 1) := by decide +kernel
theorem dX5_greedySet_25 : decode cX5_greedySet 25 = .ok (.iconst 1, 1) := by decide +kernel
theorem dX5_greedySet_26 : decode cX5_greedySet 26 = .ok (.iload_n 3, 1) := by decide +kernel
theorem dX5_greedySet_27 : decode cX5_greedySet 27 = .ok (.ishl, 1) := by decide +kernel
theorem dX5_greedySet_28 : decode cX5_greedySet 28 = .ok (.invokevirtual 97, 3) := by decide +kernel
theorem dX5_greedySet_31 : decode cX5_greedySet 31 = .ok (.iload_n 2, 1) := by decide +kernel
theorem dX5_greedySet_32 : decode cX5_greedySet 32 = .ok (.if_icmp .le 23, 3) := by decide +kernel
theorem dX5_greedySet_35 : decode cX5_greedySet 35 = .ok (.aload_n 0, 1) := by decide +kernel
theorem dX5_greedySet_36 : decode cX5_greedySet 36 = .ok (.iconst 1, 1) := by decide +kernel
theorem dX5_greedySet_37 : decode cX5_greedySet 37 = .ok (.iload_n 3, 1) := by decide +kernel
theorem dX5_greedySet_38 : decode cX5_greedySet 38 = .ok (.ishl, 1) := by decide +kernel
theorem dX5_greedySet_39 : decode cX5_greedySet 39 = .ok (.invokevirtual 94, 3) := by decide +kernel
theorem dX5_greedySet_42 : decode cX5_greedySet 42 = .ok (.ifCond .eq 13, 3) := by decide +kernel
theorem dX5_greedySet_45 : decode cX5_greedySet 45 = .ok (.iconst 1, 1) := by decide +kernel
theorem dX5_greedySet_46 : decode cX5_greedySet 46 = .ok (.iload_n 3, 1) := by decide +kernel
theorem dX5_greedySet_47 : decode cX5_greedySet 47 = .ok (.ishl, 1) := by decide +kernel
theorem dX5_greedySet_48 : decode cX5_greedySet 48 = .ok (.istore_n 1, 1) := by decide +kernel
theorem dX5_greedySet_49 : decode cX5_greedySet 49 = .ok (.aload_n 0, 1) := by decide +kernel
theorem dX5_greedySet_50 : decode cX5_greedySet 50 = .ok (.iload_n 1, 1) := by decide +kernel
theorem dX5_greedySet_51 : decode cX5_greedySet 51 = .ok (.invokevirtual 97, 3) := by decide +kernel
theorem dX5_greedySet_54 : decode cX5_greedySet 54 = .ok (.istore_n 2, 1) := by decide +kernel
theorem dX5_greedySet_55 : decode cX5_greedySet 55 = .ok (.iinc 3 1, 3) := by decide +kernel
theorem dX5_greedySet_58 : decode cX5_greedySet 58 = .ok (.goto (-45), 3) := by decide +kernel
theorem dX5_greedySet_61 : decode cX5_greedySet 61 = .ok (.iload_n 1, 1) := by decide +kernel
theorem dX5_greedySet_62 : decode cX5_greedySet 62 = .ok (.ireturn, 1) := by decide +kernel
theorem dX5_sentencesOfWorth_0 : decode cX5_sentencesOfWorth 0 = .ok (.iconst 0, 1) := by decide +kernel
theorem dX5_sentencesOfWorth_1 : decode cX5_sentencesOfWorth 1 = .ok (.istore_n 1, 1) := by decide +kernel
theorem dX5_sentencesOfWorth_2 : decode cX5_sentencesOfWorth 2 = .ok (.iconst 0, 1) := by decide +kernel
theorem dX5_sentencesOfWorth_3 : decode cX5_sentencesOfWorth 3 = .ok (.istore_n 2, 1) := by decide +kernel
theorem dX5_sentencesOfWorth_4 : decode cX5_sentencesOfWorth 4 = .ok (.iload_n 2, 1) := by decide +kernel
theorem dX5_sentencesOfWorth_5 : decode cX5_sentencesOfWorth 5 = .ok (.aload_n 0, 1) := by decide +kernel
theorem dX5_sentencesOfWorth_6 : decode cX5_sentencesOfWorth 6 = .ok (.getfield 25, 3) := by decide +kernel
theorem dX5_sentencesOfWorth_9 : decode cX5_sentencesOfWorth 9 = .ok (.getfield 57, 3) := by decide +kernel
theorem dX5_sentencesOfWorth_12 : decode cX5_sentencesOfWorth 12 = .ok (.if_icmp .ge 33, 3) := by decide +kernel
theorem dX5_sentencesOfWorth_15 : decode cX5_sentencesOfWorth 15 = .ok (.iload_n 1, 1) := by decide +kernel
theorem dX5_sentencesOfWorth_16 : decode cX5_sentencesOfWorth 16 = .ok (.aload_n 0, 1) := by decide +kernel
theorem dX5_sentencesOfWorth_17 : decode cX5_sentencesOfWorth 17 = .ok (.getfield 33, 3) := by decide +kernel
theorem dX5_sentencesOfWorth_20 : decode cX5_sentencesOfWorth 20 = .ok (.getfield 127, 3) := by decide +kernel
theorem dX5_sentencesOfWorth_23 : decode cX5_sentencesOfWorth 23 = .ok (.iload_n 2, 1) := by decide +kernel
theorem dX5_sentencesOfWorth_24 : decode cX5_sentencesOfWorth 24 = .ok (.laload, 1) := by decide +kernel
theorem dX5_sentencesOfWorth_25 : decode cX5_sentencesOfWorth 25 = .ok (.lconst 0, 1) := by decide +kernel
theorem dX5_sentencesOfWorth_26 : decode cX5_sentencesOfWorth 26 = .ok (.lcmp, 1) := by decide +kernel
theorem dX5_sentencesOfWorth_27 : decode cX5_sentencesOfWorth 27 = .ok (.ifCond .eq 9, 3) := by decide +kernel
theorem dX5_sentencesOfWorth_30 : decode cX5_sentencesOfWorth 30 = .ok (.iconst 1, 1) := by decide +kernel
theorem dX5_sentencesOfWorth_31 : decode cX5_sentencesOfWorth 31 = .ok (.iload_n 2, 1) := by decide +kernel
theorem dX5_sentencesOfWorth_32 : decode cX5_sentencesOfWorth 32 = .ok (.ishl, 1) := by decide +kernel
theorem dX5_sentencesOfWorth_33 : decode cX5_sentencesOfWorth 33 = .ok (.goto 4, 3) := by decide +kernel
theorem dX5_sentencesOfWorth_36 : decode cX5_sentencesOfWorth 36 = .ok (.iconst 0, 1) := by decide +kernel
theorem dX5_sentencesOfWorth_37 : decode cX5_sentencesOfWorth 37 = .ok (.ior, 1) := by decide +kernel
theorem dX5_sentencesOfWorth_38 : decode cX5_sentencesOfWorth 38 = .ok (.istore_n 1, 1) := by decide +kernel
theorem dX5_sentencesOfWorth_39 : decode cX5_sentencesOfWorth 39 = .ok (.iinc 2 1, 3) := by decide +kernel
theorem dX5_sentencesOfWorth_42 : decode cX5_sentencesOfWorth 42 = .ok (.goto (-38), 3) := by decide +kernel
theorem dX5_sentencesOfWorth_45 : decode cX5_sentencesOfWorth 45 = .ok (.iload_n 1, 1) := by decide +kernel
theorem dX5_sentencesOfWorth_46 : decode cX5_sentencesOfWorth 46 = .ok (.ireturn, 1) := by decide +kernel
theorem dX5_bestSet_0 : decode cX5_bestSet 0 = .ok (.aload_n 0, 1) := by decide +kernel
theorem dX5_bestSet_1 : decode cX5_bestSet 1 = .ok (.getfield 49, 3) := by decide +kernel
theorem dX5_bestSet_4 : decode cX5_bestSet 4 = .ok (.ifCond .ne 41, 3) := by decide +kernel
theorem dX5_bestSet_7 : decode cX5_bestSet 7 = .ok (.aload_n 0, 1) := by decide +kernel
theorem dX5_bestSet_8 : decode cX5_bestSet 8 = .ok (.getfield 42, 3) := by decide +kernel
theorem dX5_bestSet_11 : decode cX5_bestSet 11 = .ok (.aload_n 0, 1) := by decide +kernel
theorem dX5_bestSet_12 : decode cX5_bestSet 12 = .ok (.invokevirtual 114, 3) := by decide +kernel
theorem dX5_bestSet_15 : decode cX5_bestSet 15 = .ok (.aload_n 0, 1) := by decide +kernel
theorem dX5_bestSet_16 : decode cX5_bestSet 16 = .ok (.getfield 15, 3) := by decide +kernel
theorem dX5_bestSet_19 : decode cX5_bestSet 19 = .ok (.aload_n 0, 1) := by decide +kernel
theorem dX5_bestSet_20 : decode cX5_bestSet 20 = .ok (.getfield 9, 3) := by decide +kernel
theorem dX5_bestSet_23 : decode cX5_bestSet 23 = .ok (.sipush 1008, 3) := by decide +kernel
theorem dX5_bestSet_26 : decode cX5_bestSet 26 = .ok (.invokevirtual 117, 3) := by decide +kernel
theorem dX5_bestSet_29 : decode cX5_bestSet 29 = .ok (.aload_n 0, 1) := by decide +kernel
theorem dX5_bestSet_30 : decode cX5_bestSet 30 = .ok (.aload_n 0, 1) := by decide +kernel
theorem dX5_bestSet_31 : decode cX5_bestSet 31 = .ok (.getfield 42, 3) := by decide +kernel
theorem dX5_bestSet_34 : decode cX5_bestSet 34 = .ok (.getfield 121, 3) := by decide +kernel
theorem dX5_bestSet_37 : decode cX5_bestSet 37 = .ok (.putfield 124, 3) := by decide +kernel
theorem dX5_bestSet_40 : decode cX5_bestSet 40 = .ok (.aload_n 0, 1) := by decide +kernel
theorem dX5_bestSet_41 : decode cX5_bestSet 41 = .ok (.iconst 1, 1) := by decide +kernel
theorem dX5_bestSet_42 : decode cX5_bestSet 42 = .ok (.putfield 49, 3) := by decide +kernel
theorem dX5_bestSet_45 : decode cX5_bestSet 45 = .ok (.aload_n 0, 1) := by decide +kernel
theorem dX5_bestSet_46 : decode cX5_bestSet 46 = .ok (.getfield 124, 3) := by decide +kernel
theorem dX5_bestSet_49 : decode cX5_bestSet 49 = .ok (.ireturn, 1) := by decide +kernel
theorem dX5_leastBudgetFor_0 : decode cX5_leastBudgetFor 0 = .ok (.aload_n 0, 1) := by decide +kernel
theorem dX5_leastBudgetFor_1 : decode cX5_leastBudgetFor 1 = .ok (.getfield 42, 3) := by decide +kernel
theorem dX5_leastBudgetFor_4 : decode cX5_leastBudgetFor 4 = .ok (.aload_n 0, 1) := by decide +kernel
theorem dX5_leastBudgetFor_5 : decode cX5_leastBudgetFor 5 = .ok (.invokevirtual 114, 3) := by decide +kernel
theorem dX5_leastBudgetFor_8 : decode cX5_leastBudgetFor 8 = .ok (.aload_n 0, 1) := by decide +kernel
theorem dX5_leastBudgetFor_9 : decode cX5_leastBudgetFor 9 = .ok (.getfield 15, 3) := by decide +kernel
theorem dX5_leastBudgetFor_12 : decode cX5_leastBudgetFor 12 = .ok (.sipush 700, 3) := by decide +kernel
theorem dX5_leastBudgetFor_15 : decode cX5_leastBudgetFor 15 = .ok (.iload_n 1, 1) := by decide +kernel
theorem dX5_leastBudgetFor_16 : decode cX5_leastBudgetFor 16 = .ok (.invokevirtual 117, 3) := by decide +kernel
theorem dX5_leastBudgetFor_19 : decode cX5_leastBudgetFor 19 = .ok (.aload_n 0, 1) := by decide +kernel
theorem dX5_leastBudgetFor_20 : decode cX5_leastBudgetFor 20 = .ok (.getfield 42, 3) := by decide +kernel
theorem dX5_leastBudgetFor_23 : decode cX5_leastBudgetFor 23 = .ok (.getfield 131, 3) := by decide +kernel
theorem dX5_leastBudgetFor_26 : decode cX5_leastBudgetFor 26 = .ok (.iload_n 1, 1) := by decide +kernel
theorem dX5_leastBudgetFor_27 : decode cX5_leastBudgetFor 27 = .ok (.if_icmp .ge 7, 3) := by decide +kernel
theorem dX5_leastBudgetFor_30 : decode cX5_leastBudgetFor 30 = .ok (.iconst (-1), 1) := by decide +kernel
theorem dX5_leastBudgetFor_31 : decode cX5_leastBudgetFor 31 = .ok (.goto 15, 3) := by decide +kernel
theorem dX5_leastBudgetFor_34 : decode cX5_leastBudgetFor 34 = .ok (.aload_n 0, 1) := by decide +kernel
theorem dX5_leastBudgetFor_35 : decode cX5_leastBudgetFor 35 = .ok (.getfield 42, 3) := by decide +kernel
theorem dX5_leastBudgetFor_38 : decode cX5_leastBudgetFor 38 = .ok (.getfield 134, 3) := by decide +kernel
theorem dX5_leastBudgetFor_41 : decode cX5_leastBudgetFor 41 = .ok (.bipush 20, 2) := by decide +kernel
theorem dX5_leastBudgetFor_43 : decode cX5_leastBudgetFor 43 = .ok (.invokestatic 137, 3) := by decide +kernel
theorem dX5_leastBudgetFor_46 : decode cX5_leastBudgetFor 46 = .ok (.ireturn, 1) := by decide +kernel
theorem dX5_lossWithout_0 : decode cX5_lossWithout 0 = .ok (.aload_n 0, 1) := by decide +kernel
theorem dX5_lossWithout_1 : decode cX5_lossWithout 1 = .ok (.aload_n 0, 1) := by decide +kernel
theorem dX5_lossWithout_2 : decode cX5_lossWithout 2 = .ok (.invokevirtual 143, 3) := by decide +kernel
theorem dX5_lossWithout_5 : decode cX5_lossWithout 5 = .ok (.invokevirtual 97, 3) := by decide +kernel
theorem dX5_lossWithout_8 : decode cX5_lossWithout 8 = .ok (.istore_n 2, 1) := by decide +kernel
theorem dX5_lossWithout_9 : decode cX5_lossWithout 9 = .ok (.aload_n 0, 1) := by decide +kernel
theorem dX5_lossWithout_10 : decode cX5_lossWithout 10 = .ok (.getfield 124, 3) := by decide +kernel
theorem dX5_lossWithout_13 : decode cX5_lossWithout 13 = .ok (.iload_n 1, 1) := by decide +kernel
theorem dX5_lossWithout_14 : decode cX5_lossWithout 14 = .ok (.invokestatic 62, 3) := by decide +kernel
theorem dX5_lossWithout_17 : decode cX5_lossWithout 17 = .ok (.ifCond .ne 5, 3) := by decide +kernel
theorem dX5_lossWithout_20 : decode cX5_lossWithout 20 = .ok (.iconst 0, 1) := by decide +kernel
theorem dX5_lossWithout_21 : decode cX5_lossWithout 21 = .ok (.ireturn, 1) := by decide +kernel
theorem dX5_lossWithout_22 : decode cX5_lossWithout 22 = .ok (.aload_n 0, 1) := by decide +kernel
theorem dX5_lossWithout_23 : decode cX5_lossWithout 23 = .ok (.getfield 42, 3) := by decide +kernel
theorem dX5_lossWithout_26 : decode cX5_lossWithout 26 = .ok (.aload_n 0, 1) := by decide +kernel
theorem dX5_lossWithout_27 : decode cX5_lossWithout 27 = .ok (.invokevirtual 114, 3) := by decide +kernel
theorem dX5_lossWithout_30 : decode cX5_lossWithout 30 = .ok (.iconst 1, 1) := by decide +kernel
theorem dX5_lossWithout_31 : decode cX5_lossWithout 31 = .ok (.iload_n 1, 1) := by decide +kernel
theorem dX5_lossWithout_32 : decode cX5_lossWithout 32 = .ok (.ishl, 1) := by decide +kernel
theorem dX5_lossWithout_33 : decode cX5_lossWithout 33 = .ok (.iconst (-1), 1) := by decide +kernel
theorem dX5_lossWithout_34 : decode cX5_lossWithout 34 = .ok (.ixor, 1) := by decide +kernel
theorem dX5_lossWithout_35 : decode cX5_lossWithout 35 = .ok (.iand, 1) := by decide +kernel
theorem dX5_lossWithout_36 : decode cX5_lossWithout 36 = .ok (.aload_n 0, 1) := by decide +kernel
theorem dX5_lossWithout_37 : decode cX5_lossWithout 37 = .ok (.getfield 15, 3) := by decide +kernel
theorem dX5_lossWithout_40 : decode cX5_lossWithout 40 = .ok (.aload_n 0, 1) := by decide +kernel
theorem dX5_lossWithout_41 : decode cX5_lossWithout 41 = .ok (.getfield 9, 3) := by decide +kernel
theorem dX5_lossWithout_44 : decode cX5_lossWithout 44 = .ok (.sipush 1008, 3) := by decide +kernel
theorem dX5_lossWithout_47 : decode cX5_lossWithout 47 = .ok (.invokevirtual 117, 3) := by decide +kernel
theorem dX5_lossWithout_50 : decode cX5_lossWithout 50 = .ok (.iload_n 2, 1) := by decide +kernel
theorem dX5_lossWithout_51 : decode cX5_lossWithout 51 = .ok (.aload_n 0, 1) := by decide +kernel
theorem dX5_lossWithout_52 : decode cX5_lossWithout 52 = .ok (.getfield 42, 3) := by decide +kernel
theorem dX5_lossWithout_55 : decode cX5_lossWithout 55 = .ok (.getfield 131, 3) := by decide +kernel
theorem dX5_lossWithout_58 : decode cX5_lossWithout 58 = .ok (.isub, 1) := by decide +kernel
theorem dX5_lossWithout_59 : decode cX5_lossWithout 59 = .ok (.ireturn, 1) := by decide +kernel
theorem dX5_variety_0 : decode cX5_variety 0 = .ok (.aload_n 0, 1) := by decide +kernel
theorem dX5_variety_1 : decode cX5_variety 1 = .ok (.getfield 42, 3) := by decide +kernel
theorem dX5_variety_4 : decode cX5_variety 4 = .ok (.invokevirtual 146, 3) := by decide +kernel
theorem dX5_variety_7 : decode cX5_variety 7 = .ok (.ireturn, 1) := by decide +kernel
theorem dX5_hundredths_0 : decode cX5_hundredths 0 = .ok (.aload_n 0, 1) := by decide +kernel
theorem dX5_hundredths_1 : decode cX5_hundredths 1 = .ok (.iload_n 2, 1) := by decide +kernel
theorem dX5_hundredths_2 : decode cX5_hundredths 2 = .ok (.invokevirtual 97, 3) := by decide +kernel
theorem dX5_hundredths_5 : decode cX5_hundredths 5 = .ok (.istore_n 3, 1) := by decide +kernel
theorem dX5_hundredths_6 : decode cX5_hundredths 6 = .ok (.iload_n 3, 1) := by decide +kernel
theorem dX5_hundredths_7 : decode cX5_hundredths 7 = .ok (.ifCond .ne 8, 3) := by decide +kernel
theorem dX5_hundredths_10 : decode cX5_hundredths 10 = .ok (.bipush 100, 2) := by decide +kernel
theorem dX5_hundredths_12 : decode cX5_hundredths 12 = .ok (.goto 13, 3) := by decide +kernel
theorem dX5_hundredths_15 : decode cX5_hundredths 15 = .ok (.aload_n 0, 1) := by decide +kernel
theorem dX5_hundredths_16 : decode cX5_hundredths 16 = .ok (.iload_n 1, 1) := by decide +kernel
theorem dX5_hundredths_17 : decode cX5_hundredths 17 = .ok (.invokevirtual 97, 3) := by decide +kernel
theorem dX5_hundredths_20 : decode cX5_hundredths 20 = .ok (.bipush 100, 2) := by decide +kernel
theorem dX5_hundredths_22 : decode cX5_hundredths 22 = .ok (.imul, 1) := by decide +kernel
theorem dX5_hundredths_23 : decode cX5_hundredths 23 = .ok (.iload_n 3, 1) := by decide +kernel
theorem dX5_hundredths_24 : decode cX5_hundredths 24 = .ok (.idiv, 1) := by decide +kernel
theorem dX5_hundredths_25 : decode cX5_hundredths 25 = .ok (.ireturn, 1) := by decide +kernel
theorem dX5_exchanged_0 : decode cX5_exchanged 0 = .ok (.aload_n 0, 1) := by decide +kernel
theorem dX5_exchanged_1 : decode cX5_exchanged 1 = .ok (.getfield 46, 3) := by decide +kernel
theorem dX5_exchanged_4 : decode cX5_exchanged 4 = .ok (.iconst 1, 1) := by decide +kernel
theorem dX5_exchanged_5 : decode cX5_exchanged 5 = .ok (.iload_n 1, 1) := by decide +kernel
theorem dX5_exchanged_6 : decode cX5_exchanged 6 = .ok (.ishl, 1) := by decide +kernel
theorem dX5_exchanged_7 : decode cX5_exchanged 7 = .ok (.iconst (-1), 1) := by decide +kernel
theorem dX5_exchanged_8 : decode cX5_exchanged 8 = .ok (.ixor, 1) := by decide +kernel
theorem dX5_exchanged_9 : decode cX5_exchanged 9 = .ok (.iand, 1) := by decide +kernel
theorem dX5_exchanged_10 : decode cX5_exchanged 10 = .ok (.iconst 1, 1) := by decide +kernel
theorem dX5_exchanged_11 : decode cX5_exchanged 11 = .ok (.iload_n 2, 1) := by decide +kernel
theorem dX5_exchanged_12 : decode cX5_exchanged 12 = .ok (.ishl, 1) := by decide +kernel
theorem dX5_exchanged_13 : decode cX5_exchanged 13 = .ok (.ior, 1) := by decide +kernel
theorem dX5_exchanged_14 : decode cX5_exchanged 14 = .ok (.ireturn, 1) := by decide +kernel
theorem dX5_tryExchange_0 : decode cX5_tryExchange 0 = .ok (.aload_n 0, 1) := by decide +kernel
theorem dX5_tryExchange_1 : decode cX5_tryExchange 1 = .ok (.iload_n 1, 1) := by decide +kernel
theorem dX5_tryExchange_2 : decode cX5_tryExchange 2 = .ok (.iload_n 2, 1) := by decide +kernel
theorem dX5_tryExchange_3 : decode cX5_tryExchange 3 = .ok (.invokevirtual 162, 3) := by decide +kernel
theorem dX5_tryExchange_6 : decode cX5_tryExchange 6 = .ok (.istore 4, 2) := by decide +kernel
theorem dX5_tryExchange_8 : decode cX5_tryExchange 8 = .ok (.aload_n 0, 1) := by decide +kernel
theorem dX5_tryExchange_9 : decode cX5_tryExchange 9 = .ok (.iload 4, 2) := by decide +kernel
theorem dX5_tryExchange_11 : decode cX5_tryExchange 11 = .ok (.invokevirtual 97, 3) := by decide +kernel
theorem dX5_tryExchange_14 : decode cX5_tryExchange 14 = .ok (.iload_n 3, 1) := by decide +kernel
theorem dX5_tryExchange_15 : decode cX5_tryExchange 15 = .ok (.isub, 1) := by decide +kernel
theorem dX5_tryExchange_16 : decode cX5_tryExchange 16 = .ok (.istore 5, 2) := by decide +kernel
theorem dX5_tryExchange_18 : decode cX5_tryExchange 18 = .ok (.iload 5, 2) := by decide +kernel
theorem dX5_tryExchange_20 : decode cX5_tryExchange 20 = .ok (.aload_n 0, 1) := by decide +kernel
theorem dX5_tryExchange_21 : decode cX5_tryExchange 21 = .ok (.getfield 155, 3) := by decide +kernel
theorem dX5_tryExchange_24 : decode cX5_tryExchange 24 = .ok (.if_icmp .le 28, 3) := by decide +kernel
theorem dX5_tryExchange_27 : decode cX5_tryExchange 27 = .ok (.aload_n 0, 1) := by decide +kernel
theorem dX5_tryExchange_28 : decode cX5_tryExchange 28 = .ok (.iload 4, 2) := by decide +kernel
theorem dX5_tryExchange_30 : decode cX5_tryExchange 30 = .ok (.invokevirtual 94, 3) := by decide +kernel
theorem dX5_tryExchange_33 : decode cX5_tryExchange 33 = .ok (.ifCond .eq 19, 3) := by decide +kernel
theorem dX5_tryExchange_36 : decode cX5_tryExchange 36 = .ok (.aload_n 0, 1) := by decide +kernel
theorem dX5_tryExchange_37 : decode cX5_tryExchange 37 = .ok (.iload_n 1, 1) := by decide +kernel
theorem dX5_tryExchange_38 : decode cX5_tryExchange 38 = .ok (.putfield 149, 3) := by decide +kernel
theorem dX5_tryExchange_41 : decode cX5_tryExchange 41 = .ok (.aload_n 0, 1) := by decide +kernel
theorem dX5_tryExchange_42 : decode cX5_tryExchange 42 = .ok (.iload_n 2, 1) := by decide +kernel
theorem dX5_tryExchange_43 : decode cX5_tryExchange 43 = .ok (.putfield 152, 3) := by decide +kernel
theorem dX5_tryExchange_46 : decode cX5_tryExchange 46 = .ok (.aload_n 0, 1) := by decide +kernel
theorem dX5_tryExchange_47 : decode cX5_tryExchange 47 = .ok (.iload 5, 2) := by decide +kernel
theorem dX5_tryExchange_49 : decode cX5_tryExchange 49 = .ok (.putfield 155, 3) := by decide +kernel
theorem dX5_tryExchange_52 : decode cX5_tryExchange 52 = .ok (.return_, 1) := by decide +kernel
theorem dX5_seekExchange_0 : decode cX5_seekExchange 0 = .ok (.aload_n 0, 1) := by decide +kernel
theorem dX5_seekExchange_1 : decode cX5_seekExchange 1 = .ok (.iconst (-1), 1) := by decide +kernel
theorem dX5_seekExchange_2 : decode cX5_seekExchange 2 = .ok (.putfield 149, 3) := by decide +kernel
theorem dX5_seekExchange_5 : decode cX5_seekExchange 5 = .ok (.aload_n 0, 1) := by decide +kernel
theorem dX5_seekExchange_6 : decode cX5_seekExchange 6 = .ok (.iconst (-1), 1) := by decide +kernel
theorem dX5_seekExchange_7 : decode cX5_seekExchange 7 = .ok (.putfield 152, 3) := by decide +kernel
theorem dX5_seekExchange_10 : decode cX5_seekExchange 10 = .ok (.aload_n 0, 1) := by decide +kernel
theorem dX5_seekExchange_11 : decode cX5_seekExchange 11 = .ok (.iconst 0, 1) := by decide +kernel
theorem dX5_seekExchange_12 : decode cX5_seekExchange 12 = .ok (.putfield 155, 3) := by decide +kernel
theorem dX5_seekExchange_15 : decode cX5_seekExchange 15 = .ok (.aload_n 0, 1) := by decide +kernel
theorem dX5_seekExchange_16 : decode cX5_seekExchange 16 = .ok (.aload_n 0, 1) := by decide +kernel
theorem dX5_seekExchange_17 : decode cX5_seekExchange 17 = .ok (.getfield 46, 3) := by decide +kernel
theorem dX5_seekExchange_20 : decode cX5_seekExchange 20 = .ok (.invokevirtual 97, 3) := by decide +kernel
theorem dX5_seekExchange_23 : decode cX5_seekExchange 23 = .ok (.istore_n 1, 1) := by decide +kernel
theorem dX5_seekExchange_24 : decode cX5_seekExchange 24 = .ok (.iconst 0, 1) := by decide +kernel
theorem dX5_seekExchange_25 : decode cX5_seekExchange 25 = .ok (.istore_n 2, 1) := by decide +kernel
theorem dX5_seekExchange_26 : decode cX5_seekExchange 26 = .ok (.iload_n 2, 1) := by decide +kernel
theorem dX5_seekExchange_27 : decode cX5_seekExchange 27 = .ok (.aload_n 0, 1) := by decide +kernel
theorem dX5_seekExchange_28 : decode cX5_seekExchange 28 = .ok (.getfield 25, 3) := by decide +kernel
theorem dX5_seekExchange_31 : decode cX5_seekExchange 31 = .ok (.getfield 57, 3) := by decide +kernel
theorem dX5_seekExchange_34 : decode cX5_seekExchange 34 = .ok (.if_icmp .ge 57, 3) := by decide +kernel
theorem dX5_seekExchange_37 : decode cX5_seekExchange 37 = .ok (.iconst 0, 1) := by decide +kernel
theorem dX5_seekExchange_38 : decode cX5_seekExchange 38 = .ok (.istore_n 3, 1) := by decide +kernel
theorem dX5_seekExchange_39 : decode cX5_seekExchange 39 = .ok (.iload_n 3, 1) := by decide +kernel
theorem dX5_seekExchange_40 : decode cX5_seekExchange 40 = .ok (.aload_n 0, 1) := by decide +kernel
theorem dX5_seekExchange_41 : decode cX5_seekExchange 41 = .ok (.getfield 25, 3) := by decide +kernel
theorem dX5_seekExchange_44 : decode cX5_seekExchange 44 = .ok (.getfield 57, 3) := by decide +kernel
theorem dX5_seekExchange_47 : decode cX5_seekExchange 47 = .ok (.if_icmp .ge 38, 3) := by decide +kernel
theorem dX5_seekExchange_50 : decode cX5_seekExchange 50 = .ok (.aload_n 0, 1) := by decide +kernel
theorem dX5_seekExchange_51 : decode cX5_seekExchange 51 = .ok (.getfield 46, 3) := by decide +kernel
theorem dX5_seekExchange_54 : decode cX5_seekExchange 54 = .ok (.iload_n 2, 1) := by decide +kernel
theorem dX5_seekExchange_55 : decode cX5_seekExchange 55 = .ok (.invokestatic 62, 3) := by decide +kernel
theorem dX5_seekExchange_58 : decode cX5_seekExchange 58 = .ok (.ifCond .eq 27, 3) := by decide +kernel
theorem dX5_seekExchange_61 : decode cX5_seekExchange 61 = .ok (.aload_n 0, 1) := by decide +kernel
theorem dX5_seekExchange_62 : decode cX5_seekExchange 62 = .ok (.getfield 46, 3) := by decide +kernel
theorem dX5_seekExchange_65 : decode cX5_seekExchange 65 = .ok (.iload_n 3, 1) := by decide +kernel
theorem dX5_seekExchange_66 : decode cX5_seekExchange 66 = .ok (.invokestatic 62, 3) := by decide +kernel
theorem dX5_seekExchange_69 : decode cX5_seekExchange 69 = .ok (.ifCond .ne 10, 3) := by decide +kernel
theorem dX5_seekExchange_72 : decode cX5_seekExchange 72 = .ok (.aload_n 0, 1) := by decide +kernel
theorem dX5_seekExchange_73 : decode cX5_seekExchange 73 = .ok (.iload_n 2, 1) := by decide +kernel
theorem dX5_seekExchange_74 : decode cX5_seekExchange 74 = .ok (.iload_n 3, 1) := by decide +kernel
theorem dX5_seekExchange_75 : decode cX5_seekExchange 75 = .ok (.iload_n 1, 1) := by decide +kernel
theorem dX5_seekExchange_76 : decode cX5_seekExchange 76 = .ok (.invokevirtual 158, 3) := by decide +kernel
theorem dX5_seekExchange_79 : decode cX5_seekExchange 79 = .ok (.iinc 3 1, 3) := by decide +kernel
theorem dX5_seekExchange_82 : decode cX5_seekExchange 82 = .ok (.goto (-43), 3) := by decide +kernel
theorem dX5_seekExchange_85 : decode cX5_seekExchange 85 = .ok (.iinc 2 1, 3) := by decide +kernel
theorem dX5_seekExchange_88 : decode cX5_seekExchange 88 = .ok (.goto (-62), 3) := by decide +kernel
theorem dX5_seekExchange_91 : decode cX5_seekExchange 91 = .ok (.return_, 1) := by decide +kernel
theorem dX5_countAhead_0 : decode cX5_countAhead 0 = .ok (.iconst 0, 1) := by decide +kernel
theorem dX5_countAhead_1 : decode cX5_countAhead 1 = .ok (.istore_n 2, 1) := by decide +kernel
theorem dX5_countAhead_2 : decode cX5_countAhead 2 = .ok (.aload_n 0, 1) := by decide +kernel
theorem dX5_countAhead_3 : decode cX5_countAhead 3 = .ok (.getfield 29, 3) := by decide +kernel
theorem dX5_countAhead_6 : decode cX5_countAhead 6 = .ok (.aload_n 0, 1) := by decide +kernel
theorem dX5_countAhead_7 : decode cX5_countAhead 7 = .ok (.getfield 33, 3) := by decide +kernel
theorem dX5_countAhead_10 : decode cX5_countAhead 10 = .ok (.getfield 127, 3) := by decide +kernel
theorem dX5_countAhead_13 : decode cX5_countAhead 13 = .ok (.iload_n 1, 1) := by decide +kernel
theorem dX5_countAhead_14 : decode cX5_countAhead 14 = .ok (.laload, 1) := by decide +kernel
theorem dX5_countAhead_15 : decode cX5_countAhead 15 = .ok (.invokevirtual 76, 3) := by decide +kernel
theorem dX5_countAhead_18 : decode cX5_countAhead 18 = .ok (.istore_n 3, 1) := by decide +kernel
theorem dX5_countAhead_19 : decode cX5_countAhead 19 = .ok (.iconst 0, 1) := by decide +kernel
theorem dX5_countAhead_20 : decode cX5_countAhead 20 = .ok (.istore 4, 2) := by decide +kernel
theorem dX5_countAhead_22 : decode cX5_countAhead 22 = .ok (.iload 4, 2) := by decide +kernel
theorem dX5_countAhead_24 : decode cX5_countAhead 24 = .ok (.aload_n 0, 1) := by decide +kernel
theorem dX5_countAhead_25 : decode cX5_countAhead 25 = .ok (.getfield 25, 3) := by decide +kernel
theorem dX5_countAhead_28 : decode cX5_countAhead 28 = .ok (.getfield 57, 3) := by decide +kernel
theorem dX5_countAhead_31 : decode cX5_countAhead 31 = .ok (.if_icmp .ge 49, 3) := by decide +kernel
theorem dX5_countAhead_34 : decode cX5_countAhead 34 = .ok (.aload_n 0, 1) := by decide +kernel
theorem dX5_countAhead_35 : decode cX5_countAhead 35 = .ok (.getfield 29, 3) := by decide +kernel
theorem dX5_countAhead_38 : decode cX5_countAhead 38 = .ok (.aload_n 0, 1) := by decide +kernel
theorem dX5_countAhead_39 : decode cX5_countAhead 39 = .ok (.getfield 33, 3) := by decide +kernel
theorem dX5_countAhead_42 : decode cX5_countAhead 42 = .ok (.getfield 127, 3) := by decide +kernel
theorem dX5_countAhead_45 : decode cX5_countAhead 45 = .ok (.iload 4, 2) := by decide +kernel
theorem dX5_countAhead_47 : decode cX5_countAhead 47 = .ok (.laload, 1) := by decide +kernel
theorem dX5_countAhead_48 : decode cX5_countAhead 48 = .ok (.invokevirtual 76, 3) := by decide +kernel
theorem dX5_countAhead_51 : decode cX5_countAhead 51 = .ok (.istore 5, 2) := by decide +kernel
theorem dX5_countAhead_53 : decode cX5_countAhead 53 = .ok (.iload 5, 2) := by decide +kernel
theorem dX5_countAhead_55 : decode cX5_countAhead 55 = .ok (.iload_n 3, 1) := by decide +kernel
theorem dX5_countAhead_56 : decode cX5_countAhead 56 = .ok (.if_icmp .gt 15, 3) := by decide +kernel
theorem dX5_countAhead_59 : decode cX5_countAhead 59 = .ok (.iload 5, 2) := by decide +kernel
theorem dX5_countAhead_61 : decode cX5_countAhead 61 = .ok (.iload_n 3, 1) := by decide +kernel
theorem dX5_countAhead_62 : decode cX5_countAhead 62 = .ok (.if_icmp .ne 12, 3) := by decide +kernel
theorem dX5_countAhead_65 : decode cX5_countAhead 65 = .ok (.iload 4, 2) := by decide +kernel
theorem dX5_countAhead_67 : decode cX5_countAhead 67 = .ok (.iload_n 1, 1) := by decide +kernel
theorem dX5_countAhead_68 : decode cX5_countAhead 68 = .ok (.if_icmp .ge 6, 3) := by decide +kernel
theorem dX5_countAhead_71 : decode cX5_countAhead 71 = .ok (.iinc 2 1, 3) := by decide +kernel
theorem dX5_countAhead_74 : decode cX5_countAhead 74 = .ok (.iinc 4 1, 3) := by decide +kernel
theorem dX5_countAhead_77 : decode cX5_countAhead 77 = .ok (.goto (-55), 3) := by decide +kernel
theorem dX5_countAhead_80 : decode cX5_countAhead 80 = .ok (.iload_n 2, 1) := by decide +kernel
theorem dX5_countAhead_81 : decode cX5_countAhead 81 = .ok (.ireturn, 1) := by decide +kernel
theorem dX5_ranked_0 : decode cX5_ranked 0 = .ok (.iconst 0, 1) := by decide +kernel
theorem dX5_ranked_1 : decode cX5_ranked 1 = .ok (.istore_n 2, 1) := by decide +kernel
theorem dX5_ranked_2 : decode cX5_ranked 2 = .ok (.iload_n 2, 1) := by decide +kernel
theorem dX5_ranked_3 : decode cX5_ranked 3 = .ok (.aload_n 0, 1) := by decide +kernel
theorem dX5_ranked_4 : decode cX5_ranked 4 = .ok (.getfield 25, 3) := by decide +kernel
theorem dX5_ranked_7 : decode cX5_ranked 7 = .ok (.getfield 57, 3) := by decide +kernel
theorem dX5_ranked_10 : decode cX5_ranked 10 = .ok (.if_icmp .ge 20, 3) := by decide +kernel
theorem dX5_ranked_13 : decode cX5_ranked 13 = .ok (.aload_n 0, 1) := by decide +kernel
theorem dX5_ranked_14 : decode cX5_ranked 14 = .ok (.iload_n 2, 1) := by decide +kernel
theorem dX5_ranked_15 : decode cX5_ranked 15 = .ok (.invokevirtual 165, 3) := by decide +kernel
theorem dX5_ranked_18 : decode cX5_ranked 18 = .ok (.iload_n 1, 1) := by decide +kernel
theorem dX5_ranked_19 : decode cX5_ranked 19 = .ok (.if_icmp .ne 5, 3) := by decide +kernel
theorem dX5_ranked_22 : decode cX5_ranked 22 = .ok (.iload_n 2, 1) := by decide +kernel
theorem dX5_ranked_23 : decode cX5_ranked 23 = .ok (.ireturn, 1) := by decide +kernel
theorem dX5_ranked_24 : decode cX5_ranked 24 = .ok (.iinc 2 1, 3) := by decide +kernel
theorem dX5_ranked_27 : decode cX5_ranked 27 = .ok (.goto (-25), 3) := by decide +kernel
theorem dX5_ranked_30 : decode cX5_ranked 30 = .ok (.iconst (-1), 1) := by decide +kernel
theorem dX5_ranked_31 : decode cX5_ranked 31 = .ok (.ireturn, 1) := by decide +kernel
theorem dX6_append_0 : decode cX6_append 0 = .ok (.bipush 24, 2) := by decide +kernel
theorem dX6_append_2 : decode cX6_append 2 = .ok (.istore_n 2, 1) := by decide +kernel
theorem dX6_append_3 : decode cX6_append 3 = .ok (.iload_n 2, 1) := by decide +kernel
theorem dX6_append_4 : decode cX6_append 4 = .ok (.ifCond .lt 45, 3) := by decide +kernel
theorem dX6_append_7 : decode cX6_append 7 = .ok (.aload_n 0, 1) := by decide +kernel
theorem dX6_append_8 : decode cX6_append 8 = .ok (.getfield 15, 3) := by decide +kernel
theorem dX6_append_11 : decode cX6_append 11 = .ok (.sipush 600, 3) := by decide +kernel
theorem dX6_append_14 : decode cX6_append 14 = .ok (.if_icmp .ge 35, 3) := by decide +kernel
theorem dX6_append_17 : decode cX6_append 17 = .ok (.aload_n 0, 1) := by decide +kernel
theorem dX6_append_18 : decode cX6_append 18 = .ok (.getfield 9, 3) := by decide +kernel
theorem dX6_append_21 : decode cX6_append 21 = .ok (.aload_n 0, 1) := by decide +kernel
theorem dX6_append_22 : decode cX6_append 22 = .ok (.getfield 15, 3) := by decide +kernel
theorem dX6_append_25 : decode cX6_append 25 = .ok (.iload_n 1, 1) := by decide +kernel
theorem dX6_append_26 : decode cX6_append 26 = .ok (.iload_n 2, 1) := by decide +kernel
theorem dX6_append_27 : decode cX6_append 27 = .ok (.iushr, 1) := by decide +kernel
theorem dX6_append_28 : decode cX6_append 28 = .ok (.sipush 255, 3) := by decide +kernel
theorem dX6_append_31 : decode cX6_append 31 = .ok (.iand, 1) := by decide +kernel
theorem dX6_append_32 : decode cX6_append 32 = .ok (.iastore, 1) := by decide +kernel
theorem dX6_append_33 : decode cX6_append 33 = .ok (.aload_n 0, 1) := by decide +kernel
theorem dX6_append_34 : decode cX6_append 34 = .ok (.dup, 1) := by decide +kernel
theorem dX6_append_35 : decode cX6_append 35 = .ok (.getfield 15, 3) := by decide +kernel
theorem dX6_append_38 : decode cX6_append 38 = .ok (.iconst 1, 1) := by decide +kernel
theorem dX6_append_39 : decode cX6_append 39 = .ok (.iadd, 1) := by decide +kernel
theorem dX6_append_40 : decode cX6_append 40 = .ok (.putfield 15, 3) := by decide +kernel
theorem dX6_append_43 : decode cX6_append 43 = .ok (.iinc 2 (-8), 3) := by decide +kernel
theorem dX6_append_46 : decode cX6_append 46 = .ok (.goto (-43), 3) := by decide +kernel
theorem dX6_append_49 : decode cX6_append 49 = .ok (.return_, 1) := by decide +kernel
theorem dX7_forget_0 : decode cX7_forget 0 = .ok (.aload_n 0, 1) := by decide +kernel
theorem dX7_forget_1 : decode cX7_forget 1 = .ok (.iconst (-1), 1) := by decide +kernel
theorem dX7_forget_2 : decode cX7_forget 2 = .ok (.putfield 30, 3) := by decide +kernel
theorem dX7_forget_5 : decode cX7_forget 5 = .ok (.aload_n 0, 1) := by decide +kernel
theorem dX7_forget_6 : decode cX7_forget 6 = .ok (.iconst (-1), 1) := by decide +kernel
theorem dX7_forget_7 : decode cX7_forget 7 = .ok (.putfield 34, 3) := by decide +kernel
theorem dX7_forget_10 : decode cX7_forget 10 = .ok (.aload_n 0, 1) := by decide +kernel
theorem dX7_forget_11 : decode cX7_forget 11 = .ok (.iconst 0, 1) := by decide +kernel
theorem dX7_forget_12 : decode cX7_forget 12 = .ok (.putfield 37, 3) := by decide +kernel
theorem dX7_forget_15 : decode cX7_forget 15 = .ok (.aload_n 0, 1) := by decide +kernel
theorem dX7_forget_16 : decode cX7_forget 16 = .ok (.iconst 0, 1) := by decide +kernel
theorem dX7_forget_17 : decode cX7_forget 17 = .ok (.putfield 40, 3) := by decide +kernel
theorem dX7_forget_20 : decode cX7_forget 20 = .ok (.return_, 1) := by decide +kernel
theorem dX7_found_0 : decode cX7_found 0 = .ok (.aload_n 0, 1) := by decide +kernel
theorem dX7_found_1 : decode cX7_found 1 = .ok (.getfield 30, 3) := by decide +kernel
theorem dX7_found_4 : decode cX7_found 4 = .ok (.iconst (-1), 1) := by decide +kernel
theorem dX7_found_5 : decode cX7_found 5 = .ok (.if_icmp .ne 5, 3) := by decide +kernel
theorem dX7_found_8 : decode cX7_found 8 = .ok (.iconst (-1), 1) := by decide +kernel
theorem dX7_found_9 : decode cX7_found 9 = .ok (.ireturn, 1) := by decide +kernel
theorem dX7_found_10 : decode cX7_found 10 = .ok (.iload_n 1, 1) := by decide +kernel
theorem dX7_found_11 : decode cX7_found 11 = .ok (.ifCond .ne 8, 3) := by decide +kernel
theorem dX7_found_14 : decode cX7_found 14 = .ok (.aload_n 0, 1) := by decide +kernel
theorem dX7_found_15 : decode cX7_found 15 = .ok (.getfield 30, 3) := by decide +kernel
theorem dX7_found_18 : decode cX7_found 18 = .ok (.ireturn, 1) := by decide +kernel
theorem dX7_found_19 : decode cX7_found 19 = .ok (.iload_n 1, 1) := by decide +kernel
theorem dX7_found_20 : decode cX7_found 20 = .ok (.iconst 1, 1) := by decide +kernel
theorem dX7_found_21 : decode cX7_found 21 = .ok (.if_icmp .ne 10, 3) := by decide +kernel
theorem dX7_found_24 : decode cX7_found 24 = .ok (.aload_n 0, 1) := by decide +kernel
theorem dX7_found_25 : decode cX7_found 25 = .ok (.getfield 34, 3) := by decide +kernel
theorem dX7_found_28 : decode cX7_found 28 = .ok (.goto 18, 3) := by decide +kernel
theorem dX7_found_31 : decode cX7_found 31 = .ok (.aload_n 0, 1) := by decide +kernel
theorem dX7_found_32 : decode cX7_found 32 = .ok (.getfield 18, 3) := by decide +kernel
theorem dX7_found_35 : decode cX7_found 35 = .ok (.aload_n 0, 1) := by decide +kernel
theorem dX7_found_36 : decode cX7_found 36 = .ok (.getfield 30, 3) := by decide +kernel
theorem dX7_found_39 : decode cX7_found 39 = .ok (.aload_n 0, 1) := by decide +kernel
theorem dX7_found_40 : decode cX7_found 40 = .ok (.getfield 34, 3) := by decide +kernel
theorem dX7_found_43 : decode cX7_found 43 = .ok (.invokevirtual 44, 3) := by decide +kernel
theorem dX7_found_46 : decode cX7_found 46 = .ok (.ireturn, 1) := by decide +kernel
theorem dX7_findReach_0 : decode cX7_findReach 0 = .ok (.aload_n 0, 1) := by decide +kernel
theorem dX7_findReach_1 : decode cX7_findReach 1 = .ok (.getfield 9, 3) := by decide +kernel
theorem dX7_findReach_4 : decode cX7_findReach 4 = .ok (.bipush 100, 2) := by decide +kernel
theorem dX7_findReach_6 : decode cX7_findReach 6 = .ok (.invokestatic 50, 3) := by decide +kernel
theorem dX7_findReach_9 : decode cX7_findReach 9 = .ok (.aload_n 0, 1) := by decide +kernel
theorem dX7_findReach_10 : decode cX7_findReach 10 = .ok (.getfield 15, 3) := by decide +kernel
theorem dX7_findReach_13 : decode cX7_findReach 13 = .ok (.aload_n 0, 1) := by decide +kernel
theorem dX7_findReach_14 : decode cX7_findReach 14 = .ok (.getfield 18, 3) := by decide +kernel
theorem dX7_findReach_17 : decode cX7_findReach 17 = .ok (.getfield 56, 3) := by decide +kernel
theorem dX7_findReach_20 : decode cX7_findReach 20 = .ok (.bipush 100, 2) := by decide +kernel
theorem dX7_findReach_22 : decode cX7_findReach 22 = .ok (.iastore, 1) := by decide +kernel
theorem dX7_findReach_23 : decode cX7_findReach 23 = .ok (.aload_n 0, 1) := by decide +kernel
theorem dX7_findReach_24 : decode cX7_findReach 24 = .ok (.getfield 18, 3) := by decide +kernel
theorem dX7_findReach_27 : decode cX7_findReach 27 = .ok (.getfield 56, 3) := by decide +kernel
theorem dX7_findReach_30 : decode cX7_findReach 30 = .ok (.iconst 1, 1) := by decide +kernel
theorem dX7_findReach_31 : decode cX7_findReach 31 = .ok (.isub, 1) := by decide +kernel
theorem dX7_findReach_32 : decode cX7_findReach 32 = .ok (.istore_n 2, 1) := by decide +kernel
theorem dX7_findReach_33 : decode cX7_findReach 33 = .ok (.iload_n 2, 1) := by decide +kernel
theorem dX7_findReach_34 : decode cX7_findReach 34 = .ok (.ifCond .lt 99, 3) := by decide +kernel
theorem dX7_findReach_37 : decode cX7_findReach 37 = .ok (.aload_n 0, 1) := by decide +kernel
theorem dX7_findReach_38 : decode cX7_findReach 38 = .ok (.getfield 15, 3) := by decide +kernel
theorem dX7_findReach_41 : decode cX7_findReach 41 = .ok (.iload_n 2, 1) := by decide +kernel
theorem dX7_findReach_42 : decode cX7_findReach 42 = .ok (.iconst 0, 1) := by decide +kernel
theorem dX7_findReach_43 : decode cX7_findReach 43 = .ok (.iastore, 1) := by decide +kernel
theorem dX7_findReach_44 : decode cX7_findReach 44 = .ok (.iconst 0, 1) := by decide +kernel
theorem dX7_findReach_45 : decode cX7_findReach 45 = .ok (.istore_n 3, 1) := by decide +kernel
theorem dX7_findReach_46 : decode cX7_findReach 46 = .ok (.iload_n 3, 1) := by decide +kernel
theorem dX7_findReach_47 : decode cX7_findReach 47 = .ok (.aload_n 0, 1) := by decide +kernel
theorem dX7_findReach_48 : decode cX7_findReach 48 = .ok (.getfield 22, 3) := by decide +kernel
theorem dX7_findReach_51 : decode cX7_findReach 51 = .ok (.getfield 59, 3) := by decide +kernel
theorem dX7_findReach_54 : decode cX7_findReach 54 = .ok (.if_icmp .ge 73, 3) := by decide +kernel
theorem dX7_findReach_57 : decode cX7_findReach 57 = .ok (.aload_n 0, 1) := by decide +kernel
theorem dX7_findReach_58 : decode cX7_findReach 58 = .ok (.getfield 26, 3) := by decide +kernel
theorem dX7_findReach_61 : decode cX7_findReach 61 = .ok (.getfield 64, 3) := by decide +kernel
theorem dX7_findReach_64 : decode cX7_findReach 64 = .ok (.iload_n 2, 1) := by decide +kernel
theorem dX7_findReach_65 : decode cX7_findReach 65 = .ok (.iaload, 1) := by decide +kernel
theorem dX7_findReach_66 : decode cX7_findReach 66 = .ok (.iload_n 3, 1) := by decide +kernel
theorem dX7_findReach_67 : decode cX7_findReach 67 = .ok (.invokestatic 69, 3) := by decide +kernel
theorem dX7_findReach_70 : decode cX7_findReach 70 = .ok (.ifCond .eq 22, 3) := by decide +kernel
theorem dX7_findReach_73 : decode cX7_findReach 73 = .ok (.aload_n 0, 1) := by decide +kernel
theorem dX7_findReach_74 : decode cX7_findReach 74 = .ok (.getfield 9, 3) := by decide +kernel
theorem dX7_findReach_77 : decode cX7_findReach 77 = .ok (.iload_n 3, 1) := by decide +kernel
theorem dX7_findReach_78 : decode cX7_findReach 78 = .ok (.iload_n 2, 1) := by decide +kernel
theorem dX7_findReach_79 : decode cX7_findReach 79 = .ok (.aload_n 0, 1) := by decide +kernel
theorem dX7_findReach_80 : decode cX7_findReach 80 = .ok (.getfield 22, 3) := by decide +kernel
theorem dX7_findReach_83 : decode cX7_findReach 83 = .ok (.getfield 73, 3) := by decide +kernel
theorem dX7_findReach_86 : decode cX7_findReach 86 = .ok (.iload_n 3, 1) := by decide +kernel
theorem dX7_findReach_87 : decode cX7_findReach 87 = .ok (.iaload, 1) := by decide +kernel
theorem dX7_findReach_88 : decode cX7_findReach 88 = .ok (.iadd, 1) := by decide +kernel
theorem dX7_findReach_89 : decode cX7_findReach 89 = .ok (.iconst 1, 1) := by decide +kernel
theorem dX7_findReach_90 : decode cX7_findReach 90 = .ok (.isub, 1) := by decide +kernel
theorem dX7_findReach_91 : decode cX7_findReach 91 = .ok (.iastore, 1) := by decide +kernel
theorem dX7_findReach_92 : decode cX7_findReach 92 = .ok (.iload_n 1, 1) := by decide +kernel
theorem dX7_findReach_93 : decode cX7_findReach 93 = .ok (.iload_n 3, 1) := by decide +kernel
theorem dX7_findReach_94 : decode cX7_findReach 94 = .ok (.invokestatic 69, 3) := by decide +kernel
theorem dX7_findReach_97 : decode cX7_findReach 97 = .ok (.ifCond .eq 24, 3) := by decide +kernel
theorem dX7_findReach_100 : decode cX7_findReach 100 = .ok (.aload_n 0, 1) := by decide +kernel
theorem dX7_findReach_101 : decode cX7_findReach 101 = .ok (.getfield 15, 3) := by decide +kernel
theorem dX7_findReach_104 : decode cX7_findReach 104 = .ok (.iload_n 2, 1) := by decide +kernel
theorem dX7_findReach_105 : decode cX7_findReach 105 = .ok (.aload_n 0, 1) := by decide +kernel
theorem dX7_findReach_106 : decode cX7_findReach 106 = .ok (.getfield 15, 3) := by decide +kernel
theorem dX7_findReach_109 : decode cX7_findReach 109 = .ok (.iload_n 2, 1) := by decide +kernel
theorem dX7_findReach_110 : decode cX7_findReach 110 = .ok (.iaload, 1) := by decide +kernel
theorem dX7_findReach_111 : decode cX7_findReach 111 = .ok (.aload_n 0, 1) := by decide +kernel
theorem dX7_findReach_112 : decode cX7_findReach 112 = .ok (.getfield 9, 3) := by decide +kernel
theorem dX7_findReach_115 : decode cX7_findReach 115 = .ok (.iload_n 3, 1) := by decide +kernel
theorem dX7_findReach_116 : decode cX7_findReach 116 = .ok (.iaload, 1) := by decide +kernel
theorem dX7_findReach_117 : decode cX7_findReach 117 = .ok (.invokestatic 76, 3) := by decide +kernel
theorem dX7_findReach_120 : decode cX7_findReach 120 = .ok (.iastore, 1) := by decide +kernel
theorem dX7_findReach_121 : decode cX7_findReach 121 = .ok (.iinc 3 1, 3) := by decide +kernel
theorem dX7_findReach_124 : decode cX7_findReach 124 = .ok (.goto (-78), 3) := by decide +kernel
theorem dX7_findReach_127 : decode cX7_findReach 127 = .ok (.iinc 2 (-1), 3) := by decide +kernel
theorem dX7_findReach_130 : decode cX7_findReach 130 = .ok (.goto (-97), 3) := by decide +kernel
theorem dX7_findReach_133 : decode cX7_findReach 133 = .ok (.return_, 1) := by decide +kernel
theorem dX7_isMinimalFrom_0 : decode cX7_isMinimalFrom 0 = .ok (.aload_n 0, 1) := by decide +kernel
theorem dX7_isMinimalFrom_1 : decode cX7_isMinimalFrom 1 = .ok (.getfield 15, 3) := by decide +kernel
theorem dX7_isMinimalFrom_4 : decode cX7_isMinimalFrom 4 = .ok (.iload_n 1, 1) := by decide +kernel
theorem dX7_isMinimalFrom_5 : decode cX7_isMinimalFrom 5 = .ok (.iaload, 1) := by decide +kernel
theorem dX7_isMinimalFrom_6 : decode cX7_isMinimalFrom 6 = .ok (.aload_n 0, 1) := by decide +kernel
theorem dX7_isMinimalFrom_7 : decode cX7_isMinimalFrom 7 = .ok (.getfield 15, 3) := by decide +kernel
theorem dX7_isMinimalFrom_10 : decode cX7_isMinimalFrom 10 = .ok (.iload_n 1, 1) := by decide +kernel
theorem dX7_isMinimalFrom_11 : decode cX7_isMinimalFrom 11 = .ok (.iconst 1, 1) := by decide +kernel
theorem dX7_isMinimalFrom_12 : decode cX7_isMinimalFrom 12 = .ok (.iadd, 1) := by decide +kernel
theorem dX7_isMinimalFrom_13 : decode cX7_isMinimalFrom 13 = .ok (.iaload, 1) := by decide +kernel
theorem dX7_isMinimalFrom_14 : decode cX7_isMinimalFrom 14 = .ok (.if_icmp .ge 7, 3) := by decide +kernel
theorem dX7_isMinimalFrom_17 : decode cX7_isMinimalFrom 17 = .ok (.iconst 1, 1) := by decide +kernel
theorem dX7_isMinimalFrom_18 : decode cX7_isMinimalFrom 18 = .ok (.goto 4, 3) := by decide +kernel
theorem dX7_isMinimalFrom_21 : decode cX7_isMinimalFrom 21 = .ok (.iconst 0, 1) := by decide +kernel
theorem dX7_isMinimalFrom_22 : decode cX7_isMinimalFrom 22 = .ok (.ireturn, 1) := by decide +kernel
theorem dX7_countMinimal_0 : decode cX7_countMinimal 0 = .ok (.aload_n 0, 1) := by decide +kernel
theorem dX7_countMinimal_1 : decode cX7_countMinimal 1 = .ok (.iload_n 1, 1) := by decide +kernel
theorem dX7_countMinimal_2 : decode cX7_countMinimal 2 = .ok (.invokevirtual 81, 3) := by decide +kernel
theorem dX7_countMinimal_5 : decode cX7_countMinimal 5 = .ok (.iconst 0, 1) := by decide +kernel
theorem dX7_countMinimal_6 : decode cX7_countMinimal 6 = .ok (.istore_n 2, 1) := by decide +kernel
theorem dX7_countMinimal_7 : decode cX7_countMinimal 7 = .ok (.iconst 0, 1) := by decide +kernel
theorem dX7_countMinimal_8 : decode cX7_countMinimal 8 = .ok (.istore_n 3, 1) := by decide +kernel
theorem dX7_countMinimal_9 : decode cX7_countMinimal 9 = .ok (.iload_n 3, 1) := by decide +kernel
theorem dX7_countMinimal_10 : decode cX7_countMinimal 10 = .ok (.aload_n 0, 1) := by decide +kernel
theorem dX7_countMinimal_11 : decode cX7_countMinimal 11 = .ok (.getfield 18, 3) := by decide +kernel
theorem dX7_countMinimal_14 : decode cX7_countMinimal 14 = .ok (.getfield 56, 3) := by decide +kernel
theorem dX7_countMinimal_17 : decode cX7_countMinimal 17 = .ok (.if_icmp .ge 25, 3) := by decide +kernel
theorem dX7_countMinimal_20 : decode cX7_countMinimal 20 = .ok (.iload_n 2, 1) := by decide +kernel
theorem dX7_countMinimal_21 : decode cX7_countMinimal 21 = .ok (.aload_n 0, 1) := by decide +kernel
theorem dX7_countMinimal_22 : decode cX7_countMinimal 22 = .ok (.iload_n 3, 1) := by decide +kernel
theorem dX7_countMinimal_23 : decode cX7_countMinimal 23 = .ok (.invokevirtual 85, 3) := by decide +kernel
theorem dX7_countMinimal_26 : decode cX7_countMinimal 26 = .ok (.ifCond .eq 7, 3) := by decide +kernel
theorem dX7_countMinimal_29 : decode cX7_countMinimal 29 = .ok (.iconst 1, 1) := by decide +kernel
theorem dX7_countMinimal_30 : decode cX7_countMinimal 30 = .ok (.goto 4, 3) := by decide +kernel
theorem dX7_countMinimal_33 : decode cX7_countMinimal 33 = .ok (.iconst 0, 1) := by decide +kernel
theorem dX7_countMinimal_34 : decode cX7_countMinimal 34 = .ok (.iadd, 1) := by decide +kernel
theorem dX7_countMinimal_35 : decode cX7_countMinimal 35 = .ok (.istore_n 2, 1) := by decide +kernel
theorem dX7_countMinimal_36 : decode cX7_countMinimal 36 = .ok (.iinc 3 1, 3) := by decide +kernel
theorem dX7_countMinimal_39 : decode cX7_countMinimal 39 = .ok (.goto (-30), 3) := by decide +kernel
theorem dX7_countMinimal_42 : decode cX7_countMinimal 42 = .ok (.iload_n 2, 1) := by decide +kernel
theorem dX7_countMinimal_43 : decode cX7_countMinimal 43 = .ok (.ireturn, 1) := by decide +kernel
theorem dX7_seekMinimal_0 : decode cX7_seekMinimal 0 = .ok (.aload_n 0, 1) := by decide +kernel
theorem dX7_seekMinimal_1 : decode cX7_seekMinimal 1 = .ok (.invokevirtual 89, 3) := by decide +kernel
theorem dX7_seekMinimal_4 : decode cX7_seekMinimal 4 = .ok (.aload_n 0, 1) := by decide +kernel
theorem dX7_seekMinimal_5 : decode cX7_seekMinimal 5 = .ok (.iload_n 1, 1) := by decide +kernel
theorem dX7_seekMinimal_6 : decode cX7_seekMinimal 6 = .ok (.invokevirtual 81, 3) := by decide +kernel
theorem dX7_seekMinimal_9 : decode cX7_seekMinimal 9 = .ok (.iconst 0, 1) := by decide +kernel
theorem dX7_seekMinimal_10 : decode cX7_seekMinimal 10 = .ok (.istore_n 3, 1) := by decide +kernel
theorem dX7_seekMinimal_11 : decode cX7_seekMinimal 11 = .ok (.iconst 0, 1) := by decide +kernel
theorem dX7_seekMinimal_12 : decode cX7_seekMinimal 12 = .ok (.istore 4, 2) := by decide +kernel
theorem dX7_seekMinimal_14 : decode cX7_seekMinimal 14 = .ok (.iload 4, 2) := by decide +kernel
theorem dX7_seekMinimal_16 : decode cX7_seekMinimal 16 = .ok (.aload_n 0, 1) := by decide +kernel
theorem dX7_seekMinimal_17 : decode cX7_seekMinimal 17 = .ok (.getfield 18, 3) := by decide +kernel
theorem dX7_seekMinimal_20 : decode cX7_seekMinimal 20 = .ok (.getfield 56, 3) := by decide +kernel
theorem dX7_seekMinimal_23 : decode cX7_seekMinimal 23 = .ok (.if_icmp .ge 43, 3) := by decide +kernel
theorem dX7_seekMinimal_26 : decode cX7_seekMinimal 26 = .ok (.aload_n 0, 1) := by decide +kernel
theorem dX7_seekMinimal_27 : decode cX7_seekMinimal 27 = .ok (.iload 4, 2) := by decide +kernel
theorem dX7_seekMinimal_29 : decode cX7_seekMinimal 29 = .ok (.invokevirtual 85, 3) := by decide +kernel
theorem dX7_seekMinimal_32 : decode cX7_seekMinimal 32 = .ok (.ifCond .eq 28, 3) := by decide +kernel
theorem dX7_seekMinimal_35 : decode cX7_seekMinimal 35 = .ok (.iload_n 3, 1) := by decide +kernel
theorem dX7_seekMinimal_36 : decode cX7_seekMinimal 36 = .ok (.iload_n 2, 1) := by decide +kernel
theorem dX7_seekMinimal_37 : decode cX7_seekMinimal 37 = .ok (.if_icmp .ne 20, 3) := by decide +kernel
theorem dX7_seekMinimal_40 : decode cX7_seekMinimal 40 = .ok (.aload_n 0, 1) := by decide +kernel
theorem dX7_seekMinimal_41 : decode cX7_seekMinimal 41 = .ok (.iload 4, 2) := by decide +kernel
theorem dX7_seekMinimal_43 : decode cX7_seekMinimal 43 = .ok (.putfield 30, 3) := by decide +kernel
theorem dX7_seekMinimal_46 : decode cX7_seekMinimal 46 = .ok (.aload_n 0, 1) := by decide +kernel
theorem dX7_seekMinimal_47 : decode cX7_seekMinimal 47 = .ok (.aload_n 0, 1) := by decide +kernel
theorem dX7_seekMinimal_48 : decode cX7_seekMinimal 48 = .ok (.getfield 15, 3) := by decide +kernel
theorem dX7_seekMinimal_51 : decode cX7_seekMinimal 51 = .ok (.iload 4, 2) := by decide +kernel
theorem dX7_seekMinimal_53 : decode cX7_seekMinimal 53 = .ok (.iaload, 1) := by decide +kernel
theorem dX7_seekMinimal_54 : decode cX7_seekMinimal 54 = .ok (.putfield 34, 3) := by decide +kernel
theorem dX7_seekMinimal_57 : decode cX7_seekMinimal 57 = .ok (.iinc 3 1, 3) := by decide +kernel
theorem dX7_seekMinimal_60 : decode cX7_seekMinimal 60 = .ok (.iinc 4 1, 3) := by decide +kernel
theorem dX7_seekMinimal_63 : decode cX7_seekMinimal 63 = .ok (.goto (-49), 3) := by decide +kernel
theorem dX7_seekMinimal_66 : decode cX7_seekMinimal 66 = .ok (.return_, 1) := by decide +kernel
theorem dX7_seekLeast_0 : decode cX7_seekLeast 0 = .ok (.aload_n 0, 1) := by decide +kernel
theorem dX7_seekLeast_1 : decode cX7_seekLeast 1 = .ok (.invokevirtual 89, 3) := by decide +kernel
theorem dX7_seekLeast_4 : decode cX7_seekLeast 4 = .ok (.aload_n 0, 1) := by decide +kernel
theorem dX7_seekLeast_5 : decode cX7_seekLeast 5 = .ok (.iload_n 1, 1) := by decide +kernel
theorem dX7_seekLeast_6 : decode cX7_seekLeast 6 = .ok (.invokevirtual 81, 3) := by decide +kernel
theorem dX7_seekLeast_9 : decode cX7_seekLeast 9 = .ok (.iconst 0, 1) := by decide +kernel
theorem dX7_seekLeast_10 : decode cX7_seekLeast 10 = .ok (.istore_n 2, 1) := by decide +kernel
theorem dX7_seekLeast_11 : decode cX7_seekLeast 11 = .ok (.iload_n 2, 1) := by decide +kernel
theorem dX7_seekLeast_12 : decode cX7_seekLeast 12 = .ok (.aload_n 0, 1) := by decide +kernel
theorem dX7_seekLeast_13 : decode cX7_seekLeast 13 = .ok (.getfield 18, 3) := by decide +kernel
theorem dX7_seekLeast_16 : decode cX7_seekLeast 16 = .ok (.getfield 56, 3) := by decide +kernel
theorem dX7_seekLeast_19 : decode cX7_seekLeast 19 = .ok (.if_icmp .ge 72, 3) := by decide +kernel
theorem dX7_seekLeast_22 : decode cX7_seekLeast 22 = .ok (.aload_n 0, 1) := by decide +kernel
theorem dX7_seekLeast_23 : decode cX7_seekLeast 23 = .ok (.iload_n 2, 1) := by decide +kernel
theorem dX7_seekLeast_24 : decode cX7_seekLeast 24 = .ok (.invokevirtual 85, 3) := by decide +kernel
theorem dX7_seekLeast_27 : decode cX7_seekLeast 27 = .ok (.ifCond .eq 58, 3) := by decide +kernel
theorem dX7_seekLeast_30 : decode cX7_seekLeast 30 = .ok (.aload_n 0, 1) := by decide +kernel
theorem dX7_seekLeast_31 : decode cX7_seekLeast 31 = .ok (.getfield 30, 3) := by decide +kernel
theorem dX7_seekLeast_34 : decode cX7_seekLeast 34 = .ok (.iconst (-1), 1) := by decide +kernel
theorem dX7_seekLeast_35 : decode cX7_seekLeast 35 = .ok (.if_icmp .eq 35, 3) := by decide +kernel
theorem dX7_seekLeast_38 : decode cX7_seekLeast 38 = .ok (.aload_n 0, 1) := by decide +kernel
theorem dX7_seekLeast_39 : decode cX7_seekLeast 39 = .ok (.getfield 18, 3) := by decide +kernel
theorem dX7_seekLeast_42 : decode cX7_seekLeast 42 = .ok (.iload_n 2, 1) := by decide +kernel
theorem dX7_seekLeast_43 : decode cX7_seekLeast 43 = .ok (.aload_n 0, 1) := by decide +kernel
theorem dX7_seekLeast_44 : decode cX7_seekLeast 44 = .ok (.getfield 15, 3) := by decide +kernel
theorem dX7_seekLeast_47 : decode cX7_seekLeast 47 = .ok (.iload_n 2, 1) := by decide +kernel
theorem dX7_seekLeast_48 : decode cX7_seekLeast 48 = .ok (.iaload, 1) := by decide +kernel
theorem dX7_seekLeast_49 : decode cX7_seekLeast 49 = .ok (.invokevirtual 44, 3) := by decide +kernel
theorem dX7_seekLeast_52 : decode cX7_seekLeast 52 = .ok (.aload_n 0, 1) := by decide +kernel
theorem dX7_seekLeast_53 : decode cX7_seekLeast 53 = .ok (.getfield 18, 3) := by decide +kernel
theorem dX7_seekLeast_56 : decode cX7_seekLeast 56 = .ok (.aload_n 0, 1) := by decide +kernel
theorem dX7_seekLeast_57 : decode cX7_seekLeast 57 = .ok (.getfield 30, 3) := by decide +kernel
theorem dX7_seekLeast_60 : decode cX7_seekLeast 60 = .ok (.aload_n 0, 1) := by decide +kernel
theorem dX7_seekLeast_61 : decode cX7_seekLeast 61 = .ok (.getfield 34, 3) := by decide +kernel
theorem dX7_seekLeast_64 : decode cX7_seekLeast 64 = .ok (.invokevirtual 44, 3) := by decide +kernel
theorem dX7_seekLeast_67 : decode cX7_seekLeast 67 = .ok (.if_icmp .ge 18, 3) := by decide +kernel
theorem dX7_seekLeast_70 : decode cX7_seekLeast 70 = .ok (.aload_n 0, 1) := by decide +kernel
theorem dX7_seekLeast_71 : decode cX7_seekLeast 71 = .ok (.iload_n 2, 1) := by decide +kernel
theorem dX7_seekLeast_72 : decode cX7_seekLeast 72 = .ok (.putfield 30, 3) := by decide +kernel
theorem dX7_seekLeast_75 : decode cX7_seekLeast 75 = .ok (.aload_n 0, 1) := by decide +kernel
theorem dX7_seekLeast_76 : decode cX7_seekLeast 76 = .ok (.aload_n 0, 1) := by decide +kernel
theorem dX7_seekLeast_77 : decode cX7_seekLeast 77 = .ok (.getfield 15, 3) := by decide +kernel
theorem dX7_seekLeast_80 : decode cX7_seekLeast 80 = .ok (.iload_n 2, 1) := by decide +kernel
theorem dX7_seekLeast_81 : decode cX7_seekLeast 81 = .ok (.iaload, 1) := by decide +kernel
theorem dX7_seekLeast_82 : decode cX7_seekLeast 82 = .ok (.putfield 34, 3) := by decide +kernel
theorem dX7_seekLeast_85 : decode cX7_seekLeast 85 = .ok (.iinc 2 1, 3) := by decide +kernel
theorem dX7_seekLeast_88 : decode cX7_seekLeast 88 = .ok (.goto (-77), 3) := by decide +kernel
theorem dX7_seekLeast_91 : decode cX7_seekLeast 91 = .ok (.return_, 1) := by decide +kernel
theorem dX7_endingWithin_0 : decode cX7_endingWithin 0 = .ok (.iconst 0, 1) := by decide +kernel
theorem dX7_endingWithin_1 : decode cX7_endingWithin 1 = .ok (.istore_n 3, 1) := by decide +kernel
theorem dX7_endingWithin_2 : decode cX7_endingWithin 2 = .ok (.iconst 0, 1) := by decide +kernel
theorem dX7_endingWithin_3 : decode cX7_endingWithin 3 = .ok (.istore 4, 2) := by decide +kernel
theorem dX7_endingWithin_5 : decode cX7_endingWithin 5 = .ok (.iload 4, 2) := by decide +kernel
theorem dX7_endingWithin_7 : decode cX7_endingWithin 7 = .ok (.aload_n 0, 1) := by decide +kernel
theorem dX7_endingWithin_8 : decode cX7_endingWithin 8 = .ok (.getfield 22, 3) := by decide +kernel
theorem dX7_endingWithin_11 : decode cX7_endingWithin 11 = .ok (.getfield 59, 3) := by decide +kernel
theorem dX7_endingWithin_14 : decode cX7_endingWithin 14 = .ok (.if_icmp .ge 63, 3) := by decide +kernel
theorem dX7_endingWithin_17 : decode cX7_endingWithin 17 = .ok (.aload_n 0, 1) := by decide +kernel
theorem dX7_endingWithin_18 : decode cX7_endingWithin 18 = .ok (.getfield 26, 3) := by decide +kernel
theorem dX7_endingWithin_21 : decode cX7_endingWithin 21 = .ok (.getfield 92, 3) := by decide +kernel
theorem dX7_endingWithin_24 : decode cX7_endingWithin 24 = .ok (.iload_n 2, 1) := by decide +kernel
theorem dX7_endingWithin_25 : decode cX7_endingWithin 25 = .ok (.iaload, 1) := by decide +kernel
theorem dX7_endingWithin_26 : decode cX7_endingWithin 26 = .ok (.ifCond .eq 51, 3) := by decide +kernel
theorem dX7_endingWithin_29 : decode cX7_endingWithin 29 = .ok (.aload_n 0, 1) := by decide +kernel
theorem dX7_endingWithin_30 : decode cX7_endingWithin 30 = .ok (.getfield 26, 3) := by decide +kernel
theorem dX7_endingWithin_33 : decode cX7_endingWithin 33 = .ok (.getfield 92, 3) := by decide +kernel
theorem dX7_endingWithin_36 : decode cX7_endingWithin 36 = .ok (.iload_n 2, 1) := by decide +kernel
theorem dX7_endingWithin_37 : decode cX7_endingWithin 37 = .ok (.iaload, 1) := by decide +kernel
theorem dX7_endingWithin_38 : decode cX7_endingWithin 38 = .ok (.iload 4, 2) := by decide +kernel
theorem dX7_endingWithin_40 : decode cX7_endingWithin 40 = .ok (.invokestatic 69, 3) := by decide +kernel
theorem dX7_endingWithin_43 : decode cX7_endingWithin 43 = .ok (.ifCond .eq 28, 3) := by decide +kernel
theorem dX7_endingWithin_46 : decode cX7_endingWithin 46 = .ok (.iload_n 2, 1) := by decide +kernel
theorem dX7_endingWithin_47 : decode cX7_endingWithin 47 = .ok (.aload_n 0, 1) := by decide +kernel
theorem dX7_endingWithin_48 : decode cX7_endingWithin 48 = .ok (.getfield 22, 3) := by decide +kernel
theorem dX7_endingWithin_51 : decode cX7_endingWithin 51 = .ok (.getfield 73, 3) := by decide +kernel
theorem dX7_endingWithin_54 : decode cX7_endingWithin 54 = .ok (.iload 4, 2) := by decide +kernel
theorem dX7_endingWithin_56 : decode cX7_endingWithin 56 = .ok (.iaload, 1) := by decide +kernel
theorem dX7_endingWithin_57 : decode cX7_endingWithin 57 = .ok (.isub, 1) := by decide +kernel
theorem dX7_endingWithin_58 : decode cX7_endingWithin 58 = .ok (.iconst 1, 1) := by decide +kernel
theorem dX7_endingWithin_59 : decode cX7_endingWithin 59 = .ok (.iadd, 1) := by decide +kernel
theorem dX7_endingWithin_60 : decode cX7_endingWithin 60 = .ok (.iload_n 1, 1) := by decide +kernel
theorem dX7_endingWithin_61 : decode cX7_endingWithin 61 = .ok (.if_icmp .lt 10, 3) := by decide +kernel
theorem dX7_endingWithin_64 : decode cX7_endingWithin 64 = .ok (.iload_n 3, 1) := by decide +kernel
theorem dX7_endingWithin_65 : decode cX7_endingWithin 65 = .ok (.iconst 1, 1) := by decide +kernel
theorem dX7_endingWithin_66 : decode cX7_endingWithin 66 = .ok (.iload 4, 2) := by decide +kernel
theorem dX7_endingWithin_68 : decode cX7_endingWithin 68 = .ok (.ishl, 1) := by decide +kernel
theorem dX7_endingWithin_69 : decode cX7_endingWithin 69 = .ok (.ior, 1) := by decide +kernel
theorem dX7_endingWithin_70 : decode cX7_endingWithin 70 = .ok (.istore_n 3, 1) := by decide +kernel
theorem dX7_endingWithin_71 : decode cX7_endingWithin 71 = .ok (.iinc 4 1, 3) := by decide +kernel
theorem dX7_endingWithin_74 : decode cX7_endingWithin 74 = .ok (.goto (-69), 3) := by decide +kernel
theorem dX7_endingWithin_77 : decode cX7_endingWithin 77 = .ok (.iload_n 3, 1) := by decide +kernel
theorem dX7_endingWithin_78 : decode cX7_endingWithin 78 = .ok (.ireturn, 1) := by decide +kernel
theorem dX7_mostItems_0 : decode cX7_mostItems 0 = .ok (.iconst 0, 1) := by decide +kernel
theorem dX7_mostItems_1 : decode cX7_mostItems 1 = .ok (.istore_n 2, 1) := by decide +kernel
theorem dX7_mostItems_2 : decode cX7_mostItems 2 = .ok (.iconst 0, 1) := by decide +kernel
theorem dX7_mostItems_3 : decode cX7_mostItems 3 = .ok (.istore_n 3, 1) := by decide +kernel
theorem dX7_mostItems_4 : decode cX7_mostItems 4 = .ok (.iload_n 3, 1) := by decide +kernel
theorem dX7_mostItems_5 : decode cX7_mostItems 5 = .ok (.aload_n 0, 1) := by decide +kernel
theorem dX7_mostItems_6 : decode cX7_mostItems 6 = .ok (.getfield 18, 3) := by decide +kernel
theorem dX7_mostItems_9 : decode cX7_mostItems 9 = .ok (.getfield 56, 3) := by decide +kernel
theorem dX7_mostItems_12 : decode cX7_mostItems 12 = .ok (.if_icmp .ge 69, 3) := by decide +kernel
theorem dX7_mostItems_15 : decode cX7_mostItems 15 = .ok (.iconst 0, 1) := by decide +kernel
theorem dX7_mostItems_16 : decode cX7_mostItems 16 = .ok (.istore 4, 2) := by decide +kernel
theorem dX7_mostItems_18 : decode cX7_mostItems 18 = .ok (.iload_n 3, 1) := by decide +kernel
theorem dX7_mostItems_19 : decode cX7_mostItems 19 = .ok (.istore 5, 2) := by decide +kernel
theorem dX7_mostItems_21 : decode cX7_mostItems 21 = .ok (.iload 5, 2) := by decide +kernel
theorem dX7_mostItems_23 : decode cX7_mostItems 23 = .ok (.aload_n 0, 1) := by decide +kernel
theorem dX7_mostItems_24 : decode cX7_mostItems 24 = .ok (.getfield 18, 3) := by decide +kernel
theorem dX7_mostItems_27 : decode cX7_mostItems 27 = .ok (.getfield 56, 3) := by decide +kernel
theorem dX7_mostItems_30 : decode cX7_mostItems 30 = .ok (.if_icmp .ge 35, 3) := by decide +kernel
theorem dX7_mostItems_33 : decode cX7_mostItems 33 = .ok (.aload_n 0, 1) := by decide +kernel
theorem dX7_mostItems_34 : decode cX7_mostItems 34 = .ok (.getfield 18, 3) := by decide +kernel
theorem dX7_mostItems_37 : decode cX7_mostItems 37 = .ok (.iload_n 3, 1) := by decide +kernel
theorem dX7_mostItems_38 : decode cX7_mostItems 38 = .ok (.iload 5, 2) := by decide +kernel
theorem dX7_mostItems_40 : decode cX7_mostItems 40 = .ok (.invokevirtual 44, 3) := by decide +kernel
theorem dX7_mostItems_43 : decode cX7_mostItems 43 = .ok (.iload_n 1, 1) := by decide +kernel
theorem dX7_mostItems_44 : decode cX7_mostItems 44 = .ok (.if_icmp .gt 21, 3) := by decide +kernel
theorem dX7_mostItems_47 : decode cX7_mostItems 47 = .ok (.iload 4, 2) := by decide +kernel
theorem dX7_mostItems_49 : decode cX7_mostItems 49 = .ok (.aload_n 0, 1) := by decide +kernel
theorem dX7_mostItems_50 : decode cX7_mostItems 50 = .ok (.iload_n 3, 1) := by decide +kernel
theorem dX7_mostItems_51 : decode cX7_mostItems 51 = .ok (.iload 5, 2) := by decide +kernel
theorem dX7_mostItems_53 : decode cX7_mostItems 53 = .ok (.invokevirtual 95, 3) := by decide +kernel
theorem dX7_mostItems_56 : decode cX7_mostItems 56 = .ok (.ior, 1) := by decide +kernel
theorem dX7_mostItems_57 : decode cX7_mostItems 57 = .ok (.istore 4, 2) := by decide +kernel
theorem dX7_mostItems_59 : decode cX7_mostItems 59 = .ok (.iinc 5 1, 3) := by decide +kernel
theorem dX7_mostItems_62 : decode cX7_mostItems 62 = .ok (.goto (-41), 3) := by decide +kernel
theorem dX7_mostItems_65 : decode cX7_mostItems 65 = .ok (.iload_n 2, 1) := by decide +kernel
theorem dX7_mostItems_66 : decode cX7_mostItems 66 = .ok (.iload 4, 2) := by decide +kernel
theorem dX7_mostItems_68 : decode cX7_mostItems 68 = .ok (.invokestatic 98, 3) := by decide +kernel
theorem dX7_mostItems_71 : decode cX7_mostItems 71 = .ok (.invokestatic 76, 3) := by decide +kernel
theorem dX7_mostItems_74 : decode cX7_mostItems 74 = .ok (.istore_n 2, 1) := by decide +kernel
theorem dX7_mostItems_75 : decode cX7_mostItems 75 = .ok (.iinc 3 1, 3) := by decide +kernel
theorem dX7_mostItems_78 : decode cX7_mostItems 78 = .ok (.goto (-74), 3) := by decide +kernel
theorem dX7_mostItems_81 : decode cX7_mostItems 81 = .ok (.iload_n 2, 1) := by decide +kernel
theorem dX7_mostItems_82 : decode cX7_mostItems 82 = .ok (.ireturn, 1) := by decide +kernel
theorem dX7_keepIfWorthier_0 : decode cX7_keepIfWorthier 0 = .ok (.aload_n 0, 1) := by decide +kernel
theorem dX7_keepIfWorthier_1 : decode cX7_keepIfWorthier 1 = .ok (.getfield 30, 3) := by decide +kernel
theorem dX7_keepIfWorthier_4 : decode cX7_keepIfWorthier 4 = .ok (.iconst (-1), 1) := by decide +kernel
theorem dX7_keepIfWorthier_5 : decode cX7_keepIfWorthier 5 = .ok (.if_icmp .eq 34, 3) := by decide +kernel
theorem dX7_keepIfWorthier_8 : decode cX7_keepIfWorthier 8 = .ok (.aload_n 0, 1) := by decide +kernel
theorem dX7_keepIfWorthier_9 : decode cX7_keepIfWorthier 9 = .ok (.getfield 18, 3) := by decide +kernel
theorem dX7_keepIfWorthier_12 : decode cX7_keepIfWorthier 12 = .ok (.iload_n 1, 1) := by decide +kernel
theorem dX7_keepIfWorthier_13 : decode cX7_keepIfWorthier 13 = .ok (.iload_n 2, 1) := by decide +kernel
theorem dX7_keepIfWorthier_14 : decode cX7_keepIfWorthier 14 = .ok (.invokevirtual 44, 3) := by decide +kernel
theorem dX7_keepIfWorthier_17 : decode cX7_keepIfWorthier 17 = .ok (.aload_n 0, 1) := by decide +kernel
theorem dX7_keepIfWorthier_18 : decode cX7_keepIfWorthier 18 = .ok (.getfield 18, 3) := by decide +kernel
theorem dX7_keepIfWorthier_21 : decode cX7_keepIfWorthier 21 = .ok (.aload_n 0, 1) := by decide +kernel
theorem dX7_keepIfWorthier_22 : decode cX7_keepIfWorthier 22 = .ok (.getfield 30, 3) := by decide +kernel
theorem dX7_keepIfWorthier_25 : decode cX7_keepIfWorthier 25 = .ok (.aload_n 0, 1) := by decide +kernel
theorem dX7_keepIfWorthier_26 : decode cX7_keepIfWorthier 26 = .ok (.getfield 34, 3) := by decide +kernel
theorem dX7_keepIfWorthier_29 : decode cX7_keepIfWorthier 29 = .ok (.invokevirtual 44, 3) := by decide +kernel
theorem dX7_keepIfWorthier_32 : decode cX7_keepIfWorthier 32 = .ok (.if_icmp .ge 7, 3) := by decide +kernel
theorem dX7_keepIfWorthier_35 : decode cX7_keepIfWorthier 35 = .ok (.iconst 1, 1) := by decide +kernel
theorem dX7_keepIfWorthier_36 : decode cX7_keepIfWorthier 36 = .ok (.goto 4, 3) := by decide +kernel
theorem dX7_keepIfWorthier_39 : decode cX7_keepIfWorthier 39 = .ok (.iconst 0, 1) := by decide +kernel
theorem dX7_keepIfWorthier_40 : decode cX7_keepIfWorthier 40 = .ok (.istore 4, 2) := by decide +kernel
theorem dX7_keepIfWorthier_42 : decode cX7_keepIfWorthier 42 = .ok (.iload_n 3, 1) := by decide +kernel
theorem dX7_keepIfWorthier_43 : decode cX7_keepIfWorthier 43 = .ok (.aload_n 0, 1) := by decide +kernel
theorem dX7_keepIfWorthier_44 : decode cX7_keepIfWorthier 44 = .ok (.getfield 37, 3) := by decide +kernel
theorem dX7_keepIfWorthier_47 : decode cX7_keepIfWorthier 47 = .ok (.if_icmp .gt 16, 3) := by decide +kernel
theorem dX7_keepIfWorthier_50 : decode cX7_keepIfWorthier 50 = .ok (.iload_n 3, 1) := by decide +kernel
theorem dX7_keepIfWorthier_51 : decode cX7_keepIfWorthier 51 = .ok (.aload_n 0, 1) := by decide +kernel
theorem dX7_keepIfWorthier_52 : decode cX7_keepIfWorthier 52 = .ok (.getfield 37, 3) := by decide +kernel
theorem dX7_keepIfWorthier_55 : decode cX7_keepIfWorthier 55 = .ok (.if_icmp .ne 23, 3) := by decide +kernel
theorem dX7_keepIfWorthier_58 : decode cX7_keepIfWorthier 58 = .ok (.iload 4, 2) := by decide +kernel
theorem dX7_keepIfWorthier_60 : decode cX7_keepIfWorthier 60 = .ok (.ifCond .eq 18, 3) := by decide +kernel
theorem dX7_keepIfWorthier_63 : decode cX7_keepIfWorthier 63 = .ok (.aload_n 0, 1) := by decide +kernel
theorem dX7_keepIfWorthier_64 : decode cX7_keepIfWorthier 64 = .ok (.iload_n 1, 1) := by decide +kernel
theorem dX7_keepIfWorthier_65 : decode cX7_keepIfWorthier 65 = .ok (.putfield 30, 3) := by decide +kernel
theorem dX7_keepIfWorthier_68 : decode cX7_keepIfWorthier 68 = .ok (.aload_n 0, 1) := by decide +kernel
theorem dX7_keepIfWorthier_69 : decode cX7_keepIfWorthier 69 = .ok (.iload_n 2, 1) := by decide +kernel
theorem dX7_keepIfWorthier_70 : decode cX7_keepIfWorthier 70 = .ok (.putfield 34, 3) := by decide +kernel
theorem dX7_keepIfWorthier_73 : decode cX7_keepIfWorthier 73 = .ok (.aload_n 0, 1) := by decide +kernel
theorem dX7_keepIfWorthier_74 : decode cX7_keepIfWorthier 74 = .ok (.iload_n 3, 1) := by decide +kernel
theorem dX7_keepIfWorthier_75 : decode cX7_keepIfWorthier 75 = .ok (.putfield 37, 3) := by decide +kernel
theorem dX7_keepIfWorthier_78 : decode cX7_keepIfWorthier 78 = .ok (.return_, 1) := by decide +kernel
theorem dX7_widenFrom_0 : decode cX7_widenFrom 0 = .ok (.lconst 0, 1) := by decide +kernel
theorem dX7_widenFrom_1 : decode cX7_widenFrom 1 = .ok (.lstore 4, 2) := by decide +kernel
theorem dX7_widenFrom_3 : decode cX7_widenFrom 3 = .ok (.iload_n 1, 1) := by decide +kernel
theorem dX7_widenFrom_4 : decode cX7_widenFrom 4 = .ok (.istore 6, 2) := by decide +kernel
theorem dX7_widenFrom_6 : decode cX7_widenFrom 6 = .ok (.iload 6, 2) := by decide +kernel
theorem dX7_widenFrom_8 : decode cX7_widenFrom 8 = .ok (.iload_n 2, 1) := by decide +kernel
theorem dX7_widenFrom_9 : decode cX7_widenFrom 9 = .ok (.if_icmp .gt 107, 3) := by decide +kernel
theorem dX7_widenFrom_12 : decode cX7_widenFrom 12 = .ok (.aload_n 0, 1) := by decide +kernel
theorem dX7_widenFrom_13 : decode cX7_widenFrom 13 = .ok (.getfield 18, 3) := by decide +kernel
theorem dX7_widenFrom_16 : decode cX7_widenFrom 16 = .ok (.iload_n 1, 1) := by decide +kernel
theorem dX7_widenFrom_17 : decode cX7_widenFrom 17 = .ok (.iload 6, 2) := by decide +kernel
theorem dX7_widenFrom_19 : decode cX7_widenFrom 19 = .ok (.invokevirtual 44, 3) := by decide +kernel
theorem dX7_widenFrom_22 : decode cX7_widenFrom 22 = .ok (.iload_n 3, 1) := by decide +kernel
theorem dX7_widenFrom_23 : decode cX7_widenFrom 23 = .ok (.if_icmp .gt 93, 3) := by decide +kernel
theorem dX7_widenFrom_26 : decode cX7_widenFrom 26 = .ok (.aload_n 0, 1) := by decide +kernel
theorem dX7_widenFrom_27 : decode cX7_widenFrom 27 = .ok (.iload_n 1, 1) := by decide +kernel
theorem dX7_widenFrom_28 : decode cX7_widenFrom 28 = .ok (.iload 6, 2) := by decide +kernel
theorem dX7_widenFrom_30 : decode cX7_widenFrom 30 = .ok (.invokevirtual 95, 3) := by decide +kernel
theorem dX7_widenFrom_33 : decode cX7_widenFrom 33 = .ok (.istore 7, 2) := by decide +kernel
theorem dX7_widenFrom_35 : decode cX7_widenFrom 35 = .ok (.iconst 0, 1) := by decide +kernel
theorem dX7_widenFrom_36 : decode cX7_widenFrom 36 = .ok (.istore 8, 2) := by decide +kernel
theorem dX7_widenFrom_38 : decode cX7_widenFrom 38 = .ok (.iload 8, 2) := by decide +kernel
theorem dX7_widenFrom_40 : decode cX7_widenFrom 40 = .ok (.aload_n 0, 1) := by decide +kernel
theorem dX7_widenFrom_41 : decode cX7_widenFrom 41 = .ok (.getfield 22, 3) := by decide +kernel
theorem dX7_widenFrom_44 : decode cX7_widenFrom 44 = .ok (.getfield 59, 3) := by decide +kernel
theorem dX7_widenFrom_47 : decode cX7_widenFrom 47 = .ok (.if_icmp .ge 42, 3) := by decide +kernel
theorem dX7_widenFrom_50 : decode cX7_widenFrom 50 = .ok (.iload 7, 2) := by decide +kernel
theorem dX7_widenFrom_52 : decode cX7_widenFrom 52 = .ok (.ifCond .eq 37, 3) := by decide +kernel
theorem dX7_widenFrom_55 : decode cX7_widenFrom 55 = .ok (.lload 4, 2) := by decide +kernel
theorem dX7_widenFrom_57 : decode cX7_widenFrom 57 = .ok (.iload 7, 2) := by decide +kernel
theorem dX7_widenFrom_59 : decode cX7_widenFrom 59 = .ok (.iload 8, 2) := by decide +kernel
theorem dX7_widenFrom_61 : decode cX7_widenFrom 61 = .ok (.invokestatic 69, 3) := by decide +kernel
theorem dX7_widenFrom_64 : decode cX7_widenFrom 64 = .ok (.ifCond .eq 15, 3) := by decide +kernel
theorem dX7_widenFrom_67 : decode cX7_widenFrom 67 = .ok (.aload_n 0, 1) := by decide +kernel
theorem dX7_widenFrom_68 : decode cX7_widenFrom 68 = .ok (.getfield 22, 3) := by decide +kernel
theorem dX7_widenFrom_71 : decode cX7_widenFrom 71 = .ok (.iload 8, 2) := by decide +kernel
theorem dX7_widenFrom_73 : decode cX7_widenFrom 73 = .ok (.invokevirtual 108, 3) := by decide +kernel
theorem dX7_widenFrom_76 : decode cX7_widenFrom 76 = .ok (.goto 4, 3) := by decide +kernel
theorem dX7_widenFrom_79 : decode cX7_widenFrom 79 = .ok (.lconst 0, 1) := by decide +kernel
theorem dX7_widenFrom_80 : decode cX7_widenFrom 80 = .ok (.ladd, 1) := by decide +kernel
theorem dX7_widenFrom_81 : decode cX7_widenFrom 81 = .ok (.lstore 4, 2) := by decide +kernel
theorem dX7_widenFrom_83 : decode cX7_widenFrom 83 = .ok (.iinc 8 1, 3) := by decide +kernel
theorem dX7_widenFrom_86 : decode cX7_widenFrom 86 = .ok (.goto (-48), 3) := by decide +kernel
theorem dX7_widenFrom_89 : decode cX7_widenFrom 89 = .ok (.iload 7, 2) := by decide +kernel
theorem dX7_widenFrom_91 : decode cX7_widenFrom 91 = .ok (.ifCond .eq 19, 3) := by decide +kernel
theorem dX7_widenFrom_94 : decode cX7_widenFrom 94 = .ok (.aload_n 0, 1) := by decide +kernel
theorem dX7_widenFrom_95 : decode cX7_widenFrom 95 = .ok (.iload_n 1, 1) := by decide +kernel
theorem dX7_widenFrom_96 : decode cX7_widenFrom 96 = .ok (.iload 6, 2) := by decide +kernel
theorem dX7_widenFrom_98 : decode cX7_widenFrom 98 = .ok (.aload_n 0, 1) := by decide +kernel
theorem dX7_widenFrom_99 : decode cX7_widenFrom 99 = .ok (.getfield 22, 3) := by decide +kernel
theorem dX7_widenFrom_102 : decode cX7_widenFrom 102 = .ok (.lload 4, 2) := by decide +kernel
theorem dX7_widenFrom_104 : decode cX7_widenFrom 104 = .ok (.invokevirtual 112, 3) := by decide +kernel
theorem dX7_widenFrom_107 : decode cX7_widenFrom 107 = .ok (.invokevirtual 116, 3) := by decide +kernel
theorem dX7_widenFrom_110 : decode cX7_widenFrom 110 = .ok (.iinc 6 1, 3) := by decide +kernel
theorem dX7_widenFrom_113 : decode cX7_widenFrom 113 = .ok (.goto (-107), 3) := by decide +kernel
theorem dX7_widenFrom_116 : decode cX7_widenFrom 116 = .ok (.return_, 1) := by decide +kernel
theorem dX7_seekWidest_0 : decode cX7_seekWidest 0 = .ok (.aload_n 0, 1) := by decide +kernel
theorem dX7_seekWidest_1 : decode cX7_seekWidest 1 = .ok (.invokevirtual 89, 3) := by decide +kernel
theorem dX7_seekWidest_4 : decode cX7_seekWidest 4 = .ok (.iload_n 1, 1) := by decide +kernel
theorem dX7_seekWidest_5 : decode cX7_seekWidest 5 = .ok (.iconst 0, 1) := by decide +kernel
theorem dX7_seekWidest_6 : decode cX7_seekWidest 6 = .ok (.invokestatic 76, 3) := by decide +kernel
theorem dX7_seekWidest_9 : decode cX7_seekWidest 9 = .ok (.istore 4, 2) := by decide +kernel
theorem dX7_seekWidest_11 : decode cX7_seekWidest 11 = .ok (.iload 4, 2) := by decide +kernel
theorem dX7_seekWidest_13 : decode cX7_seekWidest 13 = .ok (.iload_n 2, 1) := by decide +kernel
theorem dX7_seekWidest_14 : decode cX7_seekWidest 14 = .ok (.if_icmp .gt 30, 3) := by decide +kernel
theorem dX7_seekWidest_17 : decode cX7_seekWidest 17 = .ok (.aload_n 0, 1) := by decide +kernel
theorem dX7_seekWidest_18 : decode cX7_seekWidest 18 = .ok (.getfield 26, 3) := by decide +kernel
theorem dX7_seekWidest_21 : decode cX7_seekWidest 21 = .ok (.getfield 64, 3) := by decide +kernel
theorem dX7_seekWidest_24 : decode cX7_seekWidest 24 = .ok (.iload 4, 2) := by decide +kernel
theorem dX7_seekWidest_26 : decode cX7_seekWidest 26 = .ok (.iaload, 1) := by decide +kernel
theorem dX7_seekWidest_27 : decode cX7_seekWidest 27 = .ok (.ifCond .eq 11, 3) := by decide +kernel
theorem dX7_seekWidest_30 : decode cX7_seekWidest 30 = .ok (.aload_n 0, 1) := by decide +kernel
theorem dX7_seekWidest_31 : decode cX7_seekWidest 31 = .ok (.iload 4, 2) := by decide +kernel
theorem dX7_seekWidest_33 : decode cX7_seekWidest 33 = .ok (.iload_n 2, 1) := by decide +kernel
theorem dX7_seekWidest_34 : decode cX7_seekWidest 34 = .ok (.iload_n 3, 1) := by decide +kernel
theorem dX7_seekWidest_35 : decode cX7_seekWidest 35 = .ok (.invokevirtual 104, 3) := by decide +kernel
theorem dX7_seekWidest_38 : decode cX7_seekWidest 38 = .ok (.iinc 4 1, 3) := by decide +kernel
theorem dX7_seekWidest_41 : decode cX7_seekWidest 41 = .ok (.goto (-30), 3) := by decide +kernel
theorem dX7_seekWidest_44 : decode cX7_seekWidest 44 = .ok (.return_, 1) := by decide +kernel
theorem dX7_seekBeginning_0 : decode cX7_seekBeginning 0 = .ok (.iload_n 1, 1) := by decide +kernel
theorem dX7_seekBeginning_1 : decode cX7_seekBeginning 1 = .ok (.istore 4, 2) := by decide +kernel
theorem dX7_seekBeginning_3 : decode cX7_seekBeginning 3 = .ok (.iload 4, 2) := by decide +kernel
theorem dX7_seekBeginning_5 : decode cX7_seekBeginning 5 = .ok (.iload_n 2, 1) := by decide +kernel
theorem dX7_seekBeginning_6 : decode cX7_seekBeginning 6 = .ok (.if_icmp .gt 34, 3) := by decide +kernel
theorem dX7_seekBeginning_9 : decode cX7_seekBeginning 9 = .ok (.aload_n 0, 1) := by decide +kernel
theorem dX7_seekBeginning_10 : decode cX7_seekBeginning 10 = .ok (.getfield 18, 3) := by decide +kernel
theorem dX7_seekBeginning_13 : decode cX7_seekBeginning 13 = .ok (.iload_n 1, 1) := by decide +kernel
theorem dX7_seekBeginning_14 : decode cX7_seekBeginning 14 = .ok (.iload 4, 2) := by decide +kernel
theorem dX7_seekBeginning_16 : decode cX7_seekBeginning 16 = .ok (.invokevirtual 44, 3) := by decide +kernel
theorem dX7_seekBeginning_19 : decode cX7_seekBeginning 19 = .ok (.iload_n 3, 1) := by decide +kernel
theorem dX7_seekBeginning_20 : decode cX7_seekBeginning 20 = .ok (.if_icmp .gt 20, 3) := by decide +kernel
theorem dX7_seekBeginning_23 : decode cX7_seekBeginning 23 = .ok (.aload_n 0, 1) := by decide +kernel
theorem dX7_seekBeginning_24 : decode cX7_seekBeginning 24 = .ok (.iload_n 1, 1) := by decide +kernel
theorem dX7_seekBeginning_25 : decode cX7_seekBeginning 25 = .ok (.putfield 30, 3) := by decide +kernel
theorem dX7_seekBeginning_28 : decode cX7_seekBeginning 28 = .ok (.aload_n 0, 1) := by decide +kernel
theorem dX7_seekBeginning_29 : decode cX7_seekBeginning 29 = .ok (.iload 4, 2) := by decide +kernel
theorem dX7_seekBeginning_31 : decode cX7_seekBeginning 31 = .ok (.putfield 34, 3) := by decide +kernel
theorem dX7_seekBeginning_34 : decode cX7_seekBeginning 34 = .ok (.iinc 4 1, 3) := by decide +kernel
theorem dX7_seekBeginning_37 : decode cX7_seekBeginning 37 = .ok (.goto (-34), 3) := by decide +kernel
theorem dX7_seekBeginning_40 : decode cX7_seekBeginning 40 = .ok (.return_, 1) := by decide +kernel
theorem dX7_seekCut_0 : decode cX7_seekCut 0 = .ok (.aload_n 0, 1) := by decide +kernel
theorem dX7_seekCut_1 : decode cX7_seekCut 1 = .ok (.getfield 18, 3) := by decide +kernel
theorem dX7_seekCut_4 : decode cX7_seekCut 4 = .ok (.getfield 119, 3) := by decide +kernel
theorem dX7_seekCut_7 : decode cX7_seekCut 7 = .ok (.iload_n 1, 1) := by decide +kernel
theorem dX7_seekCut_8 : decode cX7_seekCut 8 = .ok (.iaload, 1) := by decide +kernel
theorem dX7_seekCut_9 : decode cX7_seekCut 9 = .ok (.istore_n 3, 1) := by decide +kernel
theorem dX7_seekCut_10 : decode cX7_seekCut 10 = .ok (.aload_n 0, 1) := by decide +kernel
theorem dX7_seekCut_11 : decode cX7_seekCut 11 = .ok (.getfield 18, 3) := by decide +kernel
theorem dX7_seekCut_14 : decode cX7_seekCut 14 = .ok (.iload_n 1, 1) := by decide +kernel
theorem dX7_seekCut_15 : decode cX7_seekCut 15 = .ok (.invokevirtual 122, 3) := by decide +kernel
theorem dX7_seekCut_18 : decode cX7_seekCut 18 = .ok (.istore 4, 2) := by decide +kernel
theorem dX7_seekCut_20 : decode cX7_seekCut 20 = .ok (.aload_n 0, 1) := by decide +kernel
theorem dX7_seekCut_21 : decode cX7_seekCut 21 = .ok (.getfield 18, 3) := by decide +kernel
theorem dX7_seekCut_24 : decode cX7_seekCut 24 = .ok (.getfield 125, 3) := by decide +kernel
theorem dX7_seekCut_27 : decode cX7_seekCut 27 = .ok (.iload_n 1, 1) := by decide +kernel
theorem dX7_seekCut_28 : decode cX7_seekCut 28 = .ok (.iaload, 1) := by decide +kernel
theorem dX7_seekCut_29 : decode cX7_seekCut 29 = .ok (.iload_n 2, 1) := by decide +kernel
theorem dX7_seekCut_30 : decode cX7_seekCut 30 = .ok (.if_icmp .gt 24, 3) := by decide +kernel
theorem dX7_seekCut_33 : decode cX7_seekCut 33 = .ok (.aload_n 0, 1) := by decide +kernel
theorem dX7_seekCut_34 : decode cX7_seekCut 34 = .ok (.invokevirtual 89, 3) := by decide +kernel
theorem dX7_seekCut_37 : decode cX7_seekCut 37 = .ok (.aload_n 0, 1) := by decide +kernel
theorem dX7_seekCut_38 : decode cX7_seekCut 38 = .ok (.iload_n 3, 1) := by decide +kernel
theorem dX7_seekCut_39 : decode cX7_seekCut 39 = .ok (.putfield 30, 3) := by decide +kernel
theorem dX7_seekCut_42 : decode cX7_seekCut 42 = .ok (.aload_n 0, 1) := by decide +kernel
theorem dX7_seekCut_43 : decode cX7_seekCut 43 = .ok (.iload 4, 2) := by decide +kernel
theorem dX7_seekCut_45 : decode cX7_seekCut 45 = .ok (.putfield 34, 3) := by decide +kernel
theorem dX7_seekCut_48 : decode cX7_seekCut 48 = .ok (.aload_n 0, 1) := by decide +kernel
theorem dX7_seekCut_49 : decode cX7_seekCut 49 = .ok (.iconst 1, 1) := by decide +kernel
theorem dX7_seekCut_50 : decode cX7_seekCut 50 = .ok (.putfield 40, 3) := by decide +kernel
theorem dX7_seekCut_53 : decode cX7_seekCut 53 = .ok (.return_, 1) := by decide +kernel
theorem dX7_seekCut_54 : decode cX7_seekCut 54 = .ok (.aload_n 0, 1) := by decide +kernel
theorem dX7_seekCut_55 : decode cX7_seekCut 55 = .ok (.iload_n 3, 1) := by decide +kernel
theorem dX7_seekCut_56 : decode cX7_seekCut 56 = .ok (.iload 4, 2) := by decide +kernel
theorem dX7_seekCut_58 : decode cX7_seekCut 58 = .ok (.iload_n 2, 1) := by decide +kernel
theorem dX7_seekCut_59 : decode cX7_seekCut 59 = .ok (.invokevirtual 128, 3) := by decide +kernel
theorem dX7_seekCut_62 : decode cX7_seekCut 62 = .ok (.aload_n 0, 1) := by decide +kernel
theorem dX7_seekCut_63 : decode cX7_seekCut 63 = .ok (.getfield 30, 3) := by decide +kernel
theorem dX7_seekCut_66 : decode cX7_seekCut 66 = .ok (.iconst (-1), 1) := by decide +kernel
theorem dX7_seekCut_67 : decode cX7_seekCut 67 = .ok (.if_icmp .ne 16, 3) := by decide +kernel
theorem dX7_seekCut_70 : decode cX7_seekCut 70 = .ok (.iload_n 3, 1) := by decide +kernel
theorem dX7_seekCut_71 : decode cX7_seekCut 71 = .ok (.iconst (-1), 1) := by decide +kernel
theorem dX7_seekCut_72 : decode cX7_seekCut 72 = .ok (.if_icmp .eq 11, 3) := by decide +kernel
theorem dX7_seekCut_75 : decode cX7_seekCut 75 = .ok (.aload_n 0, 1) := by decide +kernel
theorem dX7_seekCut_76 : decode cX7_seekCut 76 = .ok (.iload_n 3, 1) := by decide +kernel
theorem dX7_seekCut_77 : decode cX7_seekCut 77 = .ok (.iload 4, 2) := by decide +kernel
theorem dX7_seekCut_79 : decode cX7_seekCut 79 = .ok (.iload_n 2, 1) := by decide +kernel
theorem dX7_seekCut_80 : decode cX7_seekCut 80 = .ok (.invokevirtual 131, 3) := by decide +kernel
theorem dX7_seekCut_83 : decode cX7_seekCut 83 = .ok (.return_, 1) := by decide +kernel
theorem dX8_begin_0 : decode cX8_begin 0 = .ok (.aload_n 0, 1) := by decide +kernel
theorem dX8_begin_1 : decode cX8_begin 1 = .ok (.iconst 0, 1) := by decide +kernel
theorem dX8_begin_2 : decode cX8_begin 2 = .ok (.putfield 34, 3) := by decide +kernel
theorem dX8_begin_5 : decode cX8_begin 5 = .ok (.aload_n 0, 1) := by decide +kernel
theorem dX8_begin_6 : decode cX8_begin 6 = .ok (.iconst 0, 1) := by decide +kernel
theorem dX8_begin_7 : decode cX8_begin 7 = .ok (.putfield 38, 3) := by decide +kernel
theorem dX8_begin_10 : decode cX8_begin 10 = .ok (.aload_n 0, 1) := by decide +kernel
theorem dX8_begin_11 : decode cX8_begin 11 = .ok (.iconst 0, 1) := by decide +kernel
theorem dX8_begin_12 : decode cX8_begin 12 = .ok (.putfield 41, 3) := by decide +kernel
theorem dX8_begin_15 : decode cX8_begin 15 = .ok (.aload_n 0, 1) := by decide +kernel
theorem dX8_begin_16 : decode cX8_begin 16 = .ok (.getfield 9, 3) := by decide +kernel
theorem dX8_begin_19 : decode cX8_begin 19 = .ok (.iconst 0, 1) := by decide +kernel
theorem dX8_begin_20 : decode cX8_begin 20 = .ok (.invokestatic 44, 3) := by decide +kernel
theorem dX8_begin_23 : decode cX8_begin 23 = .ok (.return_, 1) := by decide +kernel
theorem dX8_layOver_0 : decode cX8_layOver 0 = .ok (.iload_n 1, 1) := by decide +kernel
theorem dX8_layOver_1 : decode cX8_layOver 1 = .ok (.istore 4, 2) := by decide +kernel
theorem dX8_layOver_3 : decode cX8_layOver 3 = .ok (.iload 4, 2) := by decide +kernel
theorem dX8_layOver_5 : decode cX8_layOver 5 = .ok (.iload_n 2, 1) := by decide +kernel
theorem dX8_layOver_6 : decode cX8_layOver 6 = .ok (.if_icmp .ge 20, 3) := by decide +kernel
theorem dX8_layOver_9 : decode cX8_layOver 9 = .ok (.aload_n 0, 1) := by decide +kernel
theorem dX8_layOver_10 : decode cX8_layOver 10 = .ok (.getfield 9, 3) := by decide +kernel
theorem dX8_layOver_13 : decode cX8_layOver 13 = .ok (.iload 4, 2) := by decide +kernel
theorem dX8_layOver_15 : decode cX8_layOver 15 = .ok (.dup2, 1) := by decide +kernel
theorem dX8_layOver_16 : decode cX8_layOver 16 = .ok (.iaload, 1) := by decide +kernel
theorem dX8_layOver_17 : decode cX8_layOver 17 = .ok (.iload_n 3, 1) := by decide +kernel
theorem dX8_layOver_18 : decode cX8_layOver 18 = .ok (.ior, 1) := by decide +kernel
theorem dX8_layOver_19 : decode cX8_layOver 19 = .ok (.iastore, 1) := by decide +kernel
theorem dX8_layOver_20 : decode cX8_layOver 20 = .ok (.iinc 4 1, 3) := by decide +kernel
theorem dX8_layOver_23 : decode cX8_layOver 23 = .ok (.goto (-20), 3) := by decide +kernel
theorem dX8_layOver_26 : decode cX8_layOver 26 = .ok (.return_, 1) := by decide +kernel
theorem dX8_layBetween_0 : decode cX8_layBetween 0 = .ok (.aload_n 0, 1) := by decide +kernel
theorem dX8_layBetween_1 : decode cX8_layBetween 1 = .ok (.getfield 18, 3) := by decide +kernel
theorem dX8_layBetween_4 : decode cX8_layBetween 4 = .ok (.getfield 83, 3) := by decide +kernel
theorem dX8_layBetween_7 : decode cX8_layBetween 7 = .ok (.iload_n 1, 1) := by decide +kernel
theorem dX8_layBetween_8 : decode cX8_layBetween 8 = .ok (.iaload, 1) := by decide +kernel
theorem dX8_layBetween_9 : decode cX8_layBetween 9 = .ok (.istore_n 2, 1) := by decide +kernel
theorem dX8_layBetween_10 : decode cX8_layBetween 10 = .ok (.aload_n 0, 1) := by decide +kernel
theorem dX8_layBetween_11 : decode cX8_layBetween 11 = .ok (.getfield 18, 3) := by decide +kernel
theorem dX8_layBetween_14 : decode cX8_layBetween 14 = .ok (.getfield 80, 3) := by decide +kernel
theorem dX8_layBetween_17 : decode cX8_layBetween 17 = .ok (.iload_n 1, 1) := by decide +kernel
theorem dX8_layBetween_18 : decode cX8_layBetween 18 = .ok (.iconst 1, 1) := by decide +kernel
theorem dX8_layBetween_19 : decode cX8_layBetween 19 = .ok (.iadd, 1) := by decide +kernel
theorem dX8_layBetween_20 : decode cX8_layBetween 20 = .ok (.iaload, 1) := by decide +kernel
theorem dX8_layBetween_21 : decode cX8_layBetween 21 = .ok (.istore_n 3, 1) := by decide +kernel
theorem dX8_layBetween_22 : decode cX8_layBetween 22 = .ok (.aload_n 0, 1) := by decide +kernel
theorem dX8_layBetween_23 : decode cX8_layBetween 23 = .ok (.getfield 18, 3) := by decide +kernel
theorem dX8_layBetween_26 : decode cX8_layBetween 26 = .ok (.getfield 156, 3) := by decide +kernel
theorem dX8_layBetween_29 : decode cX8_layBetween 29 = .ok (.iload_n 1, 1) := by decide +kernel
theorem dX8_layBetween_30 : decode cX8_layBetween 30 = .ok (.iaload, 1) := by decide +kernel
theorem dX8_layBetween_31 : decode cX8_layBetween 31 = .ok (.aload_n 0, 1) := by decide +kernel
theorem dX8_layBetween_32 : decode cX8_layBetween 32 = .ok (.getfield 18, 3) := by decide +kernel
theorem dX8_layBetween_35 : decode cX8_layBetween 35 = .ok (.getfield 156, 3) := by decide +kernel
theorem dX8_layBetween_38 : decode cX8_layBetween 38 = .ok (.iload_n 1, 1) := by decide +kernel
theorem dX8_layBetween_39 : decode cX8_layBetween 39 = .ok (.iconst 1, 1) := by decide +kernel
theorem dX8_layBetween_40 : decode cX8_layBetween 40 = .ok (.iadd, 1) := by decide +kernel
theorem dX8_layBetween_41 : decode cX8_layBetween 41 = .ok (.iaload, 1) := by decide +kernel
theorem dX8_layBetween_42 : decode cX8_layBetween 42 = .ok (.if_icmp .ne 36, 3) := by decide +kernel
theorem dX8_layBetween_45 : decode cX8_layBetween 45 = .ok (.aload_n 0, 1) := by decide +kernel
theorem dX8_layBetween_46 : decode cX8_layBetween 46 = .ok (.getfield 18, 3) := by decide +kernel
theorem dX8_layBetween_49 : decode cX8_layBetween 49 = .ok (.iload_n 2, 1) := by decide +kernel
theorem dX8_layBetween_50 : decode cX8_layBetween 50 = .ok (.invokevirtual 159, 3) := by decide +kernel
theorem dX8_layBetween_53 : decode cX8_layBetween 53 = .ok (.iload_n 3, 1) := by decide +kernel
theorem dX8_layBetween_54 : decode cX8_layBetween 54 = .ok (.if_icmp .ne 24, 3) := by decide +kernel
theorem dX8_layBetween_57 : decode cX8_layBetween 57 = .ok (.aload_n 0, 1) := by decide +kernel
theorem dX8_layBetween_58 : decode cX8_layBetween 58 = .ok (.iload_n 2, 1) := by decide +kernel
theorem dX8_layBetween_59 : decode cX8_layBetween 59 = .ok (.iload_n 3, 1) := by decide +kernel
theorem dX8_layBetween_60 : decode cX8_layBetween 60 = .ok (.aload_n 0, 1) := by decide +kernel
theorem dX8_layBetween_61 : decode cX8_layBetween 61 = .ok (.getfield 9, 3) := by decide +kernel
theorem dX8_layBetween_64 : decode cX8_layBetween 64 = .ok (.iload_n 2, 1) := by decide +kernel
theorem dX8_layBetween_65 : decode cX8_layBetween 65 = .ok (.iconst 1, 1) := by decide +kernel
theorem dX8_layBetween_66 : decode cX8_layBetween 66 = .ok (.isub, 1) := by decide +kernel
theorem dX8_layBetween_67 : decode cX8_layBetween 67 = .ok (.iaload, 1) := by decide +kernel
theorem dX8_layBetween_68 : decode cX8_layBetween 68 = .ok (.aload_n 0, 1) := by decide +kernel
theorem dX8_layBetween_69 : decode cX8_layBetween 69 = .ok (.getfield 9, 3) := by decide +kernel
theorem dX8_layBetween_72 : decode cX8_layBetween 72 = .ok (.iload_n 3, 1) := by decide +kernel
theorem dX8_layBetween_73 : decode cX8_layBetween 73 = .ok (.iaload, 1) := by decide +kernel
theorem dX8_layBetween_74 : decode cX8_layBetween 74 = .ok (.iand, 1) := by decide +kernel
theorem dX8_layBetween_75 : decode cX8_layBetween 75 = .ok (.invokevirtual 149, 3) := by decide +kernel
theorem dX8_layBetween_78 : decode cX8_layBetween 78 = .ok (.return_, 1) := by decide +kernel
theorem dX8_layMarks_0 : decode cX8_layMarks 0 = .ok (.iload_n 1, 1) := by decide +kernel
theorem dX8_layMarks_1 : decode cX8_layMarks 1 = .ok (.iconst 0, 1) := by decide +kernel
theorem dX8_layMarks_2 : decode cX8_layMarks 2 = .ok (.invokestatic 126, 3) := by decide +kernel
theorem dX8_layMarks_5 : decode cX8_layMarks 5 = .ok (.istore_n 3, 1) := by decide +kernel
theorem dX8_layMarks_6 : decode cX8_layMarks 6 = .ok (.iload_n 3, 1) := by decide +kernel
theorem dX8_layMarks_7 : decode cX8_layMarks 7 = .ok (.iload_n 2, 1) := by decide +kernel
theorem dX8_layMarks_8 : decode cX8_layMarks 8 = .ok (.if_icmp .gt 109, 3) := by decide +kernel
theorem dX8_layMarks_11 : decode cX8_layMarks 11 = .ok (.iconst 0, 1) := by decide +kernel
theorem dX8_layMarks_12 : decode cX8_layMarks 12 = .ok (.istore 4, 2) := by decide +kernel
theorem dX8_layMarks_14 : decode cX8_layMarks 14 = .ok (.iload 4, 2) := by decide +kernel
theorem dX8_layMarks_16 : decode cX8_layMarks 16 = .ok (.aload_n 0, 1) := by decide +kernel
theorem dX8_layMarks_17 : decode cX8_layMarks 17 = .ok (.getfield 22, 3) := by decide +kernel
theorem dX8_layMarks_20 : decode cX8_layMarks 20 = .ok (.getfield 132, 3) := by decide +kernel
theorem dX8_layMarks_23 : decode cX8_layMarks 23 = .ok (.if_icmp .ge 88, 3) := by decide +kernel
theorem dX8_layMarks_26 : decode cX8_layMarks 26 = .ok (.iload_n 3, 1) := by decide +kernel
theorem dX8_layMarks_27 : decode cX8_layMarks 27 = .ok (.aload_n 0, 1) := by decide +kernel
theorem dX8_layMarks_28 : decode cX8_layMarks 28 = .ok (.getfield 22, 3) := by decide +kernel
theorem dX8_layMarks_31 : decode cX8_layMarks 31 = .ok (.getfield 137, 3) := by decide +kernel
theorem dX8_layMarks_34 : decode cX8_layMarks 34 = .ok (.iload 4, 2) := by decide +kernel
theorem dX8_layMarks_36 : decode cX8_layMarks 36 = .ok (.iaload, 1) := by decide +kernel
theorem dX8_layMarks_37 : decode cX8_layMarks 37 = .ok (.iadd, 1) := by decide +kernel
theorem dX8_layMarks_38 : decode cX8_layMarks 38 = .ok (.iconst 1, 1) := by decide +kernel
theorem dX8_layMarks_39 : decode cX8_layMarks 39 = .ok (.isub, 1) := by decide +kernel
theorem dX8_layMarks_40 : decode cX8_layMarks 40 = .ok (.istore 5, 2) := by decide +kernel
theorem dX8_layMarks_42 : decode cX8_layMarks 42 = .ok (.aload_n 0, 1) := by decide +kernel
theorem dX8_layMarks_43 : decode cX8_layMarks 43 = .ok (.getfield 26, 3) := by decide +kernel
theorem dX8_layMarks_46 : decode cX8_layMarks 46 = .ok (.getfield 140, 3) := by decide +kernel
theorem dX8_layMarks_49 : decode cX8_layMarks 49 = .ok (.iload_n 3, 1) := by decide +kernel
theorem dX8_layMarks_50 : decode cX8_layMarks 50 = .ok (.iaload, 1) := by decide +kernel
theorem dX8_layMarks_51 : decode cX8_layMarks 51 = .ok (.iload 4, 2) := by decide +kernel
theorem dX8_layMarks_53 : decode cX8_layMarks 53 = .ok (.invokestatic 92, 3) := by decide +kernel
theorem dX8_layMarks_56 : decode cX8_layMarks 56 = .ok (.ifCond .eq 49, 3) := by decide +kernel
theorem dX8_layMarks_59 : decode cX8_layMarks 59 = .ok (.iload 5, 2) := by decide +kernel
theorem dX8_layMarks_61 : decode cX8_layMarks 61 = .ok (.iload_n 2, 1) := by decide +kernel
theorem dX8_layMarks_62 : decode cX8_layMarks 62 = .ok (.if_icmp .gt 43, 3) := by decide +kernel
theorem dX8_layMarks_65 : decode cX8_layMarks 65 = .ok (.aload_n 0, 1) := by decide +kernel
theorem dX8_layMarks_66 : decode cX8_layMarks 66 = .ok (.aload_n 0, 1) := by decide +kernel
theorem dX8_layMarks_67 : decode cX8_layMarks 67 = .ok (.getfield 18, 3) := by decide +kernel
theorem dX8_layMarks_70 : decode cX8_layMarks 70 = .ok (.getfield 80, 3) := by decide +kernel
theorem dX8_layMarks_73 : decode cX8_layMarks 73 = .ok (.iload_n 3, 1) := by decide +kernel
theorem dX8_layMarks_74 : decode cX8_layMarks 74 = .ok (.iaload, 1) := by decide +kernel
theorem dX8_layMarks_75 : decode cX8_layMarks 75 = .ok (.aload_n 0, 1) := by decide +kernel
theorem dX8_layMarks_76 : decode cX8_layMarks 76 = .ok (.getfield 18, 3) := by decide +kernel
theorem dX8_layMarks_79 : decode cX8_layMarks 79 = .ok (.getfield 83, 3) := by decide +kernel
theorem dX8_layMarks_82 : decode cX8_layMarks 82 = .ok (.iload 5, 2) := by decide +kernel
theorem dX8_layMarks_84 : decode cX8_layMarks 84 = .ok (.iaload, 1) := by decide +kernel
theorem dX8_layMarks_85 : decode cX8_layMarks 85 = .ok (.aload_n 0, 1) := by decide +kernel
theorem dX8_layMarks_86 : decode cX8_layMarks 86 = .ok (.getfield 22, 3) := by decide +kernel
theorem dX8_layMarks_89 : decode cX8_layMarks 89 = .ok (.iload 4, 2) := by decide +kernel
theorem dX8_layMarks_91 : decode cX8_layMarks 91 = .ok (.invokevirtual 145, 3) := by decide +kernel
theorem dX8_layMarks_94 : decode cX8_layMarks 94 = .ok (.ifCond .eq 7, 3) := by decide +kernel
theorem dX8_layMarks_97 : decode cX8_layMarks 97 = .ok (.iconst 1, 1) := by decide +kernel
theorem dX8_layMarks_98 : decode cX8_layMarks 98 = .ok (.goto 4, 3) := by decide +kernel
theorem dX8_layMarks_101 : decode cX8_layMarks 101 = .ok (.iconst 2, 1) := by decide +kernel
theorem dX8_layMarks_102 : decode cX8_layMarks 102 = .ok (.invokevirtual 149, 3) := by decide +kernel
theorem dX8_layMarks_105 : decode cX8_layMarks 105 = .ok (.iinc 4 1, 3) := by decide +kernel
theorem dX8_layMarks_108 : decode cX8_layMarks 108 = .ok (.goto (-94), 3) := by decide +kernel
theorem dX8_layMarks_111 : decode cX8_layMarks 111 = .ok (.iinc 3 1, 3) := by decide +kernel
theorem dX8_layMarks_114 : decode cX8_layMarks 114 = .ok (.goto (-108), 3) := by decide +kernel
theorem dX8_layMarks_117 : decode cX8_layMarks 117 = .ok (.iload_n 1, 1) := by decide +kernel
theorem dX8_layMarks_118 : decode cX8_layMarks 118 = .ok (.iconst 0, 1) := by decide +kernel
theorem dX8_layMarks_119 : decode cX8_layMarks 119 = .ok (.invokestatic 126, 3) := by decide +kernel
theorem dX8_layMarks_122 : decode cX8_layMarks 122 = .ok (.istore_n 3, 1) := by decide +kernel
theorem dX8_layMarks_123 : decode cX8_layMarks 123 = .ok (.iload_n 3, 1) := by decide +kernel
theorem dX8_layMarks_124 : decode cX8_layMarks 124 = .ok (.iload_n 2, 1) := by decide +kernel
theorem dX8_layMarks_125 : decode cX8_layMarks 125 = .ok (.if_icmp .ge 14, 3) := by decide +kernel
theorem dX8_layMarks_128 : decode cX8_layMarks 128 = .ok (.aload_n 0, 1) := by decide +kernel
theorem dX8_layMarks_129 : decode cX8_layMarks 129 = .ok (.iload_n 3, 1) := by decide +kernel
theorem dX8_layMarks_130 : decode cX8_layMarks 130 = .ok (.invokevirtual 152, 3) := by decide +kernel
theorem dX8_layMarks_133 : decode cX8_layMarks 133 = .ok (.iinc 3 1, 3) := by decide +kernel
theorem dX8_layMarks_136 : decode cX8_layMarks 136 = .ok (.goto (-13), 3) := by decide +kernel
theorem dX8_layMarks_139 : decode cX8_layMarks 139 = .ok (.return_, 1) := by decide +kernel
theorem dX8_putByte_0 : decode cX8_putByte 0 = .ok (.aload_n 0, 1) := by decide +kernel
theorem dX8_putByte_1 : decode cX8_putByte 1 = .ok (.getfield 34, 3) := by decide +kernel
theorem dX8_putByte_4 : decode cX8_putByte 4 = .ok (.sipush 5760, 3) := by decide +kernel
theorem dX8_putByte_7 : decode cX8_putByte 7 = .ok (.if_icmp .ge 23, 3) := by decide +kernel
theorem dX8_putByte_10 : decode cX8_putByte 10 = .ok (.aload_n 0, 1) := by decide +kernel
theorem dX8_putByte_11 : decode cX8_putByte 11 = .ok (.getfield 15, 3) := by decide +kernel
theorem dX8_putByte_14 : decode cX8_putByte 14 = .ok (.aload_n 0, 1) := by decide +kernel
theorem dX8_putByte_15 : decode cX8_putByte 15 = .ok (.getfield 34, 3) := by decide +kernel
theorem dX8_putByte_18 : decode cX8_putByte 18 = .ok (.iload_n 1, 1) := by decide +kernel
theorem dX8_putByte_19 : decode cX8_putByte 19 = .ok (.iastore, 1) := by decide +kernel
theorem dX8_putByte_20 : decode cX8_putByte 20 = .ok (.aload_n 0, 1) := by decide +kernel
theorem dX8_putByte_21 : decode cX8_putByte 21 = .ok (.dup, 1) := by decide +kernel
theorem dX8_putByte_22 : decode cX8_putByte 22 = .ok (.getfield 34, 3) := by decide +kernel
theorem dX8_putByte_25 : decode cX8_putByte 25 = .ok (.iconst 1, 1) := by decide +kernel
theorem dX8_putByte_26 : decode cX8_putByte 26 = .ok (.iadd, 1) := by decide +kernel
theorem dX8_putByte_27 : decode cX8_putByte 27 = .ok (.putfield 34, 3) := by decide +kernel
theorem dX8_putByte_30 : decode cX8_putByte 30 = .ok (.return_, 1) := by decide +kernel
theorem dX8_put_0 : decode cX8_put 0 = .ok (.iconst 0, 1) := by decide +kernel
theorem dX8_put_1 : decode cX8_put 1 = .ok (.istore_n 2, 1) := by decide +kernel
theorem dX8_put_2 : decode cX8_put 2 = .ok (.iload_n 2, 1) := by decide +kernel
theorem dX8_put_3 : decode cX8_put 3 = .ok (.aload_n 1, 1) := by decide +kernel
theorem dX8_put_4 : decode cX8_put 4 = .ok (.invokevirtual 194, 3) := by decide +kernel
theorem dX8_put_7 : decode cX8_put 7 = .ok (.if_icmp .ge 18, 3) := by decide +kernel
theorem dX8_put_10 : decode cX8_put 10 = .ok (.aload_n 0, 1) := by decide +kernel
theorem dX8_put_11 : decode cX8_put 11 = .ok (.aload_n 1, 1) := by decide +kernel
theorem dX8_put_12 : decode cX8_put 12 = .ok (.iload_n 2, 1) := by decide +kernel
theorem dX8_put_13 : decode cX8_put 13 = .ok (.invokevirtual 199, 3) := by decide +kernel
theorem dX8_put_16 : decode cX8_put 16 = .ok (.invokevirtual 191, 3) := by decide +kernel
theorem dX8_put_19 : decode cX8_put 19 = .ok (.iinc 2 1, 3) := by decide +kernel
theorem dX8_put_22 : decode cX8_put 22 = .ok (.goto (-20), 3) := by decide +kernel
theorem dX8_put_25 : decode cX8_put 25 = .ok (.return_, 1) := by decide +kernel
theorem dX8_putStrong_0 : decode cX8_putStrong 0 = .ok (.aload_n 0, 1) := by decide +kernel
theorem dX8_putStrong_1 : decode cX8_putStrong 1 = .ok (.iload_n 1, 1) := by decide +kernel
theorem dX8_putStrong_2 : decode cX8_putStrong 2 = .ok (.ifCond .eq 8, 3) := by decide +kernel
theorem dX8_putStrong_5 : decode cX8_putStrong 5 = .ok (.ldc 179, 2) := by decide +kernel
theorem dX8_putStrong_7 : decode cX8_putStrong 7 = .ok (.goto 5, 3) := by decide +kernel
theorem dX8_putStrong_10 : decode cX8_putStrong 10 = .ok (.ldc 181, 2) := by decide +kernel
theorem dX8_putStrong_12 : decode cX8_putStrong 12 = .ok (.invokevirtual 76, 3) := by decide +kernel
theorem dX8_putStrong_15 : decode cX8_putStrong 15 = .ok (.aload_n 0, 1) := by decide +kernel
theorem dX8_putStrong_16 : decode cX8_putStrong 16 = .ok (.dup, 1) := by decide +kernel
theorem dX8_putStrong_17 : decode cX8_putStrong 17 = .ok (.getfield 38, 3) := by decide +kernel
theorem dX8_putStrong_20 : decode cX8_putStrong 20 = .ok (.iload_n 1, 1) := by decide +kernel
theorem dX8_putStrong_21 : decode cX8_putStrong 21 = .ok (.ifCond .eq 7, 3) := by decide +kernel
theorem dX8_putStrong_24 : decode cX8_putStrong 24 = .ok (.iconst 1, 1) := by decide +kernel
theorem dX8_putStrong_25 : decode cX8_putStrong 25 = .ok (.goto 4, 3) := by decide +kernel
theorem dX8_putStrong_28 : decode cX8_putStrong 28 = .ok (.iconst 0, 1) := by decide +kernel
theorem dX8_putStrong_29 : decode cX8_putStrong 29 = .ok (.iadd, 1) := by decide +kernel
theorem dX8_putStrong_30 : decode cX8_putStrong 30 = .ok (.putfield 38, 3) := by decide +kernel
theorem dX8_putStrong_33 : decode cX8_putStrong 33 = .ok (.return_, 1) := by decide +kernel
theorem dX8_changeMarks_0 : decode cX8_changeMarks 0 = .ok (.iload_n 1, 1) := by decide +kernel
theorem dX8_changeMarks_1 : decode cX8_changeMarks 1 = .ok (.iload_n 2, 1) := by decide +kernel
theorem dX8_changeMarks_2 : decode cX8_changeMarks 2 = .ok (.ixor, 1) := by decide +kernel
theorem dX8_changeMarks_3 : decode cX8_changeMarks 3 = .ok (.iconst 1, 1) := by decide +kernel
theorem dX8_changeMarks_4 : decode cX8_changeMarks 4 = .ok (.iand, 1) := by decide +kernel
theorem dX8_changeMarks_5 : decode cX8_changeMarks 5 = .ok (.ifCond .eq 7, 3) := by decide +kernel
theorem dX8_changeMarks_8 : decode cX8_changeMarks 8 = .ok (.iconst 1, 1) := by decide +kernel
theorem dX8_changeMarks_9 : decode cX8_changeMarks 9 = .ok (.goto 4, 3) := by decide +kernel
theorem dX8_changeMarks_12 : decode cX8_changeMarks 12 = .ok (.iconst 0, 1) := by decide +kernel
theorem dX8_changeMarks_13 : decode cX8_changeMarks 13 = .ok (.istore_n 3, 1) := by decide +kernel
theorem dX8_changeMarks_14 : decode cX8_changeMarks 14 = .ok (.iload_n 1, 1) := by decide +kernel
theorem dX8_changeMarks_15 : decode cX8_changeMarks 15 = .ok (.iconst 2, 1) := by decide +kernel
theorem dX8_changeMarks_16 : decode cX8_changeMarks 16 = .ok (.iand, 1) := by decide +kernel
theorem dX8_changeMarks_17 : decode cX8_changeMarks 17 = .ok (.ifCond .eq 7, 3) := by decide +kernel
theorem dX8_changeMarks_20 : decode cX8_changeMarks 20 = .ok (.iconst 1, 1) := by decide +kernel
theorem dX8_changeMarks_21 : decode cX8_changeMarks 21 = .ok (.goto 4, 3) := by decide +kernel
theorem dX8_changeMarks_24 : decode cX8_changeMarks 24 = .ok (.iconst 0, 1) := by decide +kernel
theorem dX8_changeMarks_25 : decode cX8_changeMarks 25 = .ok (.istore 4, 2) := by decide +kernel
theorem dX8_changeMarks_27 : decode cX8_changeMarks 27 = .ok (.iload_n 2, 1) := by decide +kernel
theorem dX8_changeMarks_28 : decode cX8_changeMarks 28 = .ok (.iconst 2, 1) := by decide +kernel
theorem dX8_changeMarks_29 : decode cX8_changeMarks 29 = .ok (.iand, 1) := by decide +kernel
theorem dX8_changeMarks_30 : decode cX8_changeMarks 30 = .ok (.ifCond .eq 7, 3) := by decide +kernel
theorem dX8_changeMarks_33 : decode cX8_changeMarks 33 = .ok (.iconst 1, 1) := by decide +kernel
theorem dX8_changeMarks_34 : decode cX8_changeMarks 34 = .ok (.goto 4, 3) := by decide +kernel
theorem dX8_changeMarks_37 : decode cX8_changeMarks 37 = .ok (.iconst 0, 1) := by decide +kernel
theorem dX8_changeMarks_38 : decode cX8_changeMarks 38 = .ok (.istore 5, 2) := by decide +kernel
theorem dX8_changeMarks_40 : decode cX8_changeMarks 40 = .ok (.iload 4, 2) := by decide +kernel
theorem dX8_changeMarks_42 : decode cX8_changeMarks 42 = .ok (.ifCond .eq 18, 3) := by decide +kernel
theorem dX8_changeMarks_45 : decode cX8_changeMarks 45 = .ok (.iload_n 3, 1) := by decide +kernel
theorem dX8_changeMarks_46 : decode cX8_changeMarks 46 = .ok (.ifCond .ne 8, 3) := by decide +kernel
theorem dX8_changeMarks_49 : decode cX8_changeMarks 49 = .ok (.iload 5, 2) := by decide +kernel
theorem dX8_changeMarks_51 : decode cX8_changeMarks 51 = .ok (.ifCond .ne 9, 3) := by decide +kernel
theorem dX8_changeMarks_54 : decode cX8_changeMarks 54 = .ok (.aload_n 0, 1) := by decide +kernel
theorem dX8_changeMarks_55 : decode cX8_changeMarks 55 = .ok (.ldc 171, 2) := by decide +kernel
theorem dX8_changeMarks_57 : decode cX8_changeMarks 57 = .ok (.invokevirtual 76, 3) := by decide +kernel
theorem dX8_changeMarks_60 : decode cX8_changeMarks 60 = .ok (.iload_n 3, 1) := by decide +kernel
theorem dX8_changeMarks_61 : decode cX8_changeMarks 61 = .ok (.ifCond .eq 18, 3) := by decide +kernel
theorem dX8_changeMarks_64 : decode cX8_changeMarks 64 = .ok (.aload_n 0, 1) := by decide +kernel
theorem dX8_changeMarks_65 : decode cX8_changeMarks 65 = .ok (.iload_n 2, 1) := by decide +kernel
theorem dX8_changeMarks_66 : decode cX8_changeMarks 66 = .ok (.iconst 1, 1) := by decide +kernel
theorem dX8_changeMarks_67 : decode cX8_changeMarks 67 = .ok (.iand, 1) := by decide +kernel
theorem dX8_changeMarks_68 : decode cX8_changeMarks 68 = .ok (.ifCond .eq 7, 3) := by decide +kernel
theorem dX8_changeMarks_71 : decode cX8_changeMarks 71 = .ok (.iconst 1, 1) := by decide +kernel
theorem dX8_changeMarks_72 : decode cX8_changeMarks 72 = .ok (.goto 4, 3) := by decide +kernel
theorem dX8_changeMarks_75 : decode cX8_changeMarks 75 = .ok (.iconst 0, 1) := by decide +kernel
theorem dX8_changeMarks_76 : decode cX8_changeMarks 76 = .ok (.invokevirtual 173, 3) := by decide +kernel
theorem dX8_changeMarks_79 : decode cX8_changeMarks 79 = .ok (.iload 5, 2) := by decide +kernel
theorem dX8_changeMarks_81 : decode cX8_changeMarks 81 = .ok (.ifCond .eq 28, 3) := by decide +kernel
theorem dX8_changeMarks_84 : decode cX8_changeMarks 84 = .ok (.iload_n 3, 1) := by decide +kernel
theorem dX8_changeMarks_85 : decode cX8_changeMarks 85 = .ok (.ifCond .ne 8, 3) := by decide +kernel
theorem dX8_changeMarks_88 : decode cX8_changeMarks 88 = .ok (.iload 4, 2) := by decide +kernel
theorem dX8_changeMarks_90 : decode cX8_changeMarks 90 = .ok (.ifCond .ne 19, 3) := by decide +kernel
theorem dX8_changeMarks_93 : decode cX8_changeMarks 93 = .ok (.aload_n 0, 1) := by decide +kernel
theorem dX8_changeMarks_94 : decode cX8_changeMarks 94 = .ok (.ldc 177, 2) := by decide +kernel
theorem dX8_changeMarks_96 : decode cX8_changeMarks 96 = .ok (.invokevirtual 76, 3) := by decide +kernel
theorem dX8_changeMarks_99 : decode cX8_changeMarks 99 = .ok (.aload_n 0, 1) := by decide +kernel
theorem dX8_changeMarks_100 : decode cX8_changeMarks 100 = .ok (.dup, 1) := by decide +kernel
theorem dX8_changeMarks_101 : decode cX8_changeMarks 101 = .ok (.getfield 41, 3) := by decide +kernel
theorem dX8_changeMarks_104 : decode cX8_changeMarks 104 = .ok (.iconst 1, 1) := by decide +kernel
theorem dX8_changeMarks_105 : decode cX8_changeMarks 105 = .ok (.iadd, 1) := by decide +kernel
theorem dX8_changeMarks_106 : decode cX8_changeMarks 106 = .ok (.putfield 41, 3) := by decide +kernel
theorem dX8_changeMarks_109 : decode cX8_changeMarks 109 = .ok (.return_, 1) := by decide +kernel
theorem dX8_putEscaped_0 : decode cX8_putEscaped 0 = .ok (.iload_n 1, 1) := by decide +kernel
theorem dX8_putEscaped_1 : decode cX8_putEscaped 1 = .ok (.lookupswitch 79 #[(34, 70), (38, 61), (60, 43), (62, 52)], 43) := by decide +kernel
theorem dX8_putEscaped_44 : decode cX8_putEscaped 44 = .ok (.aload_n 0, 1) := by decide +kernel
theorem dX8_putEscaped_45 : decode cX8_putEscaped 45 = .ok (.ldc 183, 2) := by decide +kernel
theorem dX8_putEscaped_47 : decode cX8_putEscaped 47 = .ok (.invokevirtual 76, 3) := by decide +kernel
theorem dX8_putEscaped_50 : decode cX8_putEscaped 50 = .ok (.goto 35, 3) := by decide +kernel
theorem dX8_putEscaped_53 : decode cX8_putEscaped 53 = .ok (.aload_n 0, 1) := by decide +kernel
theorem dX8_putEscaped_54 : decode cX8_putEscaped 54 = .ok (.ldc 185, 2) := by decide +kernel
theorem dX8_putEscaped_56 : decode cX8_putEscaped 56 = .ok (.invokevirtual 76, 3) := by decide +kernel
theorem dX8_putEscaped_59 : decode cX8_putEscaped 59 = .ok (.goto 26, 3) := by decide +kernel
theorem dX8_putEscaped_62 : decode cX8_putEscaped 62 = .ok (.aload_n 0, 1) := by decide +kernel
theorem dX8_putEscaped_63 : decode cX8_putEscaped 63 = .ok (.ldc 187, 2) := by decide +kernel
theorem dX8_putEscaped_65 : decode cX8_putEscaped 65 = .ok (.invokevirtual 76, 3) := by decide +kernel
theorem dX8_putEscaped_68 : decode cX8_putEscaped 68 = .ok (.goto 17, 3) := by decide +kernel
theorem dX8_putEscaped_71 : decode cX8_putEscaped 71 = .ok (.aload_n 0, 1) := by decide +kernel
theorem dX8_putEscaped_72 : decode cX8_putEscaped 72 = .ok (.ldc 189, 2) := by decide +kernel
theorem dX8_putEscaped_74 : decode cX8_putEscaped 74 = .ok (.invokevirtual 76, 3) := by decide +kernel
theorem dX8_putEscaped_77 : decode cX8_putEscaped 77 = .ok (.goto 8, 3) := by decide +kernel
theorem dX8_putEscaped_80 : decode cX8_putEscaped 80 = .ok (.aload_n 0, 1) := by decide +kernel
theorem dX8_putEscaped_81 : decode cX8_putEscaped 81 = .ok (.iload_n 1, 1) := by decide +kernel
theorem dX8_putEscaped_82 : decode cX8_putEscaped 82 = .ok (.invokevirtual 191, 3) := by decide +kernel
theorem dX8_putEscaped_85 : decode cX8_putEscaped 85 = .ok (.return_, 1) := by decide +kernel
theorem dX8_putPassage_0 : decode cX8_putPassage 0 = .ok (.iconst 0, 1) := by decide +kernel
theorem dX8_putPassage_1 : decode cX8_putPassage 1 = .ok (.istore_n 3, 1) := by decide +kernel
theorem dX8_putPassage_2 : decode cX8_putPassage 2 = .ok (.iload_n 1, 1) := by decide +kernel
theorem dX8_putPassage_3 : decode cX8_putPassage 3 = .ok (.istore 4, 2) := by decide +kernel
theorem dX8_putPassage_5 : decode cX8_putPassage 5 = .ok (.iload 4, 2) := by decide +kernel
theorem dX8_putPassage_7 : decode cX8_putPassage 7 = .ok (.iload_n 2, 1) := by decide +kernel
theorem dX8_putPassage_8 : decode cX8_putPassage 8 = .ok (.if_icmp .ge 53, 3) := by decide +kernel
theorem dX8_putPassage_11 : decode cX8_putPassage 11 = .ok (.aload_n 0, 1) := by decide +kernel
theorem dX8_putPassage_12 : decode cX8_putPassage 12 = .ok (.getfield 9, 3) := by decide +kernel
theorem dX8_putPassage_15 : decode cX8_putPassage 15 = .ok (.iload 4, 2) := by decide +kernel
theorem dX8_putPassage_17 : decode cX8_putPassage 17 = .ok (.iaload, 1) := by decide +kernel
theorem dX8_putPassage_18 : decode cX8_putPassage 18 = .ok (.iload_n 3, 1) := by decide +kernel
theorem dX8_putPassage_19 : decode cX8_putPassage 19 = .ok (.if_icmp .eq 23, 3) := by decide +kernel
theorem dX8_putPassage_22 : decode cX8_putPassage 22 = .ok (.aload_n 0, 1) := by decide +kernel
theorem dX8_putPassage_23 : decode cX8_putPassage 23 = .ok (.iload_n 3, 1) := by decide +kernel
theorem dX8_putPassage_24 : decode cX8_putPassage 24 = .ok (.aload_n 0, 1) := by decide +kernel
theorem dX8_putPassage_25 : decode cX8_putPassage 25 = .ok (.getfield 9, 3) := by decide +kernel
theorem dX8_putPassage_28 : decode cX8_putPassage 28 = .ok (.iload 4, 2) := by decide +kernel
theorem dX8_putPassage_30 : decode cX8_putPassage 30 = .ok (.iaload, 1) := by decide +kernel
theorem dX8_putPassage_31 : decode cX8_putPassage 31 = .ok (.invokevirtual 162, 3) := by decide +kernel
theorem dX8_putPassage_34 : decode cX8_putPassage 34 = .ok (.aload_n 0, 1) := by decide +kernel
theorem dX8_putPassage_35 : decode cX8_putPassage 35 = .ok (.getfield 9, 3) := by decide +kernel
theorem dX8_putPassage_38 : decode cX8_putPassage 38 = .ok (.iload 4, 2) := by decide +kernel
theorem dX8_putPassage_40 : decode cX8_putPassage 40 = .ok (.iaload, 1) := by decide +kernel
theorem dX8_putPassage_41 : decode cX8_putPassage 41 = .ok (.istore_n 3, 1) := by decide +kernel
theorem dX8_putPassage_42 : decode cX8_putPassage 42 = .ok (.aload_n 0, 1) := by decide +kernel
theorem dX8_putPassage_43 : decode cX8_putPassage 43 = .ok (.aload_n 0, 1) := by decide +kernel
theorem dX8_putPassage_44 : decode cX8_putPassage 44 = .ok (.getfield 18, 3) := by decide +kernel
theorem dX8_putPassage_47 : decode cX8_putPassage 47 = .ok (.iload 4, 2) := by decide +kernel
theorem dX8_putPassage_49 : decode cX8_putPassage 49 = .ok (.invokevirtual 165, 3) := by decide +kernel
theorem dX8_putPassage_52 : decode cX8_putPassage 52 = .ok (.invokevirtual 168, 3) := by decide +kernel
theorem dX8_putPassage_55 : decode cX8_putPassage 55 = .ok (.iinc 4 1, 3) := by decide +kernel
theorem dX8_putPassage_58 : decode cX8_putPassage 58 = .ok (.goto (-53), 3) := by decide +kernel
theorem dX8_putPassage_61 : decode cX8_putPassage 61 = .ok (.aload_n 0, 1) := by decide +kernel
theorem dX8_putPassage_62 : decode cX8_putPassage 62 = .ok (.iload_n 3, 1) := by decide +kernel
theorem dX8_putPassage_63 : decode cX8_putPassage 63 = .ok (.iconst 0, 1) := by decide +kernel
theorem dX8_putPassage_64 : decode cX8_putPassage 64 = .ok (.invokevirtual 162, 3) := by decide +kernel
theorem dX8_putPassage_67 : decode cX8_putPassage 67 = .ok (.return_, 1) := by decide +kernel
theorem dX8_writeWidest_0 : decode cX8_writeWidest 0 = .ok (.aload_n 0, 1) := by decide +kernel
theorem dX8_writeWidest_1 : decode cX8_writeWidest 1 = .ok (.invokevirtual 50, 3) := by decide +kernel
theorem dX8_writeWidest_4 : decode cX8_writeWidest 4 = .ok (.aload_n 0, 1) := by decide +kernel
theorem dX8_writeWidest_5 : decode cX8_writeWidest 5 = .ok (.getfield 30, 3) := by decide +kernel
theorem dX8_writeWidest_8 : decode cX8_writeWidest 8 = .ok (.iconst 0, 1) := by decide +kernel
theorem dX8_writeWidest_9 : decode cX8_writeWidest 9 = .ok (.aload_n 0, 1) := by decide +kernel
theorem dX8_writeWidest_10 : decode cX8_writeWidest 10 = .ok (.getfield 18, 3) := by decide +kernel
theorem dX8_writeWidest_13 : decode cX8_writeWidest 13 = .ok (.getfield 53, 3) := by decide +kernel
theorem dX8_writeWidest_16 : decode cX8_writeWidest 16 = .ok (.iconst 1, 1) := by decide +kernel
theorem dX8_writeWidest_17 : decode cX8_writeWidest 17 = .ok (.isub, 1) := by decide +kernel
theorem dX8_writeWidest_18 : decode cX8_writeWidest 18 = .ok (.iload_n 1, 1) := by decide +kernel
theorem dX8_writeWidest_19 : decode cX8_writeWidest 19 = .ok (.invokevirtual 58, 3) := by decide +kernel
theorem dX8_writeWidest_22 : decode cX8_writeWidest 22 = .ok (.aload_n 0, 1) := by decide +kernel
theorem dX8_writeWidest_23 : decode cX8_writeWidest 23 = .ok (.getfield 30, 3) := by decide +kernel
theorem dX8_writeWidest_26 : decode cX8_writeWidest 26 = .ok (.getfield 64, 3) := by decide +kernel
theorem dX8_writeWidest_29 : decode cX8_writeWidest 29 = .ok (.istore_n 2, 1) := by decide +kernel
theorem dX8_writeWidest_30 : decode cX8_writeWidest 30 = .ok (.aload_n 0, 1) := by decide +kernel
theorem dX8_writeWidest_31 : decode cX8_writeWidest 31 = .ok (.getfield 30, 3) := by decide +kernel
theorem dX8_writeWidest_34 : decode cX8_writeWidest 34 = .ok (.getfield 67, 3) := by decide +kernel
theorem dX8_writeWidest_37 : decode cX8_writeWidest 37 = .ok (.istore_n 3, 1) := by decide +kernel
theorem dX8_writeWidest_38 : decode cX8_writeWidest 38 = .ok (.iload_n 2, 1) := by decide +kernel
theorem dX8_writeWidest_39 : decode cX8_writeWidest 39 = .ok (.iconst (-1), 1) := by decide +kernel
theorem dX8_writeWidest_40 : decode cX8_writeWidest 40 = .ok (.if_icmp .ne 4, 3) := by decide +kernel
theorem dX8_writeWidest_43 : decode cX8_writeWidest 43 = .ok (.return_, 1) := by decide +kernel
theorem dX8_writeWidest_44 : decode cX8_writeWidest 44 = .ok (.aload_n 0, 1) := by decide +kernel
theorem dX8_writeWidest_45 : decode cX8_writeWidest 45 = .ok (.iload_n 2, 1) := by decide +kernel
theorem dX8_writeWidest_46 : decode cX8_writeWidest 46 = .ok (.iload_n 3, 1) := by decide +kernel
theorem dX8_writeWidest_47 : decode cX8_writeWidest 47 = .ok (.invokevirtual 70, 3) := by decide +kernel
theorem dX8_writeWidest_50 : decode cX8_writeWidest 50 = .ok (.iload_n 2, 1) := by decide +kernel
theorem dX8_writeWidest_51 : decode cX8_writeWidest 51 = .ok (.ifCond .le 9, 3) := by decide +kernel
theorem dX8_writeWidest_54 : decode cX8_writeWidest 54 = .ok (.aload_n 0, 1) := by decide +kernel
theorem dX8_writeWidest_55 : decode cX8_writeWidest 55 = .ok (.ldc 74, 2) := by decide +kernel
theorem dX8_writeWidest_57 : decode cX8_writeWidest 57 = .ok (.invokevirtual 76, 3) := by decide +kernel
theorem dX8_writeWidest_60 : decode cX8_writeWidest 60 = .ok (.aload_n 0, 1) := by decide +kernel
theorem dX8_writeWidest_61 : decode cX8_writeWidest 61 = .ok (.aload_n 0, 1) := by decide +kernel
theorem dX8_writeWidest_62 : decode cX8_writeWidest 62 = .ok (.getfield 18, 3) := by decide +kernel
theorem dX8_writeWidest_65 : decode cX8_writeWidest 65 = .ok (.getfield 80, 3) := by decide +kernel
theorem dX8_writeWidest_68 : decode cX8_writeWidest 68 = .ok (.iload_n 2, 1) := by decide +kernel
theorem dX8_writeWidest_69 : decode cX8_writeWidest 69 = .ok (.iaload, 1) := by decide +kernel
theorem dX8_writeWidest_70 : decode cX8_writeWidest 70 = .ok (.aload_n 0, 1) := by decide +kernel
theorem dX8_writeWidest_71 : decode cX8_writeWidest 71 = .ok (.getfield 18, 3) := by decide +kernel
theorem dX8_writeWidest_74 : decode cX8_writeWidest 74 = .ok (.getfield 83, 3) := by decide +kernel
theorem dX8_writeWidest_77 : decode cX8_writeWidest 77 = .ok (.iload_n 3, 1) := by decide +kernel
theorem dX8_writeWidest_78 : decode cX8_writeWidest 78 = .ok (.iaload, 1) := by decide +kernel
theorem dX8_writeWidest_79 : decode cX8_writeWidest 79 = .ok (.invokevirtual 86, 3) := by decide +kernel
theorem dX8_writeWidest_82 : decode cX8_writeWidest 82 = .ok (.iload_n 3, 1) := by decide +kernel
theorem dX8_writeWidest_83 : decode cX8_writeWidest 83 = .ok (.aload_n 0, 1) := by decide +kernel
theorem dX8_writeWidest_84 : decode cX8_writeWidest 84 = .ok (.getfield 18, 3) := by decide +kernel
theorem dX8_writeWidest_87 : decode cX8_writeWidest 87 = .ok (.getfield 53, 3) := by decide +kernel
theorem dX8_writeWidest_90 : decode cX8_writeWidest 90 = .ok (.iconst 1, 1) := by decide +kernel
theorem dX8_writeWidest_91 : decode cX8_writeWidest 91 = .ok (.isub, 1) := by decide +kernel
theorem dX8_writeWidest_92 : decode cX8_writeWidest 92 = .ok (.if_icmp .ge 9, 3) := by decide +kernel
theorem dX8_writeWidest_95 : decode cX8_writeWidest 95 = .ok (.aload_n 0, 1) := by decide +kernel
theorem dX8_writeWidest_96 : decode cX8_writeWidest 96 = .ok (.ldc 74, 2) := by decide +kernel
theorem dX8_writeWidest_98 : decode cX8_writeWidest 98 = .ok (.invokevirtual 76, 3) := by decide +kernel
theorem dX8_writeWidest_101 : decode cX8_writeWidest 101 = .ok (.return_, 1) := by decide +kernel
theorem dX8_putJoint_0 : decode cX8_putJoint 0 = .ok (.iload_n 1, 1) := by decide +kernel
theorem dX8_putJoint_1 : decode cX8_putJoint 1 = .ok (.iconst (-1), 1) := by decide +kernel
theorem dX8_putJoint_2 : decode cX8_putJoint 2 = .ok (.if_icmp .ne 22, 3) := by decide +kernel
theorem dX8_putJoint_5 : decode cX8_putJoint 5 = .ok (.aload_n 0, 1) := by decide +kernel
theorem dX8_putJoint_6 : decode cX8_putJoint 6 = .ok (.iload 4, 2) := by decide +kernel
theorem dX8_putJoint_8 : decode cX8_putJoint 8 = .ok (.ifCond .eq 8, 3) := by decide +kernel
theorem dX8_putJoint_11 : decode cX8_putJoint 11 = .ok (.ldc 74, 2) := by decide +kernel
theorem dX8_putJoint_13 : decode cX8_putJoint 13 = .ok (.goto 5, 3) := by decide +kernel
theorem dX8_putJoint_16 : decode cX8_putJoint 16 = .ok (.ldc 120, 2) := by decide +kernel
theorem dX8_putJoint_18 : decode cX8_putJoint 18 = .ok (.invokevirtual 76, 3) := by decide +kernel
theorem dX8_putJoint_21 : decode cX8_putJoint 21 = .ok (.goto 34, 3) := by decide +kernel
theorem dX8_putJoint_24 : decode cX8_putJoint 24 = .ok (.iload_n 3, 1) := by decide +kernel
theorem dX8_putJoint_25 : decode cX8_putJoint 25 = .ok (.iload_n 1, 1) := by decide +kernel
theorem dX8_putJoint_26 : decode cX8_putJoint 26 = .ok (.iconst 1, 1) := by decide +kernel
theorem dX8_putJoint_27 : decode cX8_putJoint 27 = .ok (.iadd, 1) := by decide +kernel
theorem dX8_putJoint_28 : decode cX8_putJoint 28 = .ok (.if_icmp .ne 21, 3) := by decide +kernel
theorem dX8_putJoint_31 : decode cX8_putJoint 31 = .ok (.iload_n 2, 1) := by decide +kernel
theorem dX8_putJoint_32 : decode cX8_putJoint 32 = .ok (.ifCond .ne 17, 3) := by decide +kernel
theorem dX8_putJoint_35 : decode cX8_putJoint 35 = .ok (.iload 4, 2) := by decide +kernel
theorem dX8_putJoint_37 : decode cX8_putJoint 37 = .ok (.ifCond .ne 12, 3) := by decide +kernel
theorem dX8_putJoint_40 : decode cX8_putJoint 40 = .ok (.aload_n 0, 1) := by decide +kernel
theorem dX8_putJoint_41 : decode cX8_putJoint 41 = .ok (.ldc 122, 2) := by decide +kernel
theorem dX8_putJoint_43 : decode cX8_putJoint 43 = .ok (.invokevirtual 76, 3) := by decide +kernel
theorem dX8_putJoint_46 : decode cX8_putJoint 46 = .ok (.goto 9, 3) := by decide +kernel
theorem dX8_putJoint_49 : decode cX8_putJoint 49 = .ok (.aload_n 0, 1) := by decide +kernel
theorem dX8_putJoint_50 : decode cX8_putJoint 50 = .ok (.ldc 124, 2) := by decide +kernel
theorem dX8_putJoint_52 : decode cX8_putJoint 52 = .ok (.invokevirtual 76, 3) := by decide +kernel
theorem dX8_putJoint_55 : decode cX8_putJoint 55 = .ok (.return_, 1) := by decide +kernel
theorem dX8_writeSet_0 : decode cX8_writeSet 0 = .ok (.aload_n 0, 1) := by decide +kernel
theorem dX8_writeSet_1 : decode cX8_writeSet 1 = .ok (.invokevirtual 50, 3) := by decide +kernel
theorem dX8_writeSet_4 : decode cX8_writeSet 4 = .ok (.iconst (-1), 1) := by decide +kernel
theorem dX8_writeSet_5 : decode cX8_writeSet 5 = .ok (.istore_n 3, 1) := by decide +kernel
theorem dX8_writeSet_6 : decode cX8_writeSet 6 = .ok (.iconst 0, 1) := by decide +kernel
theorem dX8_writeSet_7 : decode cX8_writeSet 7 = .ok (.istore 4, 2) := by decide +kernel
theorem dX8_writeSet_9 : decode cX8_writeSet 9 = .ok (.iconst 0, 1) := by decide +kernel
theorem dX8_writeSet_10 : decode cX8_writeSet 10 = .ok (.istore 5, 2) := by decide +kernel
theorem dX8_writeSet_12 : decode cX8_writeSet 12 = .ok (.iload 5, 2) := by decide +kernel
theorem dX8_writeSet_14 : decode cX8_writeSet 14 = .ok (.aload_n 0, 1) := by decide +kernel
theorem dX8_writeSet_15 : decode cX8_writeSet 15 = .ok (.getfield 18, 3) := by decide +kernel
theorem dX8_writeSet_18 : decode cX8_writeSet 18 = .ok (.getfield 89, 3) := by decide +kernel
theorem dX8_writeSet_21 : decode cX8_writeSet 21 = .ok (.if_icmp .ge 214, 3) := by decide +kernel
theorem dX8_writeSet_24 : decode cX8_writeSet 24 = .ok (.iload_n 1, 1) := by decide +kernel
theorem dX8_writeSet_25 : decode cX8_writeSet 25 = .ok (.iload 5, 2) := by decide +kernel
theorem dX8_writeSet_27 : decode cX8_writeSet 27 = .ok (.invokestatic 92, 3) := by decide +kernel
theorem dX8_writeSet_30 : decode cX8_writeSet 30 = .ok (.ifCond .ne 6, 3) := by decide +kernel
theorem dX8_writeSet_33 : decode cX8_writeSet 33 = .ok (.goto 196, 3) := by decide +kernel
theorem dX8_writeSet_36 : decode cX8_writeSet 36 = .ok (.aload_n 0, 1) := by decide +kernel
theorem dX8_writeSet_37 : decode cX8_writeSet 37 = .ok (.getfield 30, 3) := by decide +kernel
theorem dX8_writeSet_40 : decode cX8_writeSet 40 = .ok (.iload 5, 2) := by decide +kernel
theorem dX8_writeSet_42 : decode cX8_writeSet 42 = .ok (.iload_n 2, 1) := by decide +kernel
theorem dX8_writeSet_43 : decode cX8_writeSet 43 = .ok (.invokevirtual 96, 3) := by decide +kernel
theorem dX8_writeSet_46 : decode cX8_writeSet 46 = .ok (.aload_n 0, 1) := by decide +kernel
theorem dX8_writeSet_47 : decode cX8_writeSet 47 = .ok (.getfield 30, 3) := by decide +kernel
theorem dX8_writeSet_50 : decode cX8_writeSet 50 = .ok (.getfield 99, 3) := by decide +kernel
theorem dX8_writeSet_53 : decode cX8_writeSet 53 = .ok (.ifCond .ne 17, 3) := by decide +kernel
theorem dX8_writeSet_56 : decode cX8_writeSet 56 = .ok (.aload_n 0, 1) := by decide +kernel
theorem dX8_writeSet_57 : decode cX8_writeSet 57 = .ok (.getfield 30, 3) := by decide +kernel
theorem dX8_writeSet_60 : decode cX8_writeSet 60 = .ok (.getfield 64, 3) := by decide +kernel
theorem dX8_writeSet_63 : decode cX8_writeSet 63 = .ok (.iconst (-1), 1) := by decide +kernel
theorem dX8_writeSet_64 : decode cX8_writeSet 64 = .ok (.if_icmp .ne 6, 3) := by decide +kernel
theorem dX8_writeSet_67 : decode cX8_writeSet 67 = .ok (.goto 162, 3) := by decide +kernel
theorem dX8_writeSet_70 : decode cX8_writeSet 70 = .ok (.aload_n 0, 1) := by decide +kernel
theorem dX8_writeSet_71 : decode cX8_writeSet 71 = .ok (.getfield 30, 3) := by decide +kernel
theorem dX8_writeSet_74 : decode cX8_writeSet 74 = .ok (.getfield 64, 3) := by decide +kernel
theorem dX8_writeSet_77 : decode cX8_writeSet 77 = .ok (.aload_n 0, 1) := by decide +kernel
theorem dX8_writeSet_78 : decode cX8_writeSet 78 = .ok (.getfield 18, 3) := by decide +kernel
theorem dX8_writeSet_81 : decode cX8_writeSet 81 = .ok (.getfield 103, 3) := by decide +kernel
theorem dX8_writeSet_84 : decode cX8_writeSet 84 = .ok (.iload 5, 2) := by decide +kernel
theorem dX8_writeSet_86 : decode cX8_writeSet 86 = .ok (.iaload, 1) := by decide +kernel
theorem dX8_writeSet_87 : decode cX8_writeSet 87 = .ok (.if_icmp .le 7, 3) := by decide +kernel
theorem dX8_writeSet_90 : decode cX8_writeSet 90 = .ok (.iconst 1, 1) := by decide +kernel
theorem dX8_writeSet_91 : decode cX8_writeSet 91 = .ok (.goto 4, 3) := by decide +kernel
theorem dX8_writeSet_94 : decode cX8_writeSet 94 = .ok (.iconst 0, 1) := by decide +kernel
theorem dX8_writeSet_95 : decode cX8_writeSet 95 = .ok (.istore 6, 2) := by decide +kernel
theorem dX8_writeSet_97 : decode cX8_writeSet 97 = .ok (.aload_n 0, 1) := by decide +kernel
theorem dX8_writeSet_98 : decode cX8_writeSet 98 = .ok (.getfield 30, 3) := by decide +kernel
theorem dX8_writeSet_101 : decode cX8_writeSet 101 = .ok (.getfield 67, 3) := by decide +kernel
theorem dX8_writeSet_104 : decode cX8_writeSet 104 = .ok (.aload_n 0, 1) := by decide +kernel
theorem dX8_writeSet_105 : decode cX8_writeSet 105 = .ok (.getfield 18, 3) := by decide +kernel
theorem dX8_writeSet_108 : decode cX8_writeSet 108 = .ok (.iload 5, 2) := by decide +kernel
theorem dX8_writeSet_110 : decode cX8_writeSet 110 = .ok (.invokevirtual 106, 3) := by decide +kernel
theorem dX8_writeSet_113 : decode cX8_writeSet 113 = .ok (.if_icmp .ge 7, 3) := by decide +kernel
theorem dX8_writeSet_116 : decode cX8_writeSet 116 = .ok (.iconst 1, 1) := by decide +kernel
theorem dX8_writeSet_117 : decode cX8_writeSet 117 = .ok (.goto 4, 3) := by decide +kernel
theorem dX8_writeSet_120 : decode cX8_writeSet 120 = .ok (.iconst 0, 1) := by decide +kernel
theorem dX8_writeSet_121 : decode cX8_writeSet 121 = .ok (.istore 7, 2) := by decide +kernel
theorem dX8_writeSet_123 : decode cX8_writeSet 123 = .ok (.aload_n 0, 1) := by decide +kernel
theorem dX8_writeSet_124 : decode cX8_writeSet 124 = .ok (.iload_n 3, 1) := by decide +kernel
theorem dX8_writeSet_125 : decode cX8_writeSet 125 = .ok (.iload 4, 2) := by decide +kernel
theorem dX8_writeSet_127 : decode cX8_writeSet 127 = .ok (.iload 5, 2) := by decide +kernel
theorem dX8_writeSet_129 : decode cX8_writeSet 129 = .ok (.iload 6, 2) := by decide +kernel
theorem dX8_writeSet_131 : decode cX8_writeSet 131 = .ok (.invokevirtual 110, 3) := by decide +kernel
theorem dX8_writeSet_134 : decode cX8_writeSet 134 = .ok (.aload_n 0, 1) := by decide +kernel
theorem dX8_writeSet_135 : decode cX8_writeSet 135 = .ok (.aload_n 0, 1) := by decide +kernel
theorem dX8_writeSet_136 : decode cX8_writeSet 136 = .ok (.getfield 30, 3) := by decide +kernel
theorem dX8_writeSet_139 : decode cX8_writeSet 139 = .ok (.getfield 64, 3) := by decide +kernel
theorem dX8_writeSet_142 : decode cX8_writeSet 142 = .ok (.aload_n 0, 1) := by decide +kernel
theorem dX8_writeSet_143 : decode cX8_writeSet 143 = .ok (.getfield 30, 3) := by decide +kernel
theorem dX8_writeSet_146 : decode cX8_writeSet 146 = .ok (.getfield 67, 3) := by decide +kernel
theorem dX8_writeSet_149 : decode cX8_writeSet 149 = .ok (.invokevirtual 70, 3) := by decide +kernel
theorem dX8_writeSet_152 : decode cX8_writeSet 152 = .ok (.aload_n 0, 1) := by decide +kernel
theorem dX8_writeSet_153 : decode cX8_writeSet 153 = .ok (.iload 6, 2) := by decide +kernel
theorem dX8_writeSet_155 : decode cX8_writeSet 155 = .ok (.ifCond .eq 21, 3) := by decide +kernel
theorem dX8_writeSet_158 : decode cX8_writeSet 158 = .ok (.aload_n 0, 1) := by decide +kernel
theorem dX8_writeSet_159 : decode cX8_writeSet 159 = .ok (.getfield 18, 3) := by decide +kernel
theorem dX8_writeSet_162 : decode cX8_writeSet 162 = .ok (.getfield 80, 3) := by decide +kernel
theorem dX8_writeSet_165 : decode cX8_writeSet 165 = .ok (.aload_n 0, 1) := by decide +kernel
theorem dX8_writeSet_166 : decode cX8_writeSet 166 = .ok (.getfield 30, 3) := by decide +kernel
theorem dX8_writeSet_169 : decode cX8_writeSet 169 = .ok (.getfield 64, 3) := by decide +kernel
theorem dX8_writeSet_172 : decode cX8_writeSet 172 = .ok (.iaload, 1) := by decide +kernel
theorem dX8_writeSet_173 : decode cX8_writeSet 173 = .ok (.goto 13, 3) := by decide +kernel
theorem dX8_writeSet_176 : decode cX8_writeSet 176 = .ok (.aload_n 0, 1) := by decide +kernel
theorem dX8_writeSet_177 : decode cX8_writeSet 177 = .ok (.getfield 18, 3) := by decide +kernel
theorem dX8_writeSet_180 : decode cX8_writeSet 180 = .ok (.getfield 114, 3) := by decide +kernel
theorem dX8_writeSet_183 : decode cX8_writeSet 183 = .ok (.iload 5, 2) := by decide +kernel
theorem dX8_writeSet_185 : decode cX8_writeSet 185 = .ok (.iaload, 1) := by decide +kernel
theorem dX8_writeSet_186 : decode cX8_writeSet 186 = .ok (.iload 7, 2) := by decide +kernel
theorem dX8_writeSet_188 : decode cX8_writeSet 188 = .ok (.ifCond .eq 21, 3) := by decide +kernel
theorem dX8_writeSet_191 : decode cX8_writeSet 191 = .ok (.aload_n 0, 1) := by decide +kernel
theorem dX8_writeSet_192 : decode cX8_writeSet 192 = .ok (.getfield 18, 3) := by decide +kernel
theorem dX8_writeSet_195 : decode cX8_writeSet 195 = .ok (.getfield 83, 3) := by decide +kernel
theorem dX8_writeSet_198 : decode cX8_writeSet 198 = .ok (.aload_n 0, 1) := by decide +kernel
theorem dX8_writeSet_199 : decode cX8_writeSet 199 = .ok (.getfield 30, 3) := by decide +kernel
theorem dX8_writeSet_202 : decode cX8_writeSet 202 = .ok (.getfield 67, 3) := by decide +kernel
theorem dX8_writeSet_205 : decode cX8_writeSet 205 = .ok (.iaload, 1) := by decide +kernel
theorem dX8_writeSet_206 : decode cX8_writeSet 206 = .ok (.goto 13, 3) := by decide +kernel
theorem dX8_writeSet_209 : decode cX8_writeSet 209 = .ok (.aload_n 0, 1) := by decide +kernel
theorem dX8_writeSet_210 : decode cX8_writeSet 210 = .ok (.getfield 18, 3) := by decide +kernel
theorem dX8_writeSet_213 : decode cX8_writeSet 213 = .ok (.getfield 117, 3) := by decide +kernel
theorem dX8_writeSet_216 : decode cX8_writeSet 216 = .ok (.iload 5, 2) := by decide +kernel
theorem dX8_writeSet_218 : decode cX8_writeSet 218 = .ok (.iaload, 1) := by decide +kernel
theorem dX8_writeSet_219 : decode cX8_writeSet 219 = .ok (.invokevirtual 86, 3) := by decide +kernel
theorem dX8_writeSet_222 : decode cX8_writeSet 222 = .ok (.iload 5, 2) := by decide +kernel
theorem dX8_writeSet_224 : decode cX8_writeSet 224 = .ok (.istore_n 3, 1) := by decide +kernel
theorem dX8_writeSet_225 : decode cX8_writeSet 225 = .ok (.iload 7, 2) := by decide +kernel
theorem dX8_writeSet_227 : decode cX8_writeSet 227 = .ok (.istore 4, 2) := by decide +kernel
theorem dX8_writeSet_229 : decode cX8_writeSet 229 = .ok (.iinc 5 1, 3) := by decide +kernel
theorem dX8_writeSet_232 : decode cX8_writeSet 232 = .ok (.goto (-220), 3) := by decide +kernel
theorem dX8_writeSet_235 : decode cX8_writeSet 235 = .ok (.iload 4, 2) := by decide +kernel
theorem dX8_writeSet_237 : decode cX8_writeSet 237 = .ok (.ifCond .eq 9, 3) := by decide +kernel
theorem dX8_writeSet_240 : decode cX8_writeSet 240 = .ok (.aload_n 0, 1) := by decide +kernel
theorem dX8_writeSet_241 : decode cX8_writeSet 241 = .ok (.ldc 74, 2) := by decide +kernel
theorem dX8_writeSet_243 : decode cX8_writeSet 243 = .ok (.invokevirtual 76, 3) := by decide +kernel
theorem dX8_writeSet_246 : decode cX8_writeSet 246 = .ok (.return_, 1) := by decide +kernel
theorem dX9_feed_0 : decode cX9_feed 0 = .ok (.aload_n 0, 1) := by decide +kernel
theorem dX9_feed_1 : decode cX9_feed 1 = .ok (.getfield 10, 3) := by decide +kernel
theorem dX9_feed_4 : decode cX9_feed 4 = .ok (.getfield 80, 3) := by decide +kernel
theorem dX9_feed_7 : decode cX9_feed 7 = .ok (.bipush 20, 2) := by decide +kernel
theorem dX9_feed_9 : decode cX9_feed 9 = .ok (.iadd, 1) := by decide +kernel
theorem dX9_feed_10 : decode cX9_feed 10 = .ok (.sipush 600, 3) := by decide +kernel
theorem dX9_feed_13 : decode cX9_feed 13 = .ok (.if_icmp .le 5, 3) := by decide +kernel
theorem dX9_feed_16 : decode cX9_feed 16 = .ok (.iconst (-1), 1) := by decide +kernel
theorem dX9_feed_17 : decode cX9_feed 17 = .ok (.ireturn, 1) := by decide +kernel
theorem dX9_feed_18 : decode cX9_feed 18 = .ok (.aload_n 0, 1) := by decide +kernel
theorem dX9_feed_19 : decode cX9_feed 19 = .ok (.getfield 10, 3) := by decide +kernel
theorem dX9_feed_22 : decode cX9_feed 22 = .ok (.iload_n 1, 1) := by decide +kernel
theorem dX9_feed_23 : decode cX9_feed 23 = .ok (.invokevirtual 83, 3) := by decide +kernel
theorem dX9_feed_26 : decode cX9_feed 26 = .ok (.aload_n 0, 1) := by decide +kernel
theorem dX9_feed_27 : decode cX9_feed 27 = .ok (.getfield 10, 3) := by decide +kernel
theorem dX9_feed_30 : decode cX9_feed 30 = .ok (.iload_n 2, 1) := by decide +kernel
theorem dX9_feed_31 : decode cX9_feed 31 = .ok (.invokevirtual 83, 3) := by decide +kernel
theorem dX9_feed_34 : decode cX9_feed 34 = .ok (.aload_n 0, 1) := by decide +kernel
theorem dX9_feed_35 : decode cX9_feed 35 = .ok (.getfield 10, 3) := by decide +kernel
theorem dX9_feed_38 : decode cX9_feed 38 = .ok (.iload_n 3, 1) := by decide +kernel
theorem dX9_feed_39 : decode cX9_feed 39 = .ok (.invokevirtual 83, 3) := by decide +kernel
theorem dX9_feed_42 : decode cX9_feed 42 = .ok (.aload_n 0, 1) := by decide +kernel
theorem dX9_feed_43 : decode cX9_feed 43 = .ok (.getfield 10, 3) := by decide +kernel
theorem dX9_feed_46 : decode cX9_feed 46 = .ok (.iload 4, 2) := by decide +kernel
theorem dX9_feed_48 : decode cX9_feed 48 = .ok (.invokevirtual 83, 3) := by decide +kernel
theorem dX9_feed_51 : decode cX9_feed 51 = .ok (.aload_n 0, 1) := by decide +kernel
theorem dX9_feed_52 : decode cX9_feed 52 = .ok (.getfield 10, 3) := by decide +kernel
theorem dX9_feed_55 : decode cX9_feed 55 = .ok (.iload 5, 2) := by decide +kernel
theorem dX9_feed_57 : decode cX9_feed 57 = .ok (.invokevirtual 83, 3) := by decide +kernel
theorem dX9_feed_60 : decode cX9_feed 60 = .ok (.aload_n 0, 1) := by decide +kernel
theorem dX9_feed_61 : decode cX9_feed 61 = .ok (.getfield 10, 3) := by decide +kernel
theorem dX9_feed_64 : decode cX9_feed 64 = .ok (.getfield 80, 3) := by decide +kernel
theorem dX9_feed_67 : decode cX9_feed 67 = .ok (.ireturn, 1) := by decide +kernel
theorem dX9_end_0 : decode cX9_end 0 = .ok (.iload_n 1, 1) := by decide +kernel
theorem dX9_end_1 : decode cX9_end 1 = .ok (.ifCond .lt 14, 3) := by decide +kernel
theorem dX9_end_4 : decode cX9_end 4 = .ok (.iload_n 1, 1) := by decide +kernel
theorem dX9_end_5 : decode cX9_end 5 = .ok (.aload_n 0, 1) := by decide +kernel
theorem dX9_end_6 : decode cX9_end 6 = .ok (.getfield 10, 3) := by decide +kernel
theorem dX9_end_9 : decode cX9_end 9 = .ok (.getfield 80, 3) := by decide +kernel
theorem dX9_end_12 : decode cX9_end 12 = .ok (.if_icmp .le 5, 3) := by decide +kernel
theorem dX9_end_15 : decode cX9_end 15 = .ok (.iconst 0, 1) := by decide +kernel
theorem dX9_end_16 : decode cX9_end 16 = .ok (.ireturn, 1) := by decide +kernel
theorem dX9_end_17 : decode cX9_end 17 = .ok (.aload_n 0, 1) := by decide +kernel
theorem dX9_end_18 : decode cX9_end 18 = .ok (.getfield 10, 3) := by decide +kernel
theorem dX9_end_21 : decode cX9_end 21 = .ok (.iload_n 1, 1) := by decide +kernel
theorem dX9_end_22 : decode cX9_end 22 = .ok (.putfield 80, 3) := by decide +kernel
theorem dX9_end_25 : decode cX9_end 25 = .ok (.iconst 1, 1) := by decide +kernel
theorem dX9_end_26 : decode cX9_end 26 = .ok (.ireturn, 1) := by decide +kernel
theorem dX9_page_0 : decode cX9_page 0 = .ok (.aload_n 0, 1) := by decide +kernel
theorem dX9_page_1 : decode cX9_page 1 = .ok (.getfield 19, 3) := by decide +kernel
theorem dX9_page_4 : decode cX9_page 4 = .ok (.aload_n 0, 1) := by decide +kernel
theorem dX9_page_5 : decode cX9_page 5 = .ok (.getfield 10, 3) := by decide +kernel
theorem dX9_page_8 : decode cX9_page 8 = .ok (.invokevirtual 87, 3) := by decide +kernel
theorem dX9_page_11 : decode cX9_page 11 = .ok (.aload_n 0, 1) := by decide +kernel
theorem dX9_page_12 : decode cX9_page 12 = .ok (.getfield 10, 3) := by decide +kernel
theorem dX9_page_15 : decode cX9_page 15 = .ok (.iconst 0, 1) := by decide +kernel
theorem dX9_page_16 : decode cX9_page 16 = .ok (.putfield 80, 3) := by decide +kernel
theorem dX9_page_19 : decode cX9_page 19 = .ok (.aload_n 0, 1) := by decide +kernel
theorem dX9_page_20 : decode cX9_page 20 = .ok (.getfield 47, 3) := by decide +kernel
theorem dX9_page_23 : decode cX9_page 23 = .ok (.invokevirtual 91, 3) := by decide +kernel
theorem dX9_page_26 : decode cX9_page 26 = .ok (.aload_n 0, 1) := by decide +kernel
theorem dX9_page_27 : decode cX9_page 27 = .ok (.getfield 63, 3) := by decide +kernel
theorem dX9_page_30 : decode cX9_page 30 = .ok (.invokevirtual 94, 3) := by decide +kernel
theorem dX9_page_33 : decode cX9_page 33 = .ok (.aload_n 0, 1) := by decide +kernel
theorem dX9_page_34 : decode cX9_page 34 = .ok (.getfield 19, 3) := by decide +kernel
theorem dX9_page_37 : decode cX9_page 37 = .ok (.getfield 97, 3) := by decide +kernel
theorem dX9_page_40 : decode cX9_page 40 = .ok (.ireturn, 1) := by decide +kernel
theorem dX9_fault_0 : decode cX9_fault 0 = .ok (.aload_n 0, 1) := by decide +kernel
theorem dX9_fault_1 : decode cX9_fault 1 = .ok (.getfield 76, 3) := by decide +kernel
theorem dX9_fault_4 : decode cX9_fault 4 = .ok (.ireturn, 1) := by decide +kernel
theorem dX9_sign_0 : decode cX9_sign 0 = .ok (.aload_n 0, 1) := by decide +kernel
theorem dX9_sign_1 : decode cX9_sign 1 = .ok (.getfield 19, 3) := by decide +kernel
theorem dX9_sign_4 : decode cX9_sign 4 = .ok (.iload_n 1, 1) := by decide +kernel
theorem dX9_sign_5 : decode cX9_sign 5 = .ok (.invokevirtual 139, 3) := by decide +kernel
theorem dX9_sign_8 : decode cX9_sign 8 = .ok (.ireturn, 1) := by decide +kernel
theorem dX9_signOf_0 : decode cX9_signOf 0 = .ok (.iload_n 1, 1) := by decide +kernel
theorem dX9_signOf_1 : decode cX9_signOf 1 = .ok (.ifCond .lt 14, 3) := by decide +kernel
theorem dX9_signOf_4 : decode cX9_signOf 4 = .ok (.iload_n 1, 1) := by decide +kernel
theorem dX9_signOf_5 : decode cX9_signOf 5 = .ok (.aload_n 0, 1) := by decide +kernel
theorem dX9_signOf_6 : decode cX9_signOf 6 = .ok (.getfield 19, 3) := by decide +kernel
theorem dX9_signOf_9 : decode cX9_signOf 9 = .ok (.getfield 142, 3) := by decide +kernel
theorem dX9_signOf_12 : decode cX9_signOf 12 = .ok (.if_icmp .lt 7, 3) := by decide +kernel
theorem dX9_signOf_15 : decode cX9_signOf 15 = .ok (.iconst (-1), 1) := by decide +kernel
theorem dX9_signOf_16 : decode cX9_signOf 16 = .ok (.goto 12, 3) := by decide +kernel
theorem dX9_signOf_19 : decode cX9_signOf 19 = .ok (.aload_n 0, 1) := by decide +kernel
theorem dX9_signOf_20 : decode cX9_signOf 20 = .ok (.getfield 19, 3) := by decide +kernel
theorem dX9_signOf_23 : decode cX9_signOf 23 = .ok (.getfield 143, 3) := by decide +kernel
theorem dX9_signOf_26 : decode cX9_signOf 26 = .ok (.iload_n 1, 1) := by decide +kernel
theorem dX9_signOf_27 : decode cX9_signOf 27 = .ok (.iaload, 1) := by decide +kernel
theorem dX9_signOf_28 : decode cX9_signOf 28 = .ok (.ireturn, 1) := by decide +kernel
theorem dX9_step_0 : decode cX9_step 0 = .ok (.aload_n 0, 1) := by decide +kernel
theorem dX9_step_1 : decode cX9_step 1 = .ok (.getfield 63, 3) := by decide +kernel
theorem dX9_step_4 : decode cX9_step 4 = .ok (.invokevirtual 297, 3) := by decide +kernel
theorem dX9_step_7 : decode cX9_step 7 = .ok (.pop, 1) := by decide +kernel
theorem dX9_step_8 : decode cX9_step 8 = .ok (.iload_n 1, 1) := by decide +kernel
theorem dX9_step_9 : decode cX9_step 9 = .ok (.ifCond .lt 14, 3) := by decide +kernel
theorem dX9_step_12 : decode cX9_step 12 = .ok (.iload_n 1, 1) := by decide +kernel
theorem dX9_step_13 : decode cX9_step 13 = .ok (.aload_n 0, 1) := by decide +kernel
theorem dX9_step_14 : decode cX9_step 14 = .ok (.getfield 63, 3) := by decide +kernel
theorem dX9_step_17 : decode cX9_step 17 = .ok (.getfield 300, 3) := by decide +kernel
theorem dX9_step_20 : decode cX9_step 20 = .ok (.if_icmp .lt 7, 3) := by decide +kernel
theorem dX9_step_23 : decode cX9_step 23 = .ok (.iconst (-1), 1) := by decide +kernel
theorem dX9_step_24 : decode cX9_step 24 = .ok (.goto 12, 3) := by decide +kernel
theorem dX9_step_27 : decode cX9_step 27 = .ok (.aload_n 0, 1) := by decide +kernel
theorem dX9_step_28 : decode cX9_step 28 = .ok (.getfield 63, 3) := by decide +kernel
theorem dX9_step_31 : decode cX9_step 31 = .ok (.getfield 303, 3) := by decide +kernel
theorem dX9_step_34 : decode cX9_step 34 = .ok (.iload_n 1, 1) := by decide +kernel
theorem dX9_step_35 : decode cX9_step 35 = .ok (.iaload, 1) := by decide +kernel
theorem dX9_step_36 : decode cX9_step 36 = .ok (.ireturn, 1) := by decide +kernel
theorem dX9_choice_0 : decode cX9_choice 0 = .ok (.iload_n 1, 1) := by decide +kernel
theorem dX9_choice_1 : decode cX9_choice 1 = .ok (.ifCond .eq 13, 3) := by decide +kernel
theorem dX9_choice_4 : decode cX9_choice 4 = .ok (.aload_n 0, 1) := by decide +kernel
theorem dX9_choice_5 : decode cX9_choice 5 = .ok (.getfield 63, 3) := by decide +kernel
theorem dX9_choice_8 : decode cX9_choice 8 = .ok (.invokevirtual 306, 3) := by decide +kernel
theorem dX9_choice_11 : decode cX9_choice 11 = .ok (.goto 10, 3) := by decide +kernel
theorem dX9_choice_14 : decode cX9_choice 14 = .ok (.aload_n 0, 1) := by decide +kernel
theorem dX9_choice_15 : decode cX9_choice 15 = .ok (.getfield 63, 3) := by decide +kernel
theorem dX9_choice_18 : decode cX9_choice 18 = .ok (.invokevirtual 309, 3) := by decide +kernel
theorem dX9_choice_21 : decode cX9_choice 21 = .ok (.ireturn, 1) := by decide +kernel
theorem dX9_take_0 : decode cX9_take 0 = .ok (.aload_n 0, 1) := by decide +kernel
theorem dX9_take_1 : decode cX9_take 1 = .ok (.getfield 63, 3) := by decide +kernel
theorem dX9_take_4 : decode cX9_take 4 = .ok (.iload_n 1, 1) := by decide +kernel
theorem dX9_take_5 : decode cX9_take 5 = .ok (.ifCond .eq 13, 3) := by decide +kernel
theorem dX9_take_8 : decode cX9_take 8 = .ok (.aload_n 0, 1) := by decide +kernel
theorem dX9_take_9 : decode cX9_take 9 = .ok (.getfield 63, 3) := by decide +kernel
theorem dX9_take_12 : decode cX9_take 12 = .ok (.invokevirtual 306, 3) := by decide +kernel
theorem dX9_take_15 : decode cX9_take 15 = .ok (.goto 10, 3) := by decide +kernel
theorem dX9_take_18 : decode cX9_take 18 = .ok (.aload_n 0, 1) := by decide +kernel
theorem dX9_take_19 : decode cX9_take 19 = .ok (.getfield 63, 3) := by decide +kernel
theorem dX9_take_22 : decode cX9_take 22 = .ok (.invokevirtual 309, 3) := by decide +kernel
theorem dX9_take_25 : decode cX9_take 25 = .ok (.putfield 201, 3) := by decide +kernel
theorem dX9_take_28 : decode cX9_take 28 = .ok (.aload_n 0, 1) := by decide +kernel
theorem dX9_take_29 : decode cX9_take 29 = .ok (.getfield 63, 3) := by decide +kernel
theorem dX9_take_32 : decode cX9_take 32 = .ok (.aload_n 0, 1) := by decide +kernel
theorem dX9_take_33 : decode cX9_take 33 = .ok (.getfield 63, 3) := by decide +kernel
theorem dX9_take_36 : decode cX9_take 36 = .ok (.getfield 201, 3) := by decide +kernel
theorem dX9_take_39 : decode cX9_take 39 = .ok (.invokevirtual 285, 3) := by decide +kernel
theorem dX9_take_42 : decode cX9_take 42 = .ok (.ireturn, 1) := by decide +kernel
theorem dX9_rank_0 : decode cX9_rank 0 = .ok (.iload_n 1, 1) := by decide +kernel
theorem dX9_rank_1 : decode cX9_rank 1 = .ok (.ifCond .lt 14, 3) := by decide +kernel
theorem dX9_rank_4 : decode cX9_rank 4 = .ok (.iload_n 1, 1) := by decide +kernel
theorem dX9_rank_5 : decode cX9_rank 5 = .ok (.aload_n 0, 1) := by decide +kernel
theorem dX9_rank_6 : decode cX9_rank 6 = .ok (.getfield 19, 3) := by decide +kernel
theorem dX9_rank_9 : decode cX9_rank 9 = .ok (.getfield 97, 3) := by decide +kernel
theorem dX9_rank_12 : decode cX9_rank 12 = .ok (.if_icmp .lt 7, 3) := by decide +kernel
theorem dX9_rank_15 : decode cX9_rank 15 = .ok (.iconst (-1), 1) := by decide +kernel
theorem dX9_rank_16 : decode cX9_rank 16 = .ok (.goto 11, 3) := by decide +kernel
theorem dX9_rank_19 : decode cX9_rank 19 = .ok (.aload_n 0, 1) := by decide +kernel
theorem dX9_rank_20 : decode cX9_rank 20 = .ok (.getfield 63, 3) := by decide +kernel
theorem dX9_rank_23 : decode cX9_rank 23 = .ok (.iload_n 1, 1) := by decide +kernel
theorem dX9_rank_24 : decode cX9_rank 24 = .ok (.invokevirtual 339, 3) := by decide +kernel
theorem dX9_rank_27 : decode cX9_rank 27 = .ok (.ireturn, 1) := by decide +kernel
theorem dX9_octet_0 : decode cX9_octet 0 = .ok (.iload_n 1, 1) := by decide +kernel
theorem dX9_octet_1 : decode cX9_octet 1 = .ok (.ifCond .lt 14, 3) := by decide +kernel
theorem dX9_octet_4 : decode cX9_octet 4 = .ok (.iload_n 1, 1) := by decide +kernel
theorem dX9_octet_5 : decode cX9_octet 5 = .ok (.aload_n 0, 1) := by decide +kernel
theorem dX9_octet_6 : decode cX9_octet 6 = .ok (.getfield 72, 3) := by decide +kernel
theorem dX9_octet_9 : decode cX9_octet 9 = .ok (.getfield 351, 3) := by decide +kernel
theorem dX9_octet_12 : decode cX9_octet 12 = .ok (.if_icmp .lt 7, 3) := by decide +kernel
theorem dX9_octet_15 : decode cX9_octet 15 = .ok (.iconst (-1), 1) := by decide +kernel
theorem dX9_octet_16 : decode cX9_octet 16 = .ok (.goto 12, 3) := by decide +kernel
theorem dX9_octet_19 : decode cX9_octet 19 = .ok (.aload_n 0, 1) := by decide +kernel
theorem dX9_octet_20 : decode cX9_octet 20 = .ok (.getfield 72, 3) := by decide +kernel
theorem dX9_octet_23 : decode cX9_octet 23 = .ok (.getfield 355, 3) := by decide +kernel
theorem dX9_octet_26 : decode cX9_octet 26 = .ok (.iload_n 1, 1) := by decide +kernel
theorem dX9_octet_27 : decode cX9_octet 27 = .ok (.iaload, 1) := by decide +kernel
theorem dX9_octet_28 : decode cX9_octet 28 = .ok (.ireturn, 1) := by decide +kernel
theorem dX9_marks_0 : decode cX9_marks 0 = .ok (.iload_n 1, 1) := by decide +kernel
theorem dX9_marks_1 : decode cX9_marks 1 = .ok (.ifCond .eq 13, 3) := by decide +kernel
theorem dX9_marks_4 : decode cX9_marks 4 = .ok (.aload_n 0, 1) := by decide +kernel
theorem dX9_marks_5 : decode cX9_marks 5 = .ok (.getfield 72, 3) := by decide +kernel
theorem dX9_marks_8 : decode cX9_marks 8 = .ok (.getfield 358, 3) := by decide +kernel
theorem dX9_marks_11 : decode cX9_marks 11 = .ok (.goto 10, 3) := by decide +kernel
theorem dX9_marks_14 : decode cX9_marks 14 = .ok (.aload_n 0, 1) := by decide +kernel
theorem dX9_marks_15 : decode cX9_marks 15 = .ok (.getfield 72, 3) := by decide +kernel
theorem dX9_marks_18 : decode cX9_marks 18 = .ok (.getfield 361, 3) := by decide +kernel
theorem dX9_marks_21 : decode cX9_marks 21 = .ok (.ireturn, 1) := by decide +kernel
theorem dX9_allSentences_0 : decode cX9_allSentences 0 = .ok (.iconst 1, 1) := by decide +kernel
theorem dX9_allSentences_1 : decode cX9_allSentences 1 = .ok (.aload_n 0, 1) := by decide +kernel
theorem dX9_allSentences_2 : decode cX9_allSentences 2 = .ok (.getfield 19, 3) := by decide +kernel
theorem dX9_allSentences_5 : decode cX9_allSentences 5 = .ok (.getfield 97, 3) := by decide +kernel
theorem dX9_allSentences_8 : decode cX9_allSentences 8 = .ok (.ishl, 1) := by decide +kernel
theorem dX9_allSentences_9 : decode cX9_allSentences 9 = .ok (.iconst 1, 1) := by decide +kernel
theorem dX9_allSentences_10 : decode cX9_allSentences 10 = .ok (.isub, 1) := by decide +kernel
theorem dX9_allSentences_11 : decode cX9_allSentences 11 = .ok (.ireturn, 1) := by decide +kernel
theorem dX9_count_0 : decode cX9_count 0 = .ok (.iload_n 1, 1) := by decide +kernel
theorem dX9_count_1 : decode cX9_count 1 = .ok (.tableswitch 213 0 14 #[75, 83, 91, 99, 107, 115, 123, 131, 139, 147, 155, 163, 175, 183, 191], 75) := by decide +kernel
theorem dX9_count_76 : decode cX9_count 76 = .ok (.aload_n 0, 1) := by decide +kernel
theorem dX9_count_77 : decode cX9_count 77 = .ok (.getfield 19, 3) := by decide +kernel
theorem dX9_count_80 : decode cX9_count 80 = .ok (.getfield 142, 3) := by decide +kernel
theorem dX9_count_83 : decode cX9_count 83 = .ok (.ireturn, 1) := by decide +kernel
theorem dX9_count_84 : decode cX9_count 84 = .ok (.aload_n 0, 1) := by decide +kernel
theorem dX9_count_85 : decode cX9_count 85 = .ok (.getfield 19, 3) := by decide +kernel
theorem dX9_count_88 : decode cX9_count 88 = .ok (.getfield 364, 3) := by decide +kernel
theorem dX9_count_91 : decode cX9_count 91 = .ok (.ireturn, 1) := by decide +kernel
theorem dX9_count_92 : decode cX9_count 92 = .ok (.aload_n 0, 1) := by decide +kernel
theorem dX9_count_93 : decode cX9_count 93 = .ok (.getfield 19, 3) := by decide +kernel
theorem dX9_count_96 : decode cX9_count 96 = .ok (.getfield 147, 3) := by decide +kernel
theorem dX9_count_99 : decode cX9_count 99 = .ok (.ireturn, 1) := by decide +kernel
theorem dX9_count_100 : decode cX9_count 100 = .ok (.aload_n 0, 1) := by decide +kernel
theorem dX9_count_101 : decode cX9_count 101 = .ok (.getfield 19, 3) := by decide +kernel
theorem dX9_count_104 : decode cX9_count 104 = .ok (.getfield 97, 3) := by decide +kernel
theorem dX9_count_107 : decode cX9_count 107 = .ok (.ireturn, 1) := by decide +kernel
theorem dX9_count_108 : decode cX9_count 108 = .ok (.aload_n 0, 1) := by decide +kernel
theorem dX9_count_109 : decode cX9_count 109 = .ok (.getfield 26, 3) := by decide +kernel
theorem dX9_count_112 : decode cX9_count 112 = .ok (.getfield 115, 3) := by decide +kernel
theorem dX9_count_115 : decode cX9_count 115 = .ok (.ireturn, 1) := by decide +kernel
theorem dX9_count_116 : decode cX9_count 116 = .ok (.aload_n 0, 1) := by decide +kernel
theorem dX9_count_117 : decode cX9_count 117 = .ok (.getfield 47, 3) := by decide +kernel
theorem dX9_count_120 : decode cX9_count 120 = .ok (.getfield 242, 3) := by decide +kernel
theorem dX9_count_123 : decode cX9_count 123 = .ok (.ireturn, 1) := by decide +kernel
theorem dX9_count_124 : decode cX9_count 124 = .ok (.aload_n 0, 1) := by decide +kernel
theorem dX9_count_125 : decode cX9_count 125 = .ok (.getfield 63, 3) := by decide +kernel
theorem dX9_count_128 : decode cX9_count 128 = .ok (.getfield 130, 3) := by decide +kernel
theorem dX9_count_131 : decode cX9_count 131 = .ok (.ireturn, 1) := by decide +kernel
theorem dX9_count_132 : decode cX9_count 132 = .ok (.aload_n 0, 1) := by decide +kernel
theorem dX9_count_133 : decode cX9_count 133 = .ok (.getfield 63, 3) := by decide +kernel
theorem dX9_count_136 : decode cX9_count 136 = .ok (.getfield 133, 3) := by decide +kernel
theorem dX9_count_139 : decode cX9_count 139 = .ok (.ireturn, 1) := by decide +kernel
theorem dX9_count_140 : decode cX9_count 140 = .ok (.aload_n 0, 1) := by decide +kernel
theorem dX9_count_141 : decode cX9_count 141 = .ok (.getfield 63, 3) := by decide +kernel
theorem dX9_count_144 : decode cX9_count 144 = .ok (.getfield 136, 3) := by decide +kernel
theorem dX9_count_147 : decode cX9_count 147 = .ok (.ireturn, 1) := by decide +kernel
theorem dX9_count_148 : decode cX9_count 148 = .ok (.aload_n 0, 1) := by decide +kernel
theorem dX9_count_149 : decode cX9_count 149 = .ok (.getfield 63, 3) := by decide +kernel
theorem dX9_count_152 : decode cX9_count 152 = .ok (.getfield 201, 3) := by decide +kernel
theorem dX9_count_155 : decode cX9_count 155 = .ok (.ireturn, 1) := by decide +kernel
theorem dX9_count_156 : decode cX9_count 156 = .ok (.aload_n 0, 1) := by decide +kernel
theorem dX9_count_157 : decode cX9_count 157 = .ok (.getfield 19, 3) := by decide +kernel
theorem dX9_count_160 : decode cX9_count 160 = .ok (.invokevirtual 367, 3) := by decide +kernel
theorem dX9_count_163 : decode cX9_count 163 = .ok (.ireturn, 1) := by decide +kernel
theorem dX9_count_164 : decode cX9_count 164 = .ok (.aload_n 0, 1) := by decide +kernel
theorem dX9_count_165 : decode cX9_count 165 = .ok (.getfield 63, 3) := by decide +kernel
theorem dX9_count_168 : decode cX9_count 168 = .ok (.aload_n 0, 1) := by decide +kernel
theorem dX9_count_169 : decode cX9_count 169 = .ok (.invokevirtual 224, 3) := by decide +kernel
theorem dX9_count_172 : decode cX9_count 172 = .ok (.invokevirtual 285, 3) := by decide +kernel
theorem dX9_count_175 : decode cX9_count 175 = .ok (.ireturn, 1) := by decide +kernel
theorem dX9_count_176 : decode cX9_count 176 = .ok (.aload_n 0, 1) := by decide +kernel
theorem dX9_count_177 : decode cX9_count 177 = .ok (.getfield 72, 3) := by decide +kernel
theorem dX9_count_180 : decode cX9_count 180 = .ok (.getfield 351, 3) := by decide +kernel
theorem dX9_count_183 : decode cX9_count 183 = .ok (.ireturn, 1) := by decide +kernel
theorem dX9_count_184 : decode cX9_count 184 = .ok (.aload_n 0, 1) := by decide +kernel
theorem dX9_count_185 : decode cX9_count 185 = .ok (.getfield 63, 3) := by decide +kernel
theorem dX9_count_188 : decode cX9_count 188 = .ok (.invokevirtual 370, 3) := by decide +kernel
theorem dX9_count_191 : decode cX9_count 191 = .ok (.ireturn, 1) := by decide +kernel
theorem dX9_count_192 : decode cX9_count 192 = .ok (.aload_n 0, 1) := by decide +kernel
theorem dX9_count_193 : decode cX9_count 193 = .ok (.getfield 63, 3) := by decide +kernel
theorem dX9_count_196 : decode cX9_count 196 = .ok (.aload_n 0, 1) := by decide +kernel
theorem dX9_count_197 : decode cX9_count 197 = .ok (.getfield 63, 3) := by decide +kernel
theorem dX9_count_200 : decode cX9_count 200 = .ok (.invokevirtual 309, 3) := by decide +kernel
theorem dX9_count_203 : decode cX9_count 203 = .ok (.aload_n 0, 1) := by decide +kernel
theorem dX9_count_204 : decode cX9_count 204 = .ok (.getfield 63, 3) := by decide +kernel
theorem dX9_count_207 : decode cX9_count 207 = .ok (.invokevirtual 306, 3) := by decide +kernel
theorem dX9_count_210 : decode cX9_count 210 = .ok (.invokevirtual 373, 3) := by decide +kernel
theorem dX9_count_213 : decode cX9_count 213 = .ok (.ireturn, 1) := by decide +kernel
theorem dX9_count_214 : decode cX9_count 214 = .ok (.iconst (-1), 1) := by decide +kernel
theorem dX9_count_215 : decode cX9_count 215 = .ok (.ireturn, 1) := by decide +kernel
