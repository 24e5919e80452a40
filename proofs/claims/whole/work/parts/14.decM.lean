theorem dX10_thrown_0 : decode cX10_thrown 0 = .ok (.aload_n 0, 1) := by decide +kernel
theorem dX10_thrown_1 : decode cX10_thrown 1 = .ok (.getfield 142, 3) := by decide +kernel
theorem dX10_thrown_4 : decode cX10_thrown 4 = .ok (.ireturn, 1) := by decide +kernel
theorem dX10_throwsIf_0 : decode cX10_throwsIf 0 = .ok (.iload_n 1, 1) := by decide +kernel
theorem dX10_throwsIf_1 : decode cX10_throwsIf 1 = .ok (.ifCond .eq 8, 3) := by decide +kernel
theorem dX10_throwsIf_4 : decode cX10_throwsIf 4 = .ok (.aload_n 0, 1) := by decide +kernel
theorem dX10_throwsIf_5 : decode cX10_throwsIf 5 = .ok (.iload_n 2, 1) := by decide +kernel
theorem dX10_throwsIf_6 : decode cX10_throwsIf 6 = .ok (.putfield 142, 3) := by decide +kernel
theorem dX10_throwsIf_9 : decode cX10_throwsIf 9 = .ok (.iload_n 1, 1) := by decide +kernel
theorem dX10_throwsIf_10 : decode cX10_throwsIf 10 = .ok (.ireturn, 1) := by decide +kernel
theorem dX10_in_0 : decode cX10_in 0 = .ok (.iload_n 0, 1) := by decide +kernel
theorem dX10_in_1 : decode cX10_in 1 = .ok (.iload_n 1, 1) := by decide +kernel
theorem dX10_in_2 : decode cX10_in 2 = .ok (.if_icmp .lt 12, 3) := by decide +kernel
theorem dX10_in_5 : decode cX10_in 5 = .ok (.iload_n 0, 1) := by decide +kernel
theorem dX10_in_6 : decode cX10_in 6 = .ok (.iload_n 2, 1) := by decide +kernel
theorem dX10_in_7 : decode cX10_in 7 = .ok (.if_icmp .gt 7, 3) := by decide +kernel
theorem dX10_in_10 : decode cX10_in 10 = .ok (.iconst 1, 1) := by decide +kernel
theorem dX10_in_11 : decode cX10_in 11 = .ok (.goto 4, 3) := by decide +kernel
theorem dX10_in_14 : decode cX10_in 14 = .ok (.iconst 0, 1) := by decide +kernel
theorem dX10_in_15 : decode cX10_in 15 = .ok (.ireturn, 1) := by decide +kernel
theorem dX10_holds_0 : decode cX10_holds 0 = .ok (.iload_n 0, 1) := by decide +kernel
theorem dX10_holds_1 : decode cX10_holds 1 = .ok (.iload_n 1, 1) := by decide +kernel
theorem dX10_holds_2 : decode cX10_holds 2 = .ok (.ishr, 1) := by decide +kernel
theorem dX10_holds_3 : decode cX10_holds 3 = .ok (.iconst 1, 1) := by decide +kernel
theorem dX10_holds_4 : decode cX10_holds 4 = .ok (.iand, 1) := by decide +kernel
theorem dX10_holds_5 : decode cX10_holds 5 = .ok (.iconst 1, 1) := by decide +kernel
theorem dX10_holds_6 : decode cX10_holds 6 = .ok (.if_icmp .ne 7, 3) := by decide +kernel
theorem dX10_holds_9 : decode cX10_holds 9 = .ok (.iconst 1, 1) := by decide +kernel
theorem dX10_holds_10 : decode cX10_holds 10 = .ok (.goto 4, 3) := by decide +kernel
theorem dX10_holds_13 : decode cX10_holds 13 = .ok (.iconst 0, 1) := by decide +kernel
theorem dX10_holds_14 : decode cX10_holds 14 = .ok (.ireturn, 1) := by decide +kernel
theorem dX10_bits_0 : decode cX10_bits 0 = .ok (.iconst 0, 1) := by decide +kernel
theorem dX10_bits_1 : decode cX10_bits 1 = .ok (.istore_n 1, 1) := by decide +kernel
theorem dX10_bits_2 : decode cX10_bits 2 = .ok (.iload_n 0, 1) := by decide +kernel
theorem dX10_bits_3 : decode cX10_bits 3 = .ok (.istore_n 2, 1) := by decide +kernel
theorem dX10_bits_4 : decode cX10_bits 4 = .ok (.iload_n 2, 1) := by decide +kernel
theorem dX10_bits_5 : decode cX10_bits 5 = .ok (.ifCond .eq 15, 3) := by decide +kernel
theorem dX10_bits_8 : decode cX10_bits 8 = .ok (.iinc 1 1, 3) := by decide +kernel
theorem dX10_bits_11 : decode cX10_bits 11 = .ok (.iload_n 2, 1) := by decide +kernel
theorem dX10_bits_12 : decode cX10_bits 12 = .ok (.iload_n 2, 1) := by decide +kernel
theorem dX10_bits_13 : decode cX10_bits 13 = .ok (.iconst 1, 1) := by decide +kernel
theorem dX10_bits_14 : decode cX10_bits 14 = .ok (.isub, 1) := by decide +kernel
theorem dX10_bits_15 : decode cX10_bits 15 = .ok (.iand, 1) := by decide +kernel
theorem dX10_bits_16 : decode cX10_bits 16 = .ok (.istore_n 2, 1) := by decide +kernel
theorem dX10_bits_17 : decode cX10_bits 17 = .ok (.goto (-13), 3) := by decide +kernel
theorem dX10_bits_20 : decode cX10_bits 20 = .ok (.iload_n 1, 1) := by decide +kernel
theorem dX10_bits_21 : decode cX10_bits 21 = .ok (.ireturn, 1) := by decide +kernel
theorem dX10_feed_0 : decode cX10_feed 0 = .ok (.aload_n 0, 1) := by decide +kernel
theorem dX10_feed_1 : decode cX10_feed 1 = .ok (.iconst 0, 1) := by decide +kernel
theorem dX10_feed_2 : decode cX10_feed 2 = .ok (.putfield 142, 3) := by decide +kernel
theorem dX10_feed_5 : decode cX10_feed 5 = .ok (.aload_n 0, 1) := by decide +kernel
theorem dX10_feed_6 : decode cX10_feed 6 = .ok (.getfield 145, 3) := by decide +kernel
theorem dX10_feed_9 : decode cX10_feed 9 = .ok (.bipush 20, 2) := by decide +kernel
theorem dX10_feed_11 : decode cX10_feed 11 = .ok (.iadd, 1) := by decide +kernel
theorem dX10_feed_12 : decode cX10_feed 12 = .ok (.sipush 600, 3) := by decide +kernel
theorem dX10_feed_15 : decode cX10_feed 15 = .ok (.if_icmp .le 5, 3) := by decide +kernel
theorem dX10_feed_18 : decode cX10_feed 18 = .ok (.iconst (-1), 1) := by decide +kernel
theorem dX10_feed_19 : decode cX10_feed 19 = .ok (.ireturn, 1) := by decide +kernel
theorem dX10_feed_20 : decode cX10_feed 20 = .ok (.aload_n 0, 1) := by decide +kernel
theorem dX10_feed_21 : decode cX10_feed 21 = .ok (.getfield 13, 3) := by decide +kernel
theorem dX10_feed_24 : decode cX10_feed 24 = .ok (.iconst 0, 1) := by decide +kernel
theorem dX10_feed_25 : decode cX10_feed 25 = .ok (.iload_n 1, 1) := by decide +kernel
theorem dX10_feed_26 : decode cX10_feed 26 = .ok (.iastore, 1) := by decide +kernel
theorem dX10_feed_27 : decode cX10_feed 27 = .ok (.aload_n 0, 1) := by decide +kernel
theorem dX10_feed_28 : decode cX10_feed 28 = .ok (.getfield 13, 3) := by decide +kernel
theorem dX10_feed_31 : decode cX10_feed 31 = .ok (.iconst 1, 1) := by decide +kernel
theorem dX10_feed_32 : decode cX10_feed 32 = .ok (.iload_n 2, 1) := by decide +kernel
theorem dX10_feed_33 : decode cX10_feed 33 = .ok (.iastore, 1) := by decide +kernel
theorem dX10_feed_34 : decode cX10_feed 34 = .ok (.aload_n 0, 1) := by decide +kernel
theorem dX10_feed_35 : decode cX10_feed 35 = .ok (.getfield 13, 3) := by decide +kernel
theorem dX10_feed_38 : decode cX10_feed 38 = .ok (.iconst 2, 1) := by decide +kernel
theorem dX10_feed_39 : decode cX10_feed 39 = .ok (.iload_n 3, 1) := by decide +kernel
theorem dX10_feed_40 : decode cX10_feed 40 = .ok (.iastore, 1) := by decide +kernel
theorem dX10_feed_41 : decode cX10_feed 41 = .ok (.aload_n 0, 1) := by decide +kernel
theorem dX10_feed_42 : decode cX10_feed 42 = .ok (.getfield 13, 3) := by decide +kernel
theorem dX10_feed_45 : decode cX10_feed 45 = .ok (.iconst 3, 1) := by decide +kernel
theorem dX10_feed_46 : decode cX10_feed 46 = .ok (.iload 4, 2) := by decide +kernel
theorem dX10_feed_48 : decode cX10_feed 48 = .ok (.iastore, 1) := by decide +kernel
theorem dX10_feed_49 : decode cX10_feed 49 = .ok (.aload_n 0, 1) := by decide +kernel
theorem dX10_feed_50 : decode cX10_feed 50 = .ok (.getfield 13, 3) := by decide +kernel
theorem dX10_feed_53 : decode cX10_feed 53 = .ok (.iconst 4, 1) := by decide +kernel
theorem dX10_feed_54 : decode cX10_feed 54 = .ok (.iload 5, 2) := by decide +kernel
theorem dX10_feed_56 : decode cX10_feed 56 = .ok (.iastore, 1) := by decide +kernel
theorem dX10_feed_57 : decode cX10_feed 57 = .ok (.iconst 0, 1) := by decide +kernel
theorem dX10_feed_58 : decode cX10_feed 58 = .ok (.istore 6, 2) := by decide +kernel
theorem dX10_feed_60 : decode cX10_feed 60 = .ok (.iload 6, 2) := by decide +kernel
theorem dX10_feed_62 : decode cX10_feed 62 = .ok (.bipush 20, 2) := by decide +kernel
theorem dX10_feed_64 : decode cX10_feed 64 = .ok (.if_icmp .ge 42, 3) := by decide +kernel
theorem dX10_feed_67 : decode cX10_feed 67 = .ok (.aload_n 0, 1) := by decide +kernel
theorem dX10_feed_68 : decode cX10_feed 68 = .ok (.getfield 9, 3) := by decide +kernel
theorem dX10_feed_71 : decode cX10_feed 71 = .ok (.aload_n 0, 1) := by decide +kernel
theorem dX10_feed_72 : decode cX10_feed 72 = .ok (.getfield 145, 3) := by decide +kernel
theorem dX10_feed_75 : decode cX10_feed 75 = .ok (.iload 6, 2) := by decide +kernel
theorem dX10_feed_77 : decode cX10_feed 77 = .ok (.iadd, 1) := by decide +kernel
theorem dX10_feed_78 : decode cX10_feed 78 = .ok (.aload_n 0, 1) := by decide +kernel
theorem dX10_feed_79 : decode cX10_feed 79 = .ok (.getfield 13, 3) := by decide +kernel
theorem dX10_feed_82 : decode cX10_feed 82 = .ok (.iload 6, 2) := by decide +kernel
theorem dX10_feed_84 : decode cX10_feed 84 = .ok (.iconst 4, 1) := by decide +kernel
theorem dX10_feed_85 : decode cX10_feed 85 = .ok (.idiv, 1) := by decide +kernel
theorem dX10_feed_86 : decode cX10_feed 86 = .ok (.iaload, 1) := by decide +kernel
theorem dX10_feed_87 : decode cX10_feed 87 = .ok (.bipush 24, 2) := by decide +kernel
theorem dX10_feed_89 : decode cX10_feed 89 = .ok (.bipush 8, 2) := by decide +kernel
theorem dX10_feed_91 : decode cX10_feed 91 = .ok (.iload 6, 2) := by decide +kernel
theorem dX10_feed_93 : decode cX10_feed 93 = .ok (.iconst 4, 1) := by decide +kernel
theorem dX10_feed_94 : decode cX10_feed 94 = .ok (.irem, 1) := by decide +kernel
theorem dX10_feed_95 : decode cX10_feed 95 = .ok (.imul, 1) := by decide +kernel
theorem dX10_feed_96 : decode cX10_feed 96 = .ok (.isub, 1) := by decide +kernel
theorem dX10_feed_97 : decode cX10_feed 97 = .ok (.ishr, 1) := by decide +kernel
theorem dX10_feed_98 : decode cX10_feed 98 = .ok (.i2b, 1) := by decide +kernel
theorem dX10_feed_99 : decode cX10_feed 99 = .ok (.bastore, 1) := by decide +kernel
theorem dX10_feed_100 : decode cX10_feed 100 = .ok (.iinc 6 1, 3) := by decide +kernel
theorem dX10_feed_103 : decode cX10_feed 103 = .ok (.goto (-43), 3) := by decide +kernel
theorem dX10_feed_106 : decode cX10_feed 106 = .ok (.aload_n 0, 1) := by decide +kernel
theorem dX10_feed_107 : decode cX10_feed 107 = .ok (.dup, 1) := by decide +kernel
theorem dX10_feed_108 : decode cX10_feed 108 = .ok (.getfield 145, 3) := by decide +kernel
theorem dX10_feed_111 : decode cX10_feed 111 = .ok (.bipush 20, 2) := by decide +kernel
theorem dX10_feed_113 : decode cX10_feed 113 = .ok (.iadd, 1) := by decide +kernel
theorem dX10_feed_114 : decode cX10_feed 114 = .ok (.putfield 145, 3) := by decide +kernel
theorem dX10_feed_117 : decode cX10_feed 117 = .ok (.aload_n 0, 1) := by decide +kernel
theorem dX10_feed_118 : decode cX10_feed 118 = .ok (.getfield 145, 3) := by decide +kernel
theorem dX10_feed_121 : decode cX10_feed 121 = .ok (.ireturn, 1) := by decide +kernel
theorem dX10_end_0 : decode cX10_end 0 = .ok (.aload_n 0, 1) := by decide +kernel
theorem dX10_end_1 : decode cX10_end 1 = .ok (.iconst 0, 1) := by decide +kernel
theorem dX10_end_2 : decode cX10_end 2 = .ok (.putfield 142, 3) := by decide +kernel
theorem dX10_end_5 : decode cX10_end 5 = .ok (.iload_n 1, 1) := by decide +kernel
theorem dX10_end_6 : decode cX10_end 6 = .ok (.ifCond .lt 11, 3) := by decide +kernel
theorem dX10_end_9 : decode cX10_end 9 = .ok (.iload_n 1, 1) := by decide +kernel
theorem dX10_end_10 : decode cX10_end 10 = .ok (.aload_n 0, 1) := by decide +kernel
theorem dX10_end_11 : decode cX10_end 11 = .ok (.getfield 145, 3) := by decide +kernel
theorem dX10_end_14 : decode cX10_end 14 = .ok (.if_icmp .le 5, 3) := by decide +kernel
theorem dX10_end_17 : decode cX10_end 17 = .ok (.iconst 0, 1) := by decide +kernel
theorem dX10_end_18 : decode cX10_end 18 = .ok (.ireturn, 1) := by decide +kernel
theorem dX10_end_19 : decode cX10_end 19 = .ok (.aload_n 0, 1) := by decide +kernel
theorem dX10_end_20 : decode cX10_end 20 = .ok (.iload_n 1, 1) := by decide +kernel
theorem dX10_end_21 : decode cX10_end 21 = .ok (.putfield 145, 3) := by decide +kernel
theorem dX10_end_24 : decode cX10_end 24 = .ok (.iconst 1, 1) := by decide +kernel
theorem dX10_end_25 : decode cX10_end 25 = .ok (.ireturn, 1) := by decide +kernel
theorem dX10_isPair_0 : decode cX10_isPair 0 = .ok (.iload_n 1, 1) := by decide +kernel
theorem dX10_isPair_1 : decode cX10_isPair 1 = .ok (.iconst 1, 1) := by decide +kernel
theorem dX10_isPair_2 : decode cX10_isPair 2 = .ok (.iadd, 1) := by decide +kernel
theorem dX10_isPair_3 : decode cX10_isPair 3 = .ok (.aload_n 0, 1) := by decide +kernel
theorem dX10_isPair_4 : decode cX10_isPair 4 = .ok (.getfield 148, 3) := by decide +kernel
theorem dX10_isPair_7 : decode cX10_isPair 7 = .ok (.if_icmp .ge 39, 3) := by decide +kernel
theorem dX10_isPair_10 : decode cX10_isPair 10 = .ok (.aload_n 0, 1) := by decide +kernel
theorem dX10_isPair_11 : decode cX10_isPair 11 = .ok (.getfield 17, 3) := by decide +kernel
theorem dX10_isPair_14 : decode cX10_isPair 14 = .ok (.iload_n 1, 1) := by decide +kernel
theorem dX10_isPair_15 : decode cX10_isPair 15 = .ok (.iaload, 1) := by decide +kernel
theorem dX10_isPair_16 : decode cX10_isPair 16 = .ok (.sipush 192, 3) := by decide +kernel
theorem dX10_isPair_19 : decode cX10_isPair 19 = .ok (.if_icmp .lt 27, 3) := by decide +kernel
theorem dX10_isPair_22 : decode cX10_isPair 22 = .ok (.aload_n 0, 1) := by decide +kernel
theorem dX10_isPair_23 : decode cX10_isPair 23 = .ok (.getfield 17, 3) := by decide +kernel
theorem dX10_isPair_26 : decode cX10_isPair 26 = .ok (.iload_n 1, 1) := by decide +kernel
theorem dX10_isPair_27 : decode cX10_isPair 27 = .ok (.iconst 1, 1) := by decide +kernel
theorem dX10_isPair_28 : decode cX10_isPair 28 = .ok (.iadd, 1) := by decide +kernel
theorem dX10_isPair_29 : decode cX10_isPair 29 = .ok (.iaload, 1) := by decide +kernel
theorem dX10_isPair_30 : decode cX10_isPair 30 = .ok (.sipush 128, 3) := by decide +kernel
theorem dX10_isPair_33 : decode cX10_isPair 33 = .ok (.sipush 191, 3) := by decide +kernel
theorem dX10_isPair_36 : decode cX10_isPair 36 = .ok (.invokestatic 151, 3) := by decide +kernel
theorem dX10_isPair_39 : decode cX10_isPair 39 = .ok (.ifCond .eq 7, 3) := by decide +kernel
theorem dX10_isPair_42 : decode cX10_isPair 42 = .ok (.iconst 1, 1) := by decide +kernel
theorem dX10_isPair_43 : decode cX10_isPair 43 = .ok (.goto 4, 3) := by decide +kernel
theorem dX10_isPair_46 : decode cX10_isPair 46 = .ok (.iconst 0, 1) := by decide +kernel
theorem dX10_isPair_47 : decode cX10_isPair 47 = .ok (.ireturn, 1) := by decide +kernel
theorem dX10_laysSigns_0 : decode cX10_laysSigns 0 = .ok (.aload_n 0, 1) := by decide +kernel
theorem dX10_laysSigns_1 : decode cX10_laysSigns 1 = .ok (.iconst 0, 1) := by decide +kernel
theorem dX10_laysSigns_2 : decode cX10_laysSigns 2 = .ok (.putfield 155, 3) := by decide +kernel
theorem dX10_laysSigns_5 : decode cX10_laysSigns 5 = .ok (.iconst 0, 1) := by decide +kernel
theorem dX10_laysSigns_6 : decode cX10_laysSigns 6 = .ok (.istore_n 1, 1) := by decide +kernel
theorem dX10_laysSigns_7 : decode cX10_laysSigns 7 = .ok (.iload_n 1, 1) := by decide +kernel
theorem dX10_laysSigns_8 : decode cX10_laysSigns 8 = .ok (.aload_n 0, 1) := by decide +kernel
theorem dX10_laysSigns_9 : decode cX10_laysSigns 9 = .ok (.getfield 148, 3) := by decide +kernel
theorem dX10_laysSigns_12 : decode cX10_laysSigns 12 = .ok (.if_icmp .ge 42, 3) := by decide +kernel
theorem dX10_laysSigns_15 : decode cX10_laysSigns 15 = .ok (.aload_n 0, 1) := by decide +kernel
theorem dX10_laysSigns_16 : decode cX10_laysSigns 16 = .ok (.getfield 20, 3) := by decide +kernel
theorem dX10_laysSigns_19 : decode cX10_laysSigns 19 = .ok (.aload_n 0, 1) := by decide +kernel
theorem dX10_laysSigns_20 : decode cX10_laysSigns 20 = .ok (.getfield 155, 3) := by decide +kernel
theorem dX10_laysSigns_23 : decode cX10_laysSigns 23 = .ok (.iload_n 1, 1) := by decide +kernel
theorem dX10_laysSigns_24 : decode cX10_laysSigns 24 = .ok (.iastore, 1) := by decide +kernel
theorem dX10_laysSigns_25 : decode cX10_laysSigns 25 = .ok (.aload_n 0, 1) := by decide +kernel
theorem dX10_laysSigns_26 : decode cX10_laysSigns 26 = .ok (.dup, 1) := by decide +kernel
theorem dX10_laysSigns_27 : decode cX10_laysSigns 27 = .ok (.getfield 155, 3) := by decide +kernel
theorem dX10_laysSigns_30 : decode cX10_laysSigns 30 = .ok (.iconst 1, 1) := by decide +kernel
theorem dX10_laysSigns_31 : decode cX10_laysSigns 31 = .ok (.iadd, 1) := by decide +kernel
theorem dX10_laysSigns_32 : decode cX10_laysSigns 32 = .ok (.putfield 155, 3) := by decide +kernel
theorem dX10_laysSigns_35 : decode cX10_laysSigns 35 = .ok (.iload_n 1, 1) := by decide +kernel
theorem dX10_laysSigns_36 : decode cX10_laysSigns 36 = .ok (.aload_n 0, 1) := by decide +kernel
theorem dX10_laysSigns_37 : decode cX10_laysSigns 37 = .ok (.iload_n 1, 1) := by decide +kernel
theorem dX10_laysSigns_38 : decode cX10_laysSigns 38 = .ok (.invokevirtual 158, 3) := by decide +kernel
theorem dX10_laysSigns_41 : decode cX10_laysSigns 41 = .ok (.ifCond .eq 7, 3) := by decide +kernel
theorem dX10_laysSigns_44 : decode cX10_laysSigns 44 = .ok (.iconst 2, 1) := by decide +kernel
theorem dX10_laysSigns_45 : decode cX10_laysSigns 45 = .ok (.goto 4, 3) := by decide +kernel
theorem dX10_laysSigns_48 : decode cX10_laysSigns 48 = .ok (.iconst 1, 1) := by decide +kernel
theorem dX10_laysSigns_49 : decode cX10_laysSigns 49 = .ok (.iadd, 1) := by decide +kernel
theorem dX10_laysSigns_50 : decode cX10_laysSigns 50 = .ok (.istore_n 1, 1) := by decide +kernel
theorem dX10_laysSigns_51 : decode cX10_laysSigns 51 = .ok (.goto (-44), 3) := by decide +kernel
theorem dX10_laysSigns_54 : decode cX10_laysSigns 54 = .ok (.aload_n 0, 1) := by decide +kernel
theorem dX10_laysSigns_55 : decode cX10_laysSigns 55 = .ok (.getfield 20, 3) := by decide +kernel
theorem dX10_laysSigns_58 : decode cX10_laysSigns 58 = .ok (.aload_n 0, 1) := by decide +kernel
theorem dX10_laysSigns_59 : decode cX10_laysSigns 59 = .ok (.getfield 155, 3) := by decide +kernel
theorem dX10_laysSigns_62 : decode cX10_laysSigns 62 = .ok (.aload_n 0, 1) := by decide +kernel
theorem dX10_laysSigns_63 : decode cX10_laysSigns 63 = .ok (.getfield 148, 3) := by decide +kernel
theorem dX10_laysSigns_66 : decode cX10_laysSigns 66 = .ok (.iastore, 1) := by decide +kernel
theorem dX10_laysSigns_67 : decode cX10_laysSigns 67 = .ok (.return_, 1) := by decide +kernel
theorem dX10_signBytes_0 : decode cX10_signBytes 0 = .ok (.aload_n 0, 1) := by decide +kernel
theorem dX10_signBytes_1 : decode cX10_signBytes 1 = .ok (.getfield 20, 3) := by decide +kernel
theorem dX10_signBytes_4 : decode cX10_signBytes 4 = .ok (.iload_n 1, 1) := by decide +kernel
theorem dX10_signBytes_5 : decode cX10_signBytes 5 = .ok (.iconst 1, 1) := by decide +kernel
theorem dX10_signBytes_6 : decode cX10_signBytes 6 = .ok (.iadd, 1) := by decide +kernel
theorem dX10_signBytes_7 : decode cX10_signBytes 7 = .ok (.iaload, 1) := by decide +kernel
theorem dX10_signBytes_8 : decode cX10_signBytes 8 = .ok (.aload_n 0, 1) := by decide +kernel
theorem dX10_signBytes_9 : decode cX10_signBytes 9 = .ok (.getfield 20, 3) := by decide +kernel
theorem dX10_signBytes_12 : decode cX10_signBytes 12 = .ok (.iload_n 1, 1) := by decide +kernel
theorem dX10_signBytes_13 : decode cX10_signBytes 13 = .ok (.iaload, 1) := by decide +kernel
theorem dX10_signBytes_14 : decode cX10_signBytes 14 = .ok (.isub, 1) := by decide +kernel
theorem dX10_signBytes_15 : decode cX10_signBytes 15 = .ok (.ireturn, 1) := by decide +kernel
theorem dX10_plain_0 : decode cX10_plain 0 = .ok (.iload_n 1, 1) := by decide +kernel
theorem dX10_plain_1 : decode cX10_plain 1 = .ok (.iconst 0, 1) := by decide +kernel
theorem dX10_plain_2 : decode cX10_plain 2 = .ok (.aload_n 0, 1) := by decide +kernel
theorem dX10_plain_3 : decode cX10_plain 3 = .ok (.getfield 155, 3) := by decide +kernel
theorem dX10_plain_6 : decode cX10_plain 6 = .ok (.iconst 1, 1) := by decide +kernel
theorem dX10_plain_7 : decode cX10_plain 7 = .ok (.isub, 1) := by decide +kernel
theorem dX10_plain_8 : decode cX10_plain 8 = .ok (.invokestatic 151, 3) := by decide +kernel
theorem dX10_plain_11 : decode cX10_plain 11 = .ok (.ifCond .eq 26, 3) := by decide +kernel
theorem dX10_plain_14 : decode cX10_plain 14 = .ok (.aload_n 0, 1) := by decide +kernel
theorem dX10_plain_15 : decode cX10_plain 15 = .ok (.iload_n 1, 1) := by decide +kernel
theorem dX10_plain_16 : decode cX10_plain 16 = .ok (.invokevirtual 162, 3) := by decide +kernel
theorem dX10_plain_19 : decode cX10_plain 19 = .ok (.iconst 1, 1) := by decide +kernel
theorem dX10_plain_20 : decode cX10_plain 20 = .ok (.if_icmp .ne 17, 3) := by decide +kernel
theorem dX10_plain_23 : decode cX10_plain 23 = .ok (.aload_n 0, 1) := by decide +kernel
theorem dX10_plain_24 : decode cX10_plain 24 = .ok (.getfield 17, 3) := by decide +kernel
theorem dX10_plain_27 : decode cX10_plain 27 = .ok (.aload_n 0, 1) := by decide +kernel
theorem dX10_plain_28 : decode cX10_plain 28 = .ok (.getfield 20, 3) := by decide +kernel
theorem dX10_plain_31 : decode cX10_plain 31 = .ok (.iload_n 1, 1) := by decide +kernel
theorem dX10_plain_32 : decode cX10_plain 32 = .ok (.iaload, 1) := by decide +kernel
theorem dX10_plain_33 : decode cX10_plain 33 = .ok (.iaload, 1) := by decide +kernel
theorem dX10_plain_34 : decode cX10_plain 34 = .ok (.goto 4, 3) := by decide +kernel
theorem dX10_plain_37 : decode cX10_plain 37 = .ok (.iconst (-1), 1) := by decide +kernel
theorem dX10_plain_38 : decode cX10_plain 38 = .ok (.ireturn, 1) := by decide +kernel
theorem dX10_isBlank_0 : decode cX10_isBlank 0 = .ok (.aload_n 0, 1) := by decide +kernel
theorem dX10_isBlank_1 : decode cX10_isBlank 1 = .ok (.iload_n 1, 1) := by decide +kernel
theorem dX10_isBlank_2 : decode cX10_isBlank 2 = .ok (.invokevirtual 166, 3) := by decide +kernel
theorem dX10_isBlank_5 : decode cX10_isBlank 5 = .ok (.istore_n 2, 1) := by decide +kernel
theorem dX10_isBlank_6 : decode cX10_isBlank 6 = .ok (.iload_n 2, 1) := by decide +kernel
theorem dX10_isBlank_7 : decode cX10_isBlank 7 = .ok (.bipush 9, 2) := by decide +kernel
theorem dX10_isBlank_9 : decode cX10_isBlank 9 = .ok (.if_icmp .eq 15, 3) := by decide +kernel
theorem dX10_isBlank_12 : decode cX10_isBlank 12 = .ok (.iload_n 2, 1) := by decide +kernel
theorem dX10_isBlank_13 : decode cX10_isBlank 13 = .ok (.bipush 10, 2) := by decide +kernel
theorem dX10_isBlank_15 : decode cX10_isBlank 15 = .ok (.if_icmp .eq 9, 3) := by decide +kernel
theorem dX10_isBlank_18 : decode cX10_isBlank 18 = .ok (.iload_n 2, 1) := by decide +kernel
theorem dX10_isBlank_19 : decode cX10_isBlank 19 = .ok (.bipush 32, 2) := by decide +kernel
theorem dX10_isBlank_21 : decode cX10_isBlank 21 = .ok (.if_icmp .ne 7, 3) := by decide +kernel
theorem dX10_isBlank_24 : decode cX10_isBlank 24 = .ok (.iconst 1, 1) := by decide +kernel
theorem dX10_isBlank_25 : decode cX10_isBlank 25 = .ok (.goto 4, 3) := by decide +kernel
theorem dX10_isBlank_28 : decode cX10_isBlank 28 = .ok (.iconst 0, 1) := by decide +kernel
theorem dX10_isBlank_29 : decode cX10_isBlank 29 = .ok (.ireturn, 1) := by decide +kernel
theorem dX10_isSmall_0 : decode cX10_isSmall 0 = .ok (.iload_n 0, 1) := by decide +kernel
theorem dX10_isSmall_1 : decode cX10_isSmall 1 = .ok (.bipush 97, 2) := by decide +kernel
theorem dX10_isSmall_3 : decode cX10_isSmall 3 = .ok (.if_icmp .lt 13, 3) := by decide +kernel
theorem dX10_isSmall_6 : decode cX10_isSmall 6 = .ok (.iload_n 0, 1) := by decide +kernel
theorem dX10_isSmall_7 : decode cX10_isSmall 7 = .ok (.bipush 122, 2) := by decide +kernel
theorem dX10_isSmall_9 : decode cX10_isSmall 9 = .ok (.if_icmp .gt 7, 3) := by decide +kernel
theorem dX10_isSmall_12 : decode cX10_isSmall 12 = .ok (.iconst 1, 1) := by decide +kernel
theorem dX10_isSmall_13 : decode cX10_isSmall 13 = .ok (.goto 4, 3) := by decide +kernel
theorem dX10_isSmall_16 : decode cX10_isSmall 16 = .ok (.iconst 0, 1) := by decide +kernel
theorem dX10_isSmall_17 : decode cX10_isSmall 17 = .ok (.ireturn, 1) := by decide +kernel
theorem dX10_small_0 : decode cX10_small 0 = .ok (.iload_n 0, 1) := by decide +kernel
theorem dX10_small_1 : decode cX10_small 1 = .ok (.bipush 65, 2) := by decide +kernel
theorem dX10_small_3 : decode cX10_small 3 = .ok (.if_icmp .lt 16, 3) := by decide +kernel
theorem dX10_small_6 : decode cX10_small 6 = .ok (.iload_n 0, 1) := by decide +kernel
theorem dX10_small_7 : decode cX10_small 7 = .ok (.bipush 90, 2) := by decide +kernel
theorem dX10_small_9 : decode cX10_small 9 = .ok (.if_icmp .gt 10, 3) := by decide +kernel
theorem dX10_small_12 : decode cX10_small 12 = .ok (.iload_n 0, 1) := by decide +kernel
theorem dX10_small_13 : decode cX10_small 13 = .ok (.bipush 32, 2) := by decide +kernel
theorem dX10_small_15 : decode cX10_small 15 = .ok (.iadd, 1) := by decide +kernel
theorem dX10_small_16 : decode cX10_small 16 = .ok (.goto 4, 3) := by decide +kernel
theorem dX10_small_19 : decode cX10_small 19 = .ok (.iload_n 0, 1) := by decide +kernel
theorem dX10_small_20 : decode cX10_small 20 = .ok (.ireturn, 1) := by decide +kernel
theorem dX10_isLetter_0 : decode cX10_isLetter 0 = .ok (.iload_n 1, 1) := by decide +kernel
theorem dX10_isLetter_1 : decode cX10_isLetter 1 = .ok (.iconst 0, 1) := by decide +kernel
theorem dX10_isLetter_2 : decode cX10_isLetter 2 = .ok (.aload_n 0, 1) := by decide +kernel
theorem dX10_isLetter_3 : decode cX10_isLetter 3 = .ok (.getfield 155, 3) := by decide +kernel
theorem dX10_isLetter_6 : decode cX10_isLetter 6 = .ok (.iconst 1, 1) := by decide +kernel
theorem dX10_isLetter_7 : decode cX10_isLetter 7 = .ok (.isub, 1) := by decide +kernel
theorem dX10_isLetter_8 : decode cX10_isLetter 8 = .ok (.invokestatic 151, 3) := by decide +kernel
theorem dX10_isLetter_11 : decode cX10_isLetter 11 = .ok (.ifCond .eq 30, 3) := by decide +kernel
theorem dX10_isLetter_14 : decode cX10_isLetter 14 = .ok (.aload_n 0, 1) := by decide +kernel
theorem dX10_isLetter_15 : decode cX10_isLetter 15 = .ok (.iload_n 1, 1) := by decide +kernel
theorem dX10_isLetter_16 : decode cX10_isLetter 16 = .ok (.invokevirtual 162, 3) := by decide +kernel
theorem dX10_isLetter_19 : decode cX10_isLetter 19 = .ok (.iconst 2, 1) := by decide +kernel
theorem dX10_isLetter_20 : decode cX10_isLetter 20 = .ok (.if_icmp .eq 17, 3) := by decide +kernel
theorem dX10_isLetter_23 : decode cX10_isLetter 23 = .ok (.aload_n 0, 1) := by decide +kernel
theorem dX10_isLetter_24 : decode cX10_isLetter 24 = .ok (.iload_n 1, 1) := by decide +kernel
theorem dX10_isLetter_25 : decode cX10_isLetter 25 = .ok (.invokevirtual 166, 3) := by decide +kernel
theorem dX10_isLetter_28 : decode cX10_isLetter 28 = .ok (.invokestatic 169, 3) := by decide +kernel
theorem dX10_isLetter_31 : decode cX10_isLetter 31 = .ok (.invokestatic 172, 3) := by decide +kernel
theorem dX10_isLetter_34 : decode cX10_isLetter 34 = .ok (.ifCond .eq 7, 3) := by decide +kernel
theorem dX10_isLetter_37 : decode cX10_isLetter 37 = .ok (.iconst 1, 1) := by decide +kernel
theorem dX10_isLetter_38 : decode cX10_isLetter 38 = .ok (.goto 4, 3) := by decide +kernel
theorem dX10_isLetter_41 : decode cX10_isLetter 41 = .ok (.iconst 0, 1) := by decide +kernel
theorem dX10_isLetter_42 : decode cX10_isLetter 42 = .ok (.ireturn, 1) := by decide +kernel
theorem dX10_areAlike_0 : decode cX10_areAlike 0 = .ok (.aload_n 0, 1) := by decide +kernel
theorem dX10_areAlike_1 : decode cX10_areAlike 1 = .ok (.iload_n 1, 1) := by decide +kernel
theorem dX10_areAlike_2 : decode cX10_areAlike 2 = .ok (.invokevirtual 162, 3) := by decide +kernel
theorem dX10_areAlike_5 : decode cX10_areAlike 5 = .ok (.aload_n 0, 1) := by decide +kernel
theorem dX10_areAlike_6 : decode cX10_areAlike 6 = .ok (.iload_n 2, 1) := by decide +kernel
theorem dX10_areAlike_7 : decode cX10_areAlike 7 = .ok (.invokevirtual 162, 3) := by decide +kernel
theorem dX10_areAlike_10 : decode cX10_areAlike 10 = .ok (.if_icmp .eq 5, 3) := by decide +kernel
theorem dX10_areAlike_13 : decode cX10_areAlike 13 = .ok (.iconst 0, 1) := by decide +kernel
theorem dX10_areAlike_14 : decode cX10_areAlike 14 = .ok (.ireturn, 1) := by decide +kernel
theorem dX10_areAlike_15 : decode cX10_areAlike 15 = .ok (.aload_n 0, 1) := by decide +kernel
theorem dX10_areAlike_16 : decode cX10_areAlike 16 = .ok (.iload_n 1, 1) := by decide +kernel
theorem dX10_areAlike_17 : decode cX10_areAlike 17 = .ok (.invokevirtual 162, 3) := by decide +kernel
theorem dX10_areAlike_20 : decode cX10_areAlike 20 = .ok (.iconst 1, 1) := by decide +kernel
theorem dX10_areAlike_21 : decode cX10_areAlike 21 = .ok (.if_icmp .ne 28, 3) := by decide +kernel
theorem dX10_areAlike_24 : decode cX10_areAlike 24 = .ok (.aload_n 0, 1) := by decide +kernel
theorem dX10_areAlike_25 : decode cX10_areAlike 25 = .ok (.iload_n 1, 1) := by decide +kernel
theorem dX10_areAlike_26 : decode cX10_areAlike 26 = .ok (.invokevirtual 166, 3) := by decide +kernel
theorem dX10_areAlike_29 : decode cX10_areAlike 29 = .ok (.invokestatic 169, 3) := by decide +kernel
theorem dX10_areAlike_32 : decode cX10_areAlike 32 = .ok (.aload_n 0, 1) := by decide +kernel
theorem dX10_areAlike_33 : decode cX10_areAlike 33 = .ok (.iload_n 2, 1) := by decide +kernel
theorem dX10_areAlike_34 : decode cX10_areAlike 34 = .ok (.invokevirtual 166, 3) := by decide +kernel
theorem dX10_areAlike_37 : decode cX10_areAlike 37 = .ok (.invokestatic 169, 3) := by decide +kernel
theorem dX10_areAlike_40 : decode cX10_areAlike 40 = .ok (.if_icmp .ne 7, 3) := by decide +kernel
theorem dX10_areAlike_43 : decode cX10_areAlike 43 = .ok (.iconst 1, 1) := by decide +kernel
theorem dX10_areAlike_44 : decode cX10_areAlike 44 = .ok (.goto 4, 3) := by decide +kernel
theorem dX10_areAlike_47 : decode cX10_areAlike 47 = .ok (.iconst 0, 1) := by decide +kernel
theorem dX10_areAlike_48 : decode cX10_areAlike 48 = .ok (.ireturn, 1) := by decide +kernel
theorem dX10_areAlike_49 : decode cX10_areAlike 49 = .ok (.aload_n 0, 1) := by decide +kernel
theorem dX10_areAlike_50 : decode cX10_areAlike 50 = .ok (.getfield 17, 3) := by decide +kernel
theorem dX10_areAlike_53 : decode cX10_areAlike 53 = .ok (.aload_n 0, 1) := by decide +kernel
theorem dX10_areAlike_54 : decode cX10_areAlike 54 = .ok (.getfield 20, 3) := by decide +kernel
theorem dX10_areAlike_57 : decode cX10_areAlike 57 = .ok (.iload_n 1, 1) := by decide +kernel
theorem dX10_areAlike_58 : decode cX10_areAlike 58 = .ok (.iaload, 1) := by decide +kernel
theorem dX10_areAlike_59 : decode cX10_areAlike 59 = .ok (.iaload, 1) := by decide +kernel
theorem dX10_areAlike_60 : decode cX10_areAlike 60 = .ok (.aload_n 0, 1) := by decide +kernel
theorem dX10_areAlike_61 : decode cX10_areAlike 61 = .ok (.getfield 17, 3) := by decide +kernel
theorem dX10_areAlike_64 : decode cX10_areAlike 64 = .ok (.aload_n 0, 1) := by decide +kernel
theorem dX10_areAlike_65 : decode cX10_areAlike 65 = .ok (.getfield 20, 3) := by decide +kernel
theorem dX10_areAlike_68 : decode cX10_areAlike 68 = .ok (.iload_n 2, 1) := by decide +kernel
theorem dX10_areAlike_69 : decode cX10_areAlike 69 = .ok (.iaload, 1) := by decide +kernel
theorem dX10_areAlike_70 : decode cX10_areAlike 70 = .ok (.iaload, 1) := by decide +kernel
theorem dX10_areAlike_71 : decode cX10_areAlike 71 = .ok (.if_icmp .ne 36, 3) := by decide +kernel
theorem dX10_areAlike_74 : decode cX10_areAlike 74 = .ok (.aload_n 0, 1) := by decide +kernel
theorem dX10_areAlike_75 : decode cX10_areAlike 75 = .ok (.getfield 17, 3) := by decide +kernel
theorem dX10_areAlike_78 : decode cX10_areAlike 78 = .ok (.aload_n 0, 1) := by decide +kernel
theorem dX10_areAlike_79 : decode cX10_areAlike 79 = .ok (.getfield 20, 3) := by decide +kernel
theorem dX10_areAlike_82 : decode cX10_areAlike 82 = .ok (.iload_n 1, 1) := by decide +kernel
theorem dX10_areAlike_83 : decode cX10_areAlike 83 = .ok (.iaload, 1) := by decide +kernel
theorem dX10_areAlike_84 : decode cX10_areAlike 84 = .ok (.iconst 1, 1) := by decide +kernel
theorem dX10_areAlike_85 : decode cX10_areAlike 85 = .ok (.iadd, 1) := by decide +kernel
theorem dX10_areAlike_86 : decode cX10_areAlike 86 = .ok (.iaload, 1) := by decide +kernel
theorem dX10_areAlike_87 : decode cX10_areAlike 87 = .ok (.aload_n 0, 1) := by decide +kernel
theorem dX10_areAlike_88 : decode cX10_areAlike 88 = .ok (.getfield 17, 3) := by decide +kernel
theorem dX10_areAlike_91 : decode cX10_areAlike 91 = .ok (.aload_n 0, 1) := by decide +kernel
theorem dX10_areAlike_92 : decode cX10_areAlike 92 = .ok (.getfield 20, 3) := by decide +kernel
theorem dX10_areAlike_95 : decode cX10_areAlike 95 = .ok (.iload_n 2, 1) := by decide +kernel
theorem dX10_areAlike_96 : decode cX10_areAlike 96 = .ok (.iaload, 1) := by decide +kernel
theorem dX10_areAlike_97 : decode cX10_areAlike 97 = .ok (.iconst 1, 1) := by decide +kernel
theorem dX10_areAlike_98 : decode cX10_areAlike 98 = .ok (.iadd, 1) := by decide +kernel
theorem dX10_areAlike_99 : decode cX10_areAlike 99 = .ok (.iaload, 1) := by decide +kernel
theorem dX10_areAlike_100 : decode cX10_areAlike 100 = .ok (.if_icmp .ne 7, 3) := by decide +kernel
theorem dX10_areAlike_103 : decode cX10_areAlike 103 = .ok (.iconst 1, 1) := by decide +kernel
theorem dX10_areAlike_104 : decode cX10_areAlike 104 = .ok (.goto 4, 3) := by decide +kernel
theorem dX10_areAlike_107 : decode cX10_areAlike 107 = .ok (.iconst 0, 1) := by decide +kernel
theorem dX10_areAlike_108 : decode cX10_areAlike 108 = .ok (.ireturn, 1) := by decide +kernel
theorem dX10_areAlikeWords_0 : decode cX10_areAlikeWords 0 = .ok (.aload_n 0, 1) := by decide +kernel
theorem dX10_areAlikeWords_1 : decode cX10_areAlikeWords 1 = .ok (.getfield 26, 3) := by decide +kernel
theorem dX10_areAlikeWords_4 : decode cX10_areAlikeWords 4 = .ok (.iload_n 1, 1) := by decide +kernel
theorem dX10_areAlikeWords_5 : decode cX10_areAlikeWords 5 = .ok (.iaload, 1) := by decide +kernel
theorem dX10_areAlikeWords_6 : decode cX10_areAlikeWords 6 = .ok (.aload_n 0, 1) := by decide +kernel
theorem dX10_areAlikeWords_7 : decode cX10_areAlikeWords 7 = .ok (.getfield 23, 3) := by decide +kernel
theorem dX10_areAlikeWords_10 : decode cX10_areAlikeWords 10 = .ok (.iload_n 1, 1) := by decide +kernel
theorem dX10_areAlikeWords_11 : decode cX10_areAlikeWords 11 = .ok (.iaload, 1) := by decide +kernel
theorem dX10_areAlikeWords_12 : decode cX10_areAlikeWords 12 = .ok (.isub, 1) := by decide +kernel
theorem dX10_areAlikeWords_13 : decode cX10_areAlikeWords 13 = .ok (.aload_n 0, 1) := by decide +kernel
theorem dX10_areAlikeWords_14 : decode cX10_areAlikeWords 14 = .ok (.getfield 26, 3) := by decide +kernel
theorem dX10_areAlikeWords_17 : decode cX10_areAlikeWords 17 = .ok (.iload_n 2, 1) := by decide +kernel
theorem dX10_areAlikeWords_18 : decode cX10_areAlikeWords 18 = .ok (.iaload, 1) := by decide +kernel
theorem dX10_areAlikeWords_19 : decode cX10_areAlikeWords 19 = .ok (.aload_n 0, 1) := by decide +kernel
theorem dX10_areAlikeWords_20 : decode cX10_areAlikeWords 20 = .ok (.getfield 23, 3) := by decide +kernel
theorem dX10_areAlikeWords_23 : decode cX10_areAlikeWords 23 = .ok (.iload_n 2, 1) := by decide +kernel
theorem dX10_areAlikeWords_24 : decode cX10_areAlikeWords 24 = .ok (.iaload, 1) := by decide +kernel
theorem dX10_areAlikeWords_25 : decode cX10_areAlikeWords 25 = .ok (.isub, 1) := by decide +kernel
theorem dX10_areAlikeWords_26 : decode cX10_areAlikeWords 26 = .ok (.if_icmp .ne 7, 3) := by decide +kernel
theorem dX10_areAlikeWords_29 : decode cX10_areAlikeWords 29 = .ok (.iconst 1, 1) := by decide +kernel
theorem dX10_areAlikeWords_30 : decode cX10_areAlikeWords 30 = .ok (.goto 4, 3) := by decide +kernel
theorem dX10_areAlikeWords_33 : decode cX10_areAlikeWords 33 = .ok (.iconst 0, 1) := by decide +kernel
theorem dX10_areAlikeWords_34 : decode cX10_areAlikeWords 34 = .ok (.istore_n 3, 1) := by decide +kernel
theorem dX10_areAlikeWords_35 : decode cX10_areAlikeWords 35 = .ok (.iconst 0, 1) := by decide +kernel
theorem dX10_areAlikeWords_36 : decode cX10_areAlikeWords 36 = .ok (.istore 4, 2) := by decide +kernel
theorem dX10_areAlikeWords_38 : decode cX10_areAlikeWords 38 = .ok (.iload_n 3, 1) := by decide +kernel
theorem dX10_areAlikeWords_39 : decode cX10_areAlikeWords 39 = .ok (.ifCond .eq 50, 3) := by decide +kernel
theorem dX10_areAlikeWords_42 : decode cX10_areAlikeWords 42 = .ok (.iload 4, 2) := by decide +kernel
theorem dX10_areAlikeWords_44 : decode cX10_areAlikeWords 44 = .ok (.aload_n 0, 1) := by decide +kernel
theorem dX10_areAlikeWords_45 : decode cX10_areAlikeWords 45 = .ok (.getfield 26, 3) := by decide +kernel
theorem dX10_areAlikeWords_48 : decode cX10_areAlikeWords 48 = .ok (.iload_n 1, 1) := by decide +kernel
theorem dX10_areAlikeWords_49 : decode cX10_areAlikeWords 49 = .ok (.iaload, 1) := by decide +kernel
theorem dX10_areAlikeWords_50 : decode cX10_areAlikeWords 50 = .ok (.aload_n 0, 1) := by decide +kernel
theorem dX10_areAlikeWords_51 : decode cX10_areAlikeWords 51 = .ok (.getfield 23, 3) := by decide +kernel
theorem dX10_areAlikeWords_54 : decode cX10_areAlikeWords 54 = .ok (.iload_n 1, 1) := by decide +kernel
theorem dX10_areAlikeWords_55 : decode cX10_areAlikeWords 55 = .ok (.iaload, 1) := by decide +kernel
theorem dX10_areAlikeWords_56 : decode cX10_areAlikeWords 56 = .ok (.isub, 1) := by decide +kernel
theorem dX10_areAlikeWords_57 : decode cX10_areAlikeWords 57 = .ok (.if_icmp .ge 32, 3) := by decide +kernel
theorem dX10_areAlikeWords_60 : decode cX10_areAlikeWords 60 = .ok (.aload_n 0, 1) := by decide +kernel
theorem dX10_areAlikeWords_61 : decode cX10_areAlikeWords 61 = .ok (.aload_n 0, 1) := by decide +kernel
theorem dX10_areAlikeWords_62 : decode cX10_areAlikeWords 62 = .ok (.getfield 23, 3) := by decide +kernel
theorem dX10_areAlikeWords_65 : decode cX10_areAlikeWords 65 = .ok (.iload_n 1, 1) := by decide +kernel
theorem dX10_areAlikeWords_66 : decode cX10_areAlikeWords 66 = .ok (.iaload, 1) := by decide +kernel
theorem dX10_areAlikeWords_67 : decode cX10_areAlikeWords 67 = .ok (.iload 4, 2) := by decide +kernel
theorem dX10_areAlikeWords_69 : decode cX10_areAlikeWords 69 = .ok (.iadd, 1) := by decide +kernel
theorem dX10_areAlikeWords_70 : decode cX10_areAlikeWords 70 = .ok (.aload_n 0, 1) := by decide +kernel
theorem dX10_areAlikeWords_71 : decode cX10_areAlikeWords 71 = .ok (.getfield 23, 3) := by decide +kernel
theorem dX10_areAlikeWords_74 : decode cX10_areAlikeWords 74 = .ok (.iload_n 2, 1) := by decide +kernel
theorem dX10_areAlikeWords_75 : decode cX10_areAlikeWords 75 = .ok (.iaload, 1) := by decide +kernel
theorem dX10_areAlikeWords_76 : decode cX10_areAlikeWords 76 = .ok (.iload 4, 2) := by decide +kernel
theorem dX10_areAlikeWords_78 : decode cX10_areAlikeWords 78 = .ok (.iadd, 1) := by decide +kernel
theorem dX10_areAlikeWords_79 : decode cX10_areAlikeWords 79 = .ok (.invokevirtual 175, 3) := by decide +kernel
theorem dX10_areAlikeWords_82 : decode cX10_areAlikeWords 82 = .ok (.istore_n 3, 1) := by decide +kernel
theorem dX10_areAlikeWords_83 : decode cX10_areAlikeWords 83 = .ok (.iinc 4 1, 3) := by decide +kernel
theorem dX10_areAlikeWords_86 : decode cX10_areAlikeWords 86 = .ok (.goto (-48), 3) := by decide +kernel
theorem dX10_areAlikeWords_89 : decode cX10_areAlikeWords 89 = .ok (.iload_n 3, 1) := by decide +kernel
theorem dX10_areAlikeWords_90 : decode cX10_areAlikeWords 90 = .ok (.ireturn, 1) := by decide +kernel
theorem dX10_laysWords_0 : decode cX10_laysWords 0 = .ok (.aload_n 0, 1) := by decide +kernel
theorem dX10_laysWords_1 : decode cX10_laysWords 1 = .ok (.iconst 0, 1) := by decide +kernel
theorem dX10_laysWords_2 : decode cX10_laysWords 2 = .ok (.putfield 179, 3) := by decide +kernel
theorem dX10_laysWords_5 : decode cX10_laysWords 5 = .ok (.iconst 0, 1) := by decide +kernel
theorem dX10_laysWords_6 : decode cX10_laysWords 6 = .ok (.istore_n 1, 1) := by decide +kernel
theorem dX10_laysWords_7 : decode cX10_laysWords 7 = .ok (.iload_n 1, 1) := by decide +kernel
theorem dX10_laysWords_8 : decode cX10_laysWords 8 = .ok (.aload_n 0, 1) := by decide +kernel
theorem dX10_laysWords_9 : decode cX10_laysWords 9 = .ok (.getfield 155, 3) := by decide +kernel
theorem dX10_laysWords_12 : decode cX10_laysWords 12 = .ok (.if_icmp .ge 73, 3) := by decide +kernel
theorem dX10_laysWords_15 : decode cX10_laysWords 15 = .ok (.aload_n 0, 1) := by decide +kernel
theorem dX10_laysWords_16 : decode cX10_laysWords 16 = .ok (.getfield 179, 3) := by decide +kernel
theorem dX10_laysWords_19 : decode cX10_laysWords 19 = .ok (.bipush 100, 2) := by decide +kernel
theorem dX10_laysWords_21 : decode cX10_laysWords 21 = .ok (.if_icmp .ge 64, 3) := by decide +kernel
theorem dX10_laysWords_24 : decode cX10_laysWords 24 = .ok (.aload_n 0, 1) := by decide +kernel
theorem dX10_laysWords_25 : decode cX10_laysWords 25 = .ok (.iload_n 1, 1) := by decide +kernel
theorem dX10_laysWords_26 : decode cX10_laysWords 26 = .ok (.invokevirtual 182, 3) := by decide +kernel
theorem dX10_laysWords_29 : decode cX10_laysWords 29 = .ok (.ifCond .ne 9, 3) := by decide +kernel
theorem dX10_laysWords_32 : decode cX10_laysWords 32 = .ok (.iinc 1 1, 3) := by decide +kernel
theorem dX10_laysWords_35 : decode cX10_laysWords 35 = .ok (.goto (-28), 3) := by decide +kernel
theorem dX10_laysWords_38 : decode cX10_laysWords 38 = .ok (.aload_n 0, 1) := by decide +kernel
theorem dX10_laysWords_39 : decode cX10_laysWords 39 = .ok (.getfield 23, 3) := by decide +kernel
theorem dX10_laysWords_42 : decode cX10_laysWords 42 = .ok (.aload_n 0, 1) := by decide +kernel
theorem dX10_laysWords_43 : decode cX10_laysWords 43 = .ok (.getfield 179, 3) := by decide +kernel
theorem dX10_laysWords_46 : decode cX10_laysWords 46 = .ok (.iload_n 1, 1) := by decide +kernel
theorem dX10_laysWords_47 : decode cX10_laysWords 47 = .ok (.iastore, 1) := by decide +kernel
theorem dX10_laysWords_48 : decode cX10_laysWords 48 = .ok (.aload_n 0, 1) := by decide +kernel
theorem dX10_laysWords_49 : decode cX10_laysWords 49 = .ok (.iload_n 1, 1) := by decide +kernel
theorem dX10_laysWords_50 : decode cX10_laysWords 50 = .ok (.invokevirtual 182, 3) := by decide +kernel
theorem dX10_laysWords_53 : decode cX10_laysWords 53 = .ok (.ifCond .eq 9, 3) := by decide +kernel
theorem dX10_laysWords_56 : decode cX10_laysWords 56 = .ok (.iinc 1 1, 3) := by decide +kernel
theorem dX10_laysWords_59 : decode cX10_laysWords 59 = .ok (.goto (-11), 3) := by decide +kernel
theorem dX10_laysWords_62 : decode cX10_laysWords 62 = .ok (.aload_n 0, 1) := by decide +kernel
theorem dX10_laysWords_63 : decode cX10_laysWords 63 = .ok (.getfield 26, 3) := by decide +kernel
theorem dX10_laysWords_66 : decode cX10_laysWords 66 = .ok (.aload_n 0, 1) := by decide +kernel
theorem dX10_laysWords_67 : decode cX10_laysWords 67 = .ok (.getfield 179, 3) := by decide +kernel
theorem dX10_laysWords_70 : decode cX10_laysWords 70 = .ok (.iload_n 1, 1) := by decide +kernel
theorem dX10_laysWords_71 : decode cX10_laysWords 71 = .ok (.iastore, 1) := by decide +kernel
theorem dX10_laysWords_72 : decode cX10_laysWords 72 = .ok (.aload_n 0, 1) := by decide +kernel
theorem dX10_laysWords_73 : decode cX10_laysWords 73 = .ok (.dup, 1) := by decide +kernel
theorem dX10_laysWords_74 : decode cX10_laysWords 74 = .ok (.getfield 179, 3) := by decide +kernel
theorem dX10_laysWords_77 : decode cX10_laysWords 77 = .ok (.iconst 1, 1) := by decide +kernel
theorem dX10_laysWords_78 : decode cX10_laysWords 78 = .ok (.iadd, 1) := by decide +kernel
theorem dX10_laysWords_79 : decode cX10_laysWords 79 = .ok (.putfield 179, 3) := by decide +kernel
theorem dX10_laysWords_82 : decode cX10_laysWords 82 = .ok (.goto (-75), 3) := by decide +kernel
theorem dX10_laysWords_85 : decode cX10_laysWords 85 = .ok (.iconst 0, 1) := by decide +kernel
theorem dX10_laysWords_86 : decode cX10_laysWords 86 = .ok (.istore_n 2, 1) := by decide +kernel
theorem dX10_laysWords_87 : decode cX10_laysWords 87 = .ok (.iload_n 2, 1) := by decide +kernel
theorem dX10_laysWords_88 : decode cX10_laysWords 88 = .ok (.aload_n 0, 1) := by decide +kernel
theorem dX10_laysWords_89 : decode cX10_laysWords 89 = .ok (.getfield 179, 3) := by decide +kernel
theorem dX10_laysWords_92 : decode cX10_laysWords 92 = .ok (.if_icmp .ge 43, 3) := by decide +kernel
theorem dX10_laysWords_95 : decode cX10_laysWords 95 = .ok (.aload_n 0, 1) := by decide +kernel
theorem dX10_laysWords_96 : decode cX10_laysWords 96 = .ok (.getfield 32, 3) := by decide +kernel
theorem dX10_laysWords_99 : decode cX10_laysWords 99 = .ok (.iload_n 2, 1) := by decide +kernel
theorem dX10_laysWords_100 : decode cX10_laysWords 100 = .ok (.iconst 0, 1) := by decide +kernel
theorem dX10_laysWords_101 : decode cX10_laysWords 101 = .ok (.iastore, 1) := by decide +kernel
theorem dX10_laysWords_102 : decode cX10_laysWords 102 = .ok (.aload_n 0, 1) := by decide +kernel
theorem dX10_laysWords_103 : decode cX10_laysWords 103 = .ok (.aload_n 0, 1) := by decide +kernel
theorem dX10_laysWords_104 : decode cX10_laysWords 104 = .ok (.getfield 32, 3) := by decide +kernel
theorem dX10_laysWords_107 : decode cX10_laysWords 107 = .ok (.iload_n 2, 1) := by decide +kernel
theorem dX10_laysWords_108 : decode cX10_laysWords 108 = .ok (.iaload, 1) := by decide +kernel
theorem dX10_laysWords_109 : decode cX10_laysWords 109 = .ok (.iload_n 2, 1) := by decide +kernel
theorem dX10_laysWords_110 : decode cX10_laysWords 110 = .ok (.invokevirtual 185, 3) := by decide +kernel
theorem dX10_laysWords_113 : decode cX10_laysWords 113 = .ok (.ifCond .ne 16, 3) := by decide +kernel
theorem dX10_laysWords_116 : decode cX10_laysWords 116 = .ok (.aload_n 0, 1) := by decide +kernel
theorem dX10_laysWords_117 : decode cX10_laysWords 117 = .ok (.getfield 32, 3) := by decide +kernel
theorem dX10_laysWords_120 : decode cX10_laysWords 120 = .ok (.iload_n 2, 1) := by decide +kernel
theorem dX10_laysWords_121 : decode cX10_laysWords 121 = .ok (.dup2, 1) := by decide +kernel
theorem dX10_laysWords_122 : decode cX10_laysWords 122 = .ok (.iaload, 1) := by decide +kernel
theorem dX10_laysWords_123 : decode cX10_laysWords 123 = .ok (.iconst 1, 1) := by decide +kernel
theorem dX10_laysWords_124 : decode cX10_laysWords 124 = .ok (.iadd, 1) := by decide +kernel
theorem dX10_laysWords_125 : decode cX10_laysWords 125 = .ok (.iastore, 1) := by decide +kernel
theorem dX10_laysWords_126 : decode cX10_laysWords 126 = .ok (.goto (-24), 3) := by decide +kernel
theorem dX10_laysWords_129 : decode cX10_laysWords 129 = .ok (.iinc 2 1, 3) := by decide +kernel
theorem dX10_laysWords_132 : decode cX10_laysWords 132 = .ok (.goto (-45), 3) := by decide +kernel
theorem dX10_laysWords_135 : decode cX10_laysWords 135 = .ok (.return_, 1) := by decide +kernel
theorem dX10_isStop_0 : decode cX10_isStop 0 = .ok (.aload_n 0, 1) := by decide +kernel
theorem dX10_isStop_1 : decode cX10_isStop 1 = .ok (.iload_n 1, 1) := by decide +kernel
theorem dX10_isStop_2 : decode cX10_isStop 2 = .ok (.invokevirtual 166, 3) := by decide +kernel
theorem dX10_isStop_5 : decode cX10_isStop 5 = .ok (.istore_n 2, 1) := by decide +kernel
theorem dX10_isStop_6 : decode cX10_isStop 6 = .ok (.iload_n 2, 1) := by decide +kernel
theorem dX10_isStop_7 : decode cX10_isStop 7 = .ok (.bipush 46, 2) := by decide +kernel
theorem dX10_isStop_9 : decode cX10_isStop 9 = .ok (.if_icmp .eq 15, 3) := by decide +kernel
theorem dX10_isStop_12 : decode cX10_isStop 12 = .ok (.iload_n 2, 1) := by decide +kernel
theorem dX10_isStop_13 : decode cX10_isStop 13 = .ok (.bipush 33, 2) := by decide +kernel
theorem dX10_isStop_15 : decode cX10_isStop 15 = .ok (.if_icmp .eq 9, 3) := by decide +kernel
theorem dX10_isStop_18 : decode cX10_isStop 18 = .ok (.iload_n 2, 1) := by decide +kernel
theorem dX10_isStop_19 : decode cX10_isStop 19 = .ok (.bipush 63, 2) := by decide +kernel
theorem dX10_isStop_21 : decode cX10_isStop 21 = .ok (.if_icmp .ne 7, 3) := by decide +kernel
theorem dX10_isStop_24 : decode cX10_isStop 24 = .ok (.iconst 1, 1) := by decide +kernel
theorem dX10_isStop_25 : decode cX10_isStop 25 = .ok (.goto 4, 3) := by decide +kernel
theorem dX10_isStop_28 : decode cX10_isStop 28 = .ok (.iconst 0, 1) := by decide +kernel
theorem dX10_isStop_29 : decode cX10_isStop 29 = .ok (.ireturn, 1) := by decide +kernel
theorem dX10_isClosing_0 : decode cX10_isClosing 0 = .ok (.aload_n 0, 1) := by decide +kernel
theorem dX10_isClosing_1 : decode cX10_isClosing 1 = .ok (.iload_n 1, 1) := by decide +kernel
theorem dX10_isClosing_2 : decode cX10_isClosing 2 = .ok (.invokevirtual 188, 3) := by decide +kernel
theorem dX10_isClosing_5 : decode cX10_isClosing 5 = .ok (.ifCond .ne 23, 3) := by decide +kernel
theorem dX10_isClosing_8 : decode cX10_isClosing 8 = .ok (.aload_n 0, 1) := by decide +kernel
theorem dX10_isClosing_9 : decode cX10_isClosing 9 = .ok (.iload_n 1, 1) := by decide +kernel
theorem dX10_isClosing_10 : decode cX10_isClosing 10 = .ok (.invokevirtual 166, 3) := by decide +kernel
theorem dX10_isClosing_13 : decode cX10_isClosing 13 = .ok (.bipush 41, 2) := by decide +kernel
theorem dX10_isClosing_15 : decode cX10_isClosing 15 = .ok (.if_icmp .eq 13, 3) := by decide +kernel
theorem dX10_isClosing_18 : decode cX10_isClosing 18 = .ok (.aload_n 0, 1) := by decide +kernel
theorem dX10_isClosing_19 : decode cX10_isClosing 19 = .ok (.iload_n 1, 1) := by decide +kernel
theorem dX10_isClosing_20 : decode cX10_isClosing 20 = .ok (.invokevirtual 166, 3) := by decide +kernel
theorem dX10_isClosing_23 : decode cX10_isClosing 23 = .ok (.bipush 34, 2) := by decide +kernel
theorem dX10_isClosing_25 : decode cX10_isClosing 25 = .ok (.if_icmp .ne 7, 3) := by decide +kernel
theorem dX10_isClosing_28 : decode cX10_isClosing 28 = .ok (.iconst 1, 1) := by decide +kernel
theorem dX10_isClosing_29 : decode cX10_isClosing 29 = .ok (.goto 4, 3) := by decide +kernel
theorem dX10_isClosing_32 : decode cX10_isClosing 32 = .ok (.iconst 0, 1) := by decide +kernel
theorem dX10_isClosing_33 : decode cX10_isClosing 33 = .ok (.ireturn, 1) := by decide +kernel
theorem dX10_isInitial_0 : decode cX10_isInitial 0 = .ok (.aload_n 0, 1) := by decide +kernel
theorem dX10_isInitial_1 : decode cX10_isInitial 1 = .ok (.iload_n 1, 1) := by decide +kernel
theorem dX10_isInitial_2 : decode cX10_isInitial 2 = .ok (.invokevirtual 166, 3) := by decide +kernel
theorem dX10_isInitial_5 : decode cX10_isInitial 5 = .ok (.bipush 46, 2) := by decide +kernel
theorem dX10_isInitial_7 : decode cX10_isInitial 7 = .ok (.if_icmp .ne 37, 3) := by decide +kernel
theorem dX10_isInitial_10 : decode cX10_isInitial 10 = .ok (.aload_n 0, 1) := by decide +kernel
theorem dX10_isInitial_11 : decode cX10_isInitial 11 = .ok (.iload_n 1, 1) := by decide +kernel
theorem dX10_isInitial_12 : decode cX10_isInitial 12 = .ok (.iconst 1, 1) := by decide +kernel
theorem dX10_isInitial_13 : decode cX10_isInitial 13 = .ok (.isub, 1) := by decide +kernel
theorem dX10_isInitial_14 : decode cX10_isInitial 14 = .ok (.invokevirtual 182, 3) := by decide +kernel
theorem dX10_isInitial_17 : decode cX10_isInitial 17 = .ok (.ifCond .eq 27, 3) := by decide +kernel
theorem dX10_isInitial_20 : decode cX10_isInitial 20 = .ok (.aload_n 0, 1) := by decide +kernel
theorem dX10_isInitial_21 : decode cX10_isInitial 21 = .ok (.iload_n 1, 1) := by decide +kernel
theorem dX10_isInitial_22 : decode cX10_isInitial 22 = .ok (.iconst 2, 1) := by decide +kernel
theorem dX10_isInitial_23 : decode cX10_isInitial 23 = .ok (.isub, 1) := by decide +kernel
theorem dX10_isInitial_24 : decode cX10_isInitial 24 = .ok (.invokevirtual 182, 3) := by decide +kernel
theorem dX10_isInitial_27 : decode cX10_isInitial 27 = .ok (.ifCond .ne 17, 3) := by decide +kernel
theorem dX10_isInitial_30 : decode cX10_isInitial 30 = .ok (.aload_n 0, 1) := by decide +kernel
theorem dX10_isInitial_31 : decode cX10_isInitial 31 = .ok (.iload_n 1, 1) := by decide +kernel
theorem dX10_isInitial_32 : decode cX10_isInitial 32 = .ok (.iconst 1, 1) := by decide +kernel
theorem dX10_isInitial_33 : decode cX10_isInitial 33 = .ok (.iadd, 1) := by decide +kernel
theorem dX10_isInitial_34 : decode cX10_isInitial 34 = .ok (.invokevirtual 191, 3) := by decide +kernel
theorem dX10_isInitial_37 : decode cX10_isInitial 37 = .ok (.ifCond .ne 7, 3) := by decide +kernel
theorem dX10_isInitial_40 : decode cX10_isInitial 40 = .ok (.iconst 1, 1) := by decide +kernel
theorem dX10_isInitial_41 : decode cX10_isInitial 41 = .ok (.goto 4, 3) := by decide +kernel
theorem dX10_isInitial_44 : decode cX10_isInitial 44 = .ok (.iconst 0, 1) := by decide +kernel
theorem dX10_isInitial_45 : decode cX10_isInitial 45 = .ok (.ireturn, 1) := by decide +kernel
theorem dX10_isGap_0 : decode cX10_isGap 0 = .ok (.aload_n 0, 1) := by decide +kernel
theorem dX10_isGap_1 : decode cX10_isGap 1 = .ok (.iload_n 1, 1) := by decide +kernel
theorem dX10_isGap_2 : decode cX10_isGap 2 = .ok (.invokevirtual 166, 3) := by decide +kernel
theorem dX10_isGap_5 : decode cX10_isGap 5 = .ok (.bipush 10, 2) := by decide +kernel
theorem dX10_isGap_7 : decode cX10_isGap 7 = .ok (.if_icmp .eq 5, 3) := by decide +kernel
theorem dX10_isGap_10 : decode cX10_isGap 10 = .ok (.iconst 0, 1) := by decide +kernel
theorem dX10_isGap_11 : decode cX10_isGap 11 = .ok (.ireturn, 1) := by decide +kernel
theorem dX10_isGap_12 : decode cX10_isGap 12 = .ok (.iload_n 1, 1) := by decide +kernel
theorem dX10_isGap_13 : decode cX10_isGap 13 = .ok (.iconst 1, 1) := by decide +kernel
theorem dX10_isGap_14 : decode cX10_isGap 14 = .ok (.iadd, 1) := by decide +kernel
theorem dX10_isGap_15 : decode cX10_isGap 15 = .ok (.istore_n 2, 1) := by decide +kernel
theorem dX10_isGap_16 : decode cX10_isGap 16 = .ok (.aload_n 0, 1) := by decide +kernel
theorem dX10_isGap_17 : decode cX10_isGap 17 = .ok (.iload_n 2, 1) := by decide +kernel
theorem dX10_isGap_18 : decode cX10_isGap 18 = .ok (.invokevirtual 166, 3) := by decide +kernel
theorem dX10_isGap_21 : decode cX10_isGap 21 = .ok (.bipush 9, 2) := by decide +kernel
theorem dX10_isGap_23 : decode cX10_isGap 23 = .ok (.if_icmp .eq 13, 3) := by decide +kernel
theorem dX10_isGap_26 : decode cX10_isGap 26 = .ok (.aload_n 0, 1) := by decide +kernel
theorem dX10_isGap_27 : decode cX10_isGap 27 = .ok (.iload_n 2, 1) := by decide +kernel
theorem dX10_isGap_28 : decode cX10_isGap 28 = .ok (.invokevirtual 166, 3) := by decide +kernel
theorem dX10_isGap_31 : decode cX10_isGap 31 = .ok (.bipush 32, 2) := by decide +kernel
theorem dX10_isGap_33 : decode cX10_isGap 33 = .ok (.if_icmp .ne 9, 3) := by decide +kernel
theorem dX10_isGap_36 : decode cX10_isGap 36 = .ok (.iinc 2 1, 3) := by decide +kernel
theorem dX10_isGap_39 : decode cX10_isGap 39 = .ok (.goto (-23), 3) := by decide +kernel
theorem dX10_isGap_42 : decode cX10_isGap 42 = .ok (.aload_n 0, 1) := by decide +kernel
theorem dX10_isGap_43 : decode cX10_isGap 43 = .ok (.iload_n 2, 1) := by decide +kernel
theorem dX10_isGap_44 : decode cX10_isGap 44 = .ok (.invokevirtual 166, 3) := by decide +kernel
theorem dX10_isGap_47 : decode cX10_isGap 47 = .ok (.bipush 10, 2) := by decide +kernel
theorem dX10_isGap_49 : decode cX10_isGap 49 = .ok (.if_icmp .ne 7, 3) := by decide +kernel
theorem dX10_isGap_52 : decode cX10_isGap 52 = .ok (.iconst 1, 1) := by decide +kernel
theorem dX10_isGap_53 : decode cX10_isGap 53 = .ok (.goto 4, 3) := by decide +kernel
theorem dX10_isGap_56 : decode cX10_isGap 56 = .ok (.iconst 0, 1) := by decide +kernel
theorem dX10_isGap_57 : decode cX10_isGap 57 = .ok (.ireturn, 1) := by decide +kernel
theorem dX10_endOf_0 : decode cX10_endOf 0 = .ok (.iload_n 1, 1) := by decide +kernel
theorem dX10_endOf_1 : decode cX10_endOf 1 = .ok (.istore_n 2, 1) := by decide +kernel
theorem dX10_endOf_2 : decode cX10_endOf 2 = .ok (.iload_n 2, 1) := by decide +kernel
theorem dX10_endOf_3 : decode cX10_endOf 3 = .ok (.aload_n 0, 1) := by decide +kernel
theorem dX10_endOf_4 : decode cX10_endOf 4 = .ok (.getfield 155, 3) := by decide +kernel
theorem dX10_endOf_7 : decode cX10_endOf 7 = .ok (.if_icmp .ge 74, 3) := by decide +kernel
theorem dX10_endOf_10 : decode cX10_endOf 10 = .ok (.aload_n 0, 1) := by decide +kernel
theorem dX10_endOf_11 : decode cX10_endOf 11 = .ok (.iload_n 2, 1) := by decide +kernel
theorem dX10_endOf_12 : decode cX10_endOf 12 = .ok (.invokevirtual 194, 3) := by decide +kernel
theorem dX10_endOf_15 : decode cX10_endOf 15 = .ok (.ifCond .eq 5, 3) := by decide +kernel
theorem dX10_endOf_18 : decode cX10_endOf 18 = .ok (.iload_n 2, 1) := by decide +kernel
theorem dX10_endOf_19 : decode cX10_endOf 19 = .ok (.ireturn, 1) := by decide +kernel
theorem dX10_endOf_20 : decode cX10_endOf 20 = .ok (.aload_n 0, 1) := by decide +kernel
theorem dX10_endOf_21 : decode cX10_endOf 21 = .ok (.iload_n 2, 1) := by decide +kernel
theorem dX10_endOf_22 : decode cX10_endOf 22 = .ok (.invokevirtual 188, 3) := by decide +kernel
theorem dX10_endOf_25 : decode cX10_endOf 25 = .ok (.ifCond .eq 50, 3) := by decide +kernel
theorem dX10_endOf_28 : decode cX10_endOf 28 = .ok (.aload_n 0, 1) := by decide +kernel
theorem dX10_endOf_29 : decode cX10_endOf 29 = .ok (.iload_n 2, 1) := by decide +kernel
theorem dX10_endOf_30 : decode cX10_endOf 30 = .ok (.invokevirtual 197, 3) := by decide +kernel
theorem dX10_endOf_33 : decode cX10_endOf 33 = .ok (.ifCond .eq 6, 3) := by decide +kernel
theorem dX10_endOf_36 : decode cX10_endOf 36 = .ok (.goto 39, 3) := by decide +kernel
theorem dX10_endOf_39 : decode cX10_endOf 39 = .ok (.iload_n 2, 1) := by decide +kernel
theorem dX10_endOf_40 : decode cX10_endOf 40 = .ok (.iconst 1, 1) := by decide +kernel
theorem dX10_endOf_41 : decode cX10_endOf 41 = .ok (.iadd, 1) := by decide +kernel
theorem dX10_endOf_42 : decode cX10_endOf 42 = .ok (.istore_n 3, 1) := by decide +kernel
theorem dX10_endOf_43 : decode cX10_endOf 43 = .ok (.aload_n 0, 1) := by decide +kernel
theorem dX10_endOf_44 : decode cX10_endOf 44 = .ok (.iload_n 3, 1) := by decide +kernel
theorem dX10_endOf_45 : decode cX10_endOf 45 = .ok (.invokevirtual 191, 3) := by decide +kernel
theorem dX10_endOf_48 : decode cX10_endOf 48 = .ok (.ifCond .eq 9, 3) := by decide +kernel
theorem dX10_endOf_51 : decode cX10_endOf 51 = .ok (.iinc 3 1, 3) := by decide +kernel
theorem dX10_endOf_54 : decode cX10_endOf 54 = .ok (.goto (-11), 3) := by decide +kernel
theorem dX10_endOf_57 : decode cX10_endOf 57 = .ok (.iload_n 3, 1) := by decide +kernel
theorem dX10_endOf_58 : decode cX10_endOf 58 = .ok (.aload_n 0, 1) := by decide +kernel
theorem dX10_endOf_59 : decode cX10_endOf 59 = .ok (.getfield 155, 3) := by decide +kernel
theorem dX10_endOf_62 : decode cX10_endOf 62 = .ok (.if_icmp .ge 11, 3) := by decide +kernel
theorem dX10_endOf_65 : decode cX10_endOf 65 = .ok (.aload_n 0, 1) := by decide +kernel
theorem dX10_endOf_66 : decode cX10_endOf 66 = .ok (.iload_n 3, 1) := by decide +kernel
theorem dX10_endOf_67 : decode cX10_endOf 67 = .ok (.invokevirtual 200, 3) := by decide +kernel
theorem dX10_endOf_70 : decode cX10_endOf 70 = .ok (.ifCond .eq 5, 3) := by decide +kernel
theorem dX10_endOf_73 : decode cX10_endOf 73 = .ok (.iload_n 3, 1) := by decide +kernel
theorem dX10_endOf_74 : decode cX10_endOf 74 = .ok (.ireturn, 1) := by decide +kernel
theorem dX10_endOf_75 : decode cX10_endOf 75 = .ok (.iinc 2 1, 3) := by decide +kernel
theorem dX10_endOf_78 : decode cX10_endOf 78 = .ok (.goto (-76), 3) := by decide +kernel
theorem dX10_endOf_81 : decode cX10_endOf 81 = .ok (.aload_n 0, 1) := by decide +kernel
theorem dX10_endOf_82 : decode cX10_endOf 82 = .ok (.getfield 155, 3) := by decide +kernel
theorem dX10_endOf_85 : decode cX10_endOf 85 = .ok (.ireturn, 1) := by decide +kernel
theorem dX10_laysSentences_0 : decode cX10_laysSentences 0 = .ok (.aload_n 0, 1) := by decide +kernel
theorem dX10_laysSentences_1 : decode cX10_laysSentences 1 = .ok (.iconst 0, 1) := by decide +kernel
theorem dX10_laysSentences_2 : decode cX10_laysSentences 2 = .ok (.putfield 203, 3) := by decide +kernel
theorem dX10_laysSentences_5 : decode cX10_laysSentences 5 = .ok (.iconst 0, 1) := by decide +kernel
theorem dX10_laysSentences_6 : decode cX10_laysSentences 6 = .ok (.istore_n 1, 1) := by decide +kernel
theorem dX10_laysSentences_7 : decode cX10_laysSentences 7 = .ok (.aload_n 0, 1) := by decide +kernel
theorem dX10_laysSentences_8 : decode cX10_laysSentences 8 = .ok (.getfield 203, 3) := by decide +kernel
theorem dX10_laysSentences_11 : decode cX10_laysSentences 11 = .ok (.bipush 14, 2) := by decide +kernel
theorem dX10_laysSentences_13 : decode cX10_laysSentences 13 = .ok (.if_icmp .ge 103, 3) := by decide +kernel
theorem dX10_laysSentences_16 : decode cX10_laysSentences 16 = .ok (.aload_n 0, 1) := by decide +kernel
theorem dX10_laysSentences_17 : decode cX10_laysSentences 17 = .ok (.iload_n 1, 1) := by decide +kernel
theorem dX10_laysSentences_18 : decode cX10_laysSentences 18 = .ok (.invokevirtual 200, 3) := by decide +kernel
theorem dX10_laysSentences_21 : decode cX10_laysSentences 21 = .ok (.ifCond .eq 9, 3) := by decide +kernel
theorem dX10_laysSentences_24 : decode cX10_laysSentences 24 = .ok (.iinc 1 1, 3) := by decide +kernel
theorem dX10_laysSentences_27 : decode cX10_laysSentences 27 = .ok (.goto (-11), 3) := by decide +kernel
theorem dX10_laysSentences_30 : decode cX10_laysSentences 30 = .ok (.iload_n 1, 1) := by decide +kernel
theorem dX10_laysSentences_31 : decode cX10_laysSentences 31 = .ok (.aload_n 0, 1) := by decide +kernel
theorem dX10_laysSentences_32 : decode cX10_laysSentences 32 = .ok (.getfield 155, 3) := by decide +kernel
theorem dX10_laysSentences_35 : decode cX10_laysSentences 35 = .ok (.if_icmp .lt 6, 3) := by decide +kernel
theorem dX10_laysSentences_38 : decode cX10_laysSentences 38 = .ok (.goto 78, 3) := by decide +kernel
theorem dX10_laysSentences_41 : decode cX10_laysSentences 41 = .ok (.aload_n 0, 1) := by decide +kernel
theorem dX10_laysSentences_42 : decode cX10_laysSentences 42 = .ok (.iload_n 1, 1) := by decide +kernel
theorem dX10_laysSentences_43 : decode cX10_laysSentences 43 = .ok (.invokevirtual 206, 3) := by decide +kernel
theorem dX10_laysSentences_46 : decode cX10_laysSentences 46 = .ok (.istore_n 2, 1) := by decide +kernel
theorem dX10_laysSentences_47 : decode cX10_laysSentences 47 = .ok (.aload_n 0, 1) := by decide +kernel
theorem dX10_laysSentences_48 : decode cX10_laysSentences 48 = .ok (.getfield 35, 3) := by decide +kernel
theorem dX10_laysSentences_51 : decode cX10_laysSentences 51 = .ok (.aload_n 0, 1) := by decide +kernel
theorem dX10_laysSentences_52 : decode cX10_laysSentences 52 = .ok (.getfield 203, 3) := by decide +kernel
theorem dX10_laysSentences_55 : decode cX10_laysSentences 55 = .ok (.iload_n 1, 1) := by decide +kernel
theorem dX10_laysSentences_56 : decode cX10_laysSentences 56 = .ok (.iastore, 1) := by decide +kernel
theorem dX10_laysSentences_57 : decode cX10_laysSentences 57 = .ok (.aload_n 0, 1) := by decide +kernel
theorem dX10_laysSentences_58 : decode cX10_laysSentences 58 = .ok (.getfield 38, 3) := by decide +kernel
theorem dX10_laysSentences_61 : decode cX10_laysSentences 61 = .ok (.aload_n 0, 1) := by decide +kernel
theorem dX10_laysSentences_62 : decode cX10_laysSentences 62 = .ok (.getfield 203, 3) := by decide +kernel
theorem dX10_laysSentences_65 : decode cX10_laysSentences 65 = .ok (.iload_n 2, 1) := by decide +kernel
theorem dX10_laysSentences_66 : decode cX10_laysSentences 66 = .ok (.iastore, 1) := by decide +kernel
theorem dX10_laysSentences_67 : decode cX10_laysSentences 67 = .ok (.aload_n 0, 1) := by decide +kernel
theorem dX10_laysSentences_68 : decode cX10_laysSentences 68 = .ok (.aload_n 0, 1) := by decide +kernel
theorem dX10_laysSentences_69 : decode cX10_laysSentences 69 = .ok (.getfield 38, 3) := by decide +kernel
theorem dX10_laysSentences_72 : decode cX10_laysSentences 72 = .ok (.aload_n 0, 1) := by decide +kernel
theorem dX10_laysSentences_73 : decode cX10_laysSentences 73 = .ok (.getfield 203, 3) := by decide +kernel
theorem dX10_laysSentences_76 : decode cX10_laysSentences 76 = .ok (.iaload, 1) := by decide +kernel
theorem dX10_laysSentences_77 : decode cX10_laysSentences 77 = .ok (.iconst 1, 1) := by decide +kernel
theorem dX10_laysSentences_78 : decode cX10_laysSentences 78 = .ok (.isub, 1) := by decide +kernel
theorem dX10_laysSentences_79 : decode cX10_laysSentences 79 = .ok (.invokevirtual 200, 3) := by decide +kernel
theorem dX10_laysSentences_82 : decode cX10_laysSentences 82 = .ok (.ifCond .eq 19, 3) := by decide +kernel
theorem dX10_laysSentences_85 : decode cX10_laysSentences 85 = .ok (.aload_n 0, 1) := by decide +kernel
theorem dX10_laysSentences_86 : decode cX10_laysSentences 86 = .ok (.getfield 38, 3) := by decide +kernel
theorem dX10_laysSentences_89 : decode cX10_laysSentences 89 = .ok (.aload_n 0, 1) := by decide +kernel
theorem dX10_laysSentences_90 : decode cX10_laysSentences 90 = .ok (.getfield 203, 3) := by decide +kernel
theorem dX10_laysSentences_93 : decode cX10_laysSentences 93 = .ok (.dup2, 1) := by decide +kernel
theorem dX10_laysSentences_94 : decode cX10_laysSentences 94 = .ok (.iaload, 1) := by decide +kernel
theorem dX10_laysSentences_95 : decode cX10_laysSentences 95 = .ok (.iconst 1, 1) := by decide +kernel
theorem dX10_laysSentences_96 : decode cX10_laysSentences 96 = .ok (.isub, 1) := by decide +kernel
theorem dX10_laysSentences_97 : decode cX10_laysSentences 97 = .ok (.iastore, 1) := by decide +kernel
theorem dX10_laysSentences_98 : decode cX10_laysSentences 98 = .ok (.goto (-31), 3) := by decide +kernel
theorem dX10_laysSentences_101 : decode cX10_laysSentences 101 = .ok (.aload_n 0, 1) := by decide +kernel
theorem dX10_laysSentences_102 : decode cX10_laysSentences 102 = .ok (.dup, 1) := by decide +kernel
theorem dX10_laysSentences_103 : decode cX10_laysSentences 103 = .ok (.getfield 203, 3) := by decide +kernel
theorem dX10_laysSentences_106 : decode cX10_laysSentences 106 = .ok (.iconst 1, 1) := by decide +kernel
theorem dX10_laysSentences_107 : decode cX10_laysSentences 107 = .ok (.iadd, 1) := by decide +kernel
theorem dX10_laysSentences_108 : decode cX10_laysSentences 108 = .ok (.putfield 203, 3) := by decide +kernel
theorem dX10_laysSentences_111 : decode cX10_laysSentences 111 = .ok (.iload_n 2, 1) := by decide +kernel
theorem dX10_laysSentences_112 : decode cX10_laysSentences 112 = .ok (.istore_n 1, 1) := by decide +kernel
theorem dX10_laysSentences_113 : decode cX10_laysSentences 113 = .ok (.goto (-106), 3) := by decide +kernel
theorem dX10_laysSentences_116 : decode cX10_laysSentences 116 = .ok (.iconst 0, 1) := by decide +kernel
theorem dX10_laysSentences_117 : decode cX10_laysSentences 117 = .ok (.istore_n 2, 1) := by decide +kernel
theorem dX10_laysSentences_118 : decode cX10_laysSentences 118 = .ok (.iload_n 2, 1) := by decide +kernel
theorem dX10_laysSentences_119 : decode cX10_laysSentences 119 = .ok (.aload_n 0, 1) := by decide +kernel
theorem dX10_laysSentences_120 : decode cX10_laysSentences 120 = .ok (.getfield 179, 3) := by decide +kernel
theorem dX10_laysSentences_123 : decode cX10_laysSentences 123 = .ok (.if_icmp .ge 69, 3) := by decide +kernel
theorem dX10_laysSentences_126 : decode cX10_laysSentences 126 = .ok (.aload_n 0, 1) := by decide +kernel
theorem dX10_laysSentences_127 : decode cX10_laysSentences 127 = .ok (.getfield 29, 3) := by decide +kernel
theorem dX10_laysSentences_130 : decode cX10_laysSentences 130 = .ok (.iload_n 2, 1) := by decide +kernel
theorem dX10_laysSentences_131 : decode cX10_laysSentences 131 = .ok (.iconst (-1), 1) := by decide +kernel
theorem dX10_laysSentences_132 : decode cX10_laysSentences 132 = .ok (.iastore, 1) := by decide +kernel
theorem dX10_laysSentences_133 : decode cX10_laysSentences 133 = .ok (.iconst 0, 1) := by decide +kernel
theorem dX10_laysSentences_134 : decode cX10_laysSentences 134 = .ok (.istore_n 3, 1) := by decide +kernel
theorem dX10_laysSentences_135 : decode cX10_laysSentences 135 = .ok (.iload_n 3, 1) := by decide +kernel
theorem dX10_laysSentences_136 : decode cX10_laysSentences 136 = .ok (.aload_n 0, 1) := by decide +kernel
theorem dX10_laysSentences_137 : decode cX10_laysSentences 137 = .ok (.getfield 203, 3) := by decide +kernel
theorem dX10_laysSentences_140 : decode cX10_laysSentences 140 = .ok (.if_icmp .ge 46, 3) := by decide +kernel
theorem dX10_laysSentences_143 : decode cX10_laysSentences 143 = .ok (.aload_n 0, 1) := by decide +kernel
theorem dX10_laysSentences_144 : decode cX10_laysSentences 144 = .ok (.getfield 23, 3) := by decide +kernel
theorem dX10_laysSentences_147 : decode cX10_laysSentences 147 = .ok (.iload_n 2, 1) := by decide +kernel
theorem dX10_laysSentences_148 : decode cX10_laysSentences 148 = .ok (.iaload, 1) := by decide +kernel
theorem dX10_laysSentences_149 : decode cX10_laysSentences 149 = .ok (.aload_n 0, 1) := by decide +kernel
theorem dX10_laysSentences_150 : decode cX10_laysSentences 150 = .ok (.getfield 35, 3) := by decide +kernel
theorem dX10_laysSentences_153 : decode cX10_laysSentences 153 = .ok (.iload_n 3, 1) := by decide +kernel
theorem dX10_laysSentences_154 : decode cX10_laysSentences 154 = .ok (.iaload, 1) := by decide +kernel
theorem dX10_laysSentences_155 : decode cX10_laysSentences 155 = .ok (.if_icmp .lt 25, 3) := by decide +kernel
theorem dX10_laysSentences_158 : decode cX10_laysSentences 158 = .ok (.aload_n 0, 1) := by decide +kernel
theorem dX10_laysSentences_159 : decode cX10_laysSentences 159 = .ok (.getfield 23, 3) := by decide +kernel
theorem dX10_laysSentences_162 : decode cX10_laysSentences 162 = .ok (.iload_n 2, 1) := by decide +kernel
theorem dX10_laysSentences_163 : decode cX10_laysSentences 163 = .ok (.iaload, 1) := by decide +kernel
theorem dX10_laysSentences_164 : decode cX10_laysSentences 164 = .ok (.aload_n 0, 1) := by decide +kernel
theorem dX10_laysSentences_165 : decode cX10_laysSentences 165 = .ok (.getfield 38, 3) := by decide +kernel
theorem dX10_laysSentences_168 : decode cX10_laysSentences 168 = .ok (.iload_n 3, 1) := by decide +kernel
theorem dX10_laysSentences_169 : decode cX10_laysSentences 169 = .ok (.iaload, 1) := by decide +kernel
theorem dX10_laysSentences_170 : decode cX10_laysSentences 170 = .ok (.if_icmp .ge 10, 3) := by decide +kernel
theorem dX10_laysSentences_173 : decode cX10_laysSentences 173 = .ok (.aload_n 0, 1) := by decide +kernel
theorem dX10_laysSentences_174 : decode cX10_laysSentences 174 = .ok (.getfield 29, 3) := by decide +kernel
theorem dX10_laysSentences_177 : decode cX10_laysSentences 177 = .ok (.iload_n 2, 1) := by decide +kernel
theorem dX10_laysSentences_178 : decode cX10_laysSentences 178 = .ok (.iload_n 3, 1) := by decide +kernel
theorem dX10_laysSentences_179 : decode cX10_laysSentences 179 = .ok (.iastore, 1) := by decide +kernel
theorem dX10_laysSentences_180 : decode cX10_laysSentences 180 = .ok (.iinc 3 1, 3) := by decide +kernel
theorem dX10_laysSentences_183 : decode cX10_laysSentences 183 = .ok (.goto (-48), 3) := by decide +kernel
theorem dX10_laysSentences_186 : decode cX10_laysSentences 186 = .ok (.iinc 2 1, 3) := by decide +kernel
theorem dX10_laysSentences_189 : decode cX10_laysSentences 189 = .ok (.goto (-71), 3) := by decide +kernel
theorem dX10_laysSentences_192 : decode cX10_laysSentences 192 = .ok (.iconst 0, 1) := by decide +kernel
theorem dX10_laysSentences_193 : decode cX10_laysSentences 193 = .ok (.istore_n 2, 1) := by decide +kernel
theorem dX10_laysSentences_194 : decode cX10_laysSentences 194 = .ok (.iload_n 2, 1) := by decide +kernel
theorem dX10_laysSentences_195 : decode cX10_laysSentences 195 = .ok (.sipush 1400, 3) := by decide +kernel
theorem dX10_laysSentences_198 : decode cX10_laysSentences 198 = .ok (.if_icmp .ge 16, 3) := by decide +kernel
theorem dX10_laysSentences_201 : decode cX10_laysSentences 201 = .ok (.aload_n 0, 1) := by decide +kernel
theorem dX10_laysSentences_202 : decode cX10_laysSentences 202 = .ok (.getfield 41, 3) := by decide +kernel
theorem dX10_laysSentences_205 : decode cX10_laysSentences 205 = .ok (.iload_n 2, 1) := by decide +kernel
theorem dX10_laysSentences_206 : decode cX10_laysSentences 206 = .ok (.iconst 0, 1) := by decide +kernel
theorem dX10_laysSentences_207 : decode cX10_laysSentences 207 = .ok (.bastore, 1) := by decide +kernel
theorem dX10_laysSentences_208 : decode cX10_laysSentences 208 = .ok (.iinc 2 1, 3) := by decide +kernel
theorem dX10_laysSentences_211 : decode cX10_laysSentences 211 = .ok (.goto (-17), 3) := by decide +kernel
theorem dX10_laysSentences_214 : decode cX10_laysSentences 214 = .ok (.iconst 0, 1) := by decide +kernel
theorem dX10_laysSentences_215 : decode cX10_laysSentences 215 = .ok (.istore_n 2, 1) := by decide +kernel
theorem dX10_laysSentences_216 : decode cX10_laysSentences 216 = .ok (.iload_n 2, 1) := by decide +kernel
theorem dX10_laysSentences_217 : decode cX10_laysSentences 217 = .ok (.aload_n 0, 1) := by decide +kernel
theorem dX10_laysSentences_218 : decode cX10_laysSentences 218 = .ok (.getfield 179, 3) := by decide +kernel
theorem dX10_laysSentences_221 : decode cX10_laysSentences 221 = .ok (.if_icmp .ge 41, 3) := by decide +kernel
theorem dX10_laysSentences_224 : decode cX10_laysSentences 224 = .ok (.aload_n 0, 1) := by decide +kernel
theorem dX10_laysSentences_225 : decode cX10_laysSentences 225 = .ok (.getfield 29, 3) := by decide +kernel
theorem dX10_laysSentences_228 : decode cX10_laysSentences 228 = .ok (.iload_n 2, 1) := by decide +kernel
theorem dX10_laysSentences_229 : decode cX10_laysSentences 229 = .ok (.iaload, 1) := by decide +kernel
theorem dX10_laysSentences_230 : decode cX10_laysSentences 230 = .ok (.iconst (-1), 1) := by decide +kernel
theorem dX10_laysSentences_231 : decode cX10_laysSentences 231 = .ok (.if_icmp .eq 25, 3) := by decide +kernel
theorem dX10_laysSentences_234 : decode cX10_laysSentences 234 = .ok (.aload_n 0, 1) := by decide +kernel
theorem dX10_laysSentences_235 : decode cX10_laysSentences 235 = .ok (.getfield 41, 3) := by decide +kernel
theorem dX10_laysSentences_238 : decode cX10_laysSentences 238 = .ok (.bipush 100, 2) := by decide +kernel
theorem dX10_laysSentences_240 : decode cX10_laysSentences 240 = .ok (.aload_n 0, 1) := by decide +kernel
theorem dX10_laysSentences_241 : decode cX10_laysSentences 241 = .ok (.getfield 29, 3) := by decide +kernel
theorem dX10_laysSentences_244 : decode cX10_laysSentences 244 = .ok (.iload_n 2, 1) := by decide +kernel
theorem dX10_laysSentences_245 : decode cX10_laysSentences 245 = .ok (.iaload, 1) := by decide +kernel
theorem dX10_laysSentences_246 : decode cX10_laysSentences 246 = .ok (.imul, 1) := by decide +kernel
theorem dX10_laysSentences_247 : decode cX10_laysSentences 247 = .ok (.aload_n 0, 1) := by decide +kernel
theorem dX10_laysSentences_248 : decode cX10_laysSentences 248 = .ok (.getfield 32, 3) := by decide +kernel
theorem dX10_laysSentences_251 : decode cX10_laysSentences 251 = .ok (.iload_n 2, 1) := by decide +kernel
theorem dX10_laysSentences_252 : decode cX10_laysSentences 252 = .ok (.iaload, 1) := by decide +kernel
theorem dX10_laysSentences_253 : decode cX10_laysSentences 253 = .ok (.iadd, 1) := by decide +kernel
theorem dX10_laysSentences_254 : decode cX10_laysSentences 254 = .ok (.iconst 1, 1) := by decide +kernel
theorem dX10_laysSentences_255 : decode cX10_laysSentences 255 = .ok (.bastore, 1) := by decide +kernel
theorem dX10_laysSentences_256 : decode cX10_laysSentences 256 = .ok (.iinc 2 1, 3) := by decide +kernel
theorem dX10_laysSentences_259 : decode cX10_laysSentences 259 = .ok (.goto (-43), 3) := by decide +kernel
theorem dX10_laysSentences_262 : decode cX10_laysSentences 262 = .ok (.return_, 1) := by decide +kernel
theorem dX10_fitsOne_0 : decode cX10_fitsOne 0 = .ok (.iconst 4, 1) := by decide +kernel
theorem dX10_fitsOne_1 : decode cX10_fitsOne 1 = .ok (.iload_n 1, 1) := by decide +kernel
theorem dX10_fitsOne_2 : decode cX10_fitsOne 2 = .ok (.imul, 1) := by decide +kernel
theorem dX10_fitsOne_3 : decode cX10_fitsOne 3 = .ok (.iload_n 2, 1) := by decide +kernel
theorem dX10_fitsOne_4 : decode cX10_fitsOne 4 = .ok (.iadd, 1) := by decide +kernel
theorem dX10_fitsOne_5 : decode cX10_fitsOne 5 = .ok (.istore 4, 2) := by decide +kernel
theorem dX10_fitsOne_7 : decode cX10_fitsOne 7 = .ok (.aload_n 0, 1) := by decide +kernel
theorem dX10_fitsOne_8 : decode cX10_fitsOne 8 = .ok (.getfield 26, 3) := by decide +kernel
theorem dX10_fitsOne_11 : decode cX10_fitsOne 11 = .ok (.iload_n 3, 1) := by decide +kernel
theorem dX10_fitsOne_12 : decode cX10_fitsOne 12 = .ok (.iaload, 1) := by decide +kernel
theorem dX10_fitsOne_13 : decode cX10_fitsOne 13 = .ok (.aload_n 0, 1) := by decide +kernel
theorem dX10_fitsOne_14 : decode cX10_fitsOne 14 = .ok (.getfield 23, 3) := by decide +kernel
theorem dX10_fitsOne_17 : decode cX10_fitsOne 17 = .ok (.iload_n 3, 1) := by decide +kernel
theorem dX10_fitsOne_18 : decode cX10_fitsOne 18 = .ok (.iaload, 1) := by decide +kernel
theorem dX10_fitsOne_19 : decode cX10_fitsOne 19 = .ok (.isub, 1) := by decide +kernel
theorem dX10_fitsOne_20 : decode cX10_fitsOne 20 = .ok (.istore 5, 2) := by decide +kernel
theorem dX10_fitsOne_22 : decode cX10_fitsOne 22 = .ok (.aload_n 0, 1) := by decide +kernel
theorem dX10_fitsOne_23 : decode cX10_fitsOne 23 = .ok (.getfield 57, 3) := by decide +kernel
theorem dX10_fitsOne_26 : decode cX10_fitsOne 26 = .ok (.iload 4, 2) := by decide +kernel
theorem dX10_fitsOne_28 : decode cX10_fitsOne 28 = .ok (.baload, 1) := by decide +kernel
theorem dX10_fitsOne_29 : decode cX10_fitsOne 29 = .ok (.ifCond .eq 23, 3) := by decide +kernel
theorem dX10_fitsOne_32 : decode cX10_fitsOne 32 = .ok (.iload 5, 2) := by decide +kernel
theorem dX10_fitsOne_34 : decode cX10_fitsOne 34 = .ok (.aload_n 0, 1) := by decide +kernel
theorem dX10_fitsOne_35 : decode cX10_fitsOne 35 = .ok (.getfield 51, 3) := by decide +kernel
theorem dX10_fitsOne_38 : decode cX10_fitsOne 38 = .ok (.iload 4, 2) := by decide +kernel
theorem dX10_fitsOne_40 : decode cX10_fitsOne 40 = .ok (.iaload, 1) := by decide +kernel
theorem dX10_fitsOne_41 : decode cX10_fitsOne 41 = .ok (.if_icmp .lt 7, 3) := by decide +kernel
theorem dX10_fitsOne_44 : decode cX10_fitsOne 44 = .ok (.iconst 1, 1) := by decide +kernel
theorem dX10_fitsOne_45 : decode cX10_fitsOne 45 = .ok (.goto 24, 3) := by decide +kernel
theorem dX10_fitsOne_48 : decode cX10_fitsOne 48 = .ok (.iconst 0, 1) := by decide +kernel
theorem dX10_fitsOne_49 : decode cX10_fitsOne 49 = .ok (.goto 20, 3) := by decide +kernel
theorem dX10_fitsOne_52 : decode cX10_fitsOne 52 = .ok (.iload 5, 2) := by decide +kernel
theorem dX10_fitsOne_54 : decode cX10_fitsOne 54 = .ok (.aload_n 0, 1) := by decide +kernel
theorem dX10_fitsOne_55 : decode cX10_fitsOne 55 = .ok (.getfield 51, 3) := by decide +kernel
theorem dX10_fitsOne_58 : decode cX10_fitsOne 58 = .ok (.iload 4, 2) := by decide +kernel
theorem dX10_fitsOne_60 : decode cX10_fitsOne 60 = .ok (.iaload, 1) := by decide +kernel
theorem dX10_fitsOne_61 : decode cX10_fitsOne 61 = .ok (.if_icmp .ne 7, 3) := by decide +kernel
theorem dX10_fitsOne_64 : decode cX10_fitsOne 64 = .ok (.iconst 1, 1) := by decide +kernel
theorem dX10_fitsOne_65 : decode cX10_fitsOne 65 = .ok (.goto 4, 3) := by decide +kernel
theorem dX10_fitsOne_68 : decode cX10_fitsOne 68 = .ok (.iconst 0, 1) := by decide +kernel
theorem dX10_fitsOne_69 : decode cX10_fitsOne 69 = .ok (.istore 6, 2) := by decide +kernel
theorem dX10_fitsOne_71 : decode cX10_fitsOne 71 = .ok (.iconst 0, 1) := by decide +kernel
theorem dX10_fitsOne_72 : decode cX10_fitsOne 72 = .ok (.istore 7, 2) := by decide +kernel
theorem dX10_fitsOne_74 : decode cX10_fitsOne 74 = .ok (.iload 6, 2) := by decide +kernel
theorem dX10_fitsOne_76 : decode cX10_fitsOne 76 = .ok (.ifCond .eq 60, 3) := by decide +kernel
theorem dX10_fitsOne_79 : decode cX10_fitsOne 79 = .ok (.iload 7, 2) := by decide +kernel
theorem dX10_fitsOne_81 : decode cX10_fitsOne 81 = .ok (.aload_n 0, 1) := by decide +kernel
theorem dX10_fitsOne_82 : decode cX10_fitsOne 82 = .ok (.getfield 51, 3) := by decide +kernel
theorem dX10_fitsOne_85 : decode cX10_fitsOne 85 = .ok (.iload 4, 2) := by decide +kernel
theorem dX10_fitsOne_87 : decode cX10_fitsOne 87 = .ok (.iaload, 1) := by decide +kernel
theorem dX10_fitsOne_88 : decode cX10_fitsOne 88 = .ok (.if_icmp .ge 48, 3) := by decide +kernel
theorem dX10_fitsOne_91 : decode cX10_fitsOne 91 = .ok (.aload_n 0, 1) := by decide +kernel
theorem dX10_fitsOne_92 : decode cX10_fitsOne 92 = .ok (.aload_n 0, 1) := by decide +kernel
theorem dX10_fitsOne_93 : decode cX10_fitsOne 93 = .ok (.getfield 23, 3) := by decide +kernel
theorem dX10_fitsOne_96 : decode cX10_fitsOne 96 = .ok (.iload_n 3, 1) := by decide +kernel
theorem dX10_fitsOne_97 : decode cX10_fitsOne 97 = .ok (.iaload, 1) := by decide +kernel
theorem dX10_fitsOne_98 : decode cX10_fitsOne 98 = .ok (.iload 7, 2) := by decide +kernel
theorem dX10_fitsOne_100 : decode cX10_fitsOne 100 = .ok (.iadd, 1) := by decide +kernel
theorem dX10_fitsOne_101 : decode cX10_fitsOne 101 = .ok (.invokevirtual 166, 3) := by decide +kernel
theorem dX10_fitsOne_104 : decode cX10_fitsOne 104 = .ok (.invokestatic 169, 3) := by decide +kernel
theorem dX10_fitsOne_107 : decode cX10_fitsOne 107 = .ok (.aload_n 0, 1) := by decide +kernel
theorem dX10_fitsOne_108 : decode cX10_fitsOne 108 = .ok (.getfield 60, 3) := by decide +kernel
theorem dX10_fitsOne_111 : decode cX10_fitsOne 111 = .ok (.bipush 12, 2) := by decide +kernel
theorem dX10_fitsOne_113 : decode cX10_fitsOne 113 = .ok (.iload 4, 2) := by decide +kernel
theorem dX10_fitsOne_115 : decode cX10_fitsOne 115 = .ok (.imul, 1) := by decide +kernel
theorem dX10_fitsOne_116 : decode cX10_fitsOne 116 = .ok (.iload 7, 2) := by decide +kernel
theorem dX10_fitsOne_118 : decode cX10_fitsOne 118 = .ok (.iadd, 1) := by decide +kernel
theorem dX10_fitsOne_119 : decode cX10_fitsOne 119 = .ok (.baload, 1) := by decide +kernel
theorem dX10_fitsOne_120 : decode cX10_fitsOne 120 = .ok (.if_icmp .ne 7, 3) := by decide +kernel
theorem dX10_fitsOne_123 : decode cX10_fitsOne 123 = .ok (.iconst 1, 1) := by decide +kernel
theorem dX10_fitsOne_124 : decode cX10_fitsOne 124 = .ok (.goto 4, 3) := by decide +kernel
theorem dX10_fitsOne_127 : decode cX10_fitsOne 127 = .ok (.iconst 0, 1) := by decide +kernel
theorem dX10_fitsOne_128 : decode cX10_fitsOne 128 = .ok (.istore 6, 2) := by decide +kernel
theorem dX10_fitsOne_130 : decode cX10_fitsOne 130 = .ok (.iinc 7 1, 3) := by decide +kernel
theorem dX10_fitsOne_133 : decode cX10_fitsOne 133 = .ok (.goto (-59), 3) := by decide +kernel
theorem dX10_fitsOne_136 : decode cX10_fitsOne 136 = .ok (.iload 6, 2) := by decide +kernel
theorem dX10_fitsOne_138 : decode cX10_fitsOne 138 = .ok (.ireturn, 1) := by decide +kernel
theorem dX10_matchesAt_0 : decode cX10_matchesAt 0 = .ok (.iload_n 2, 1) := by decide +kernel
theorem dX10_matchesAt_1 : decode cX10_matchesAt 1 = .ok (.aload_n 0, 1) := by decide +kernel
theorem dX10_matchesAt_2 : decode cX10_matchesAt 2 = .ok (.getfield 48, 3) := by decide +kernel
theorem dX10_matchesAt_5 : decode cX10_matchesAt 5 = .ok (.iload_n 1, 1) := by decide +kernel
theorem dX10_matchesAt_6 : decode cX10_matchesAt 6 = .ok (.iaload, 1) := by decide +kernel
theorem dX10_matchesAt_7 : decode cX10_matchesAt 7 = .ok (.iadd, 1) := by decide +kernel
theorem dX10_matchesAt_8 : decode cX10_matchesAt 8 = .ok (.iconst 1, 1) := by decide +kernel
theorem dX10_matchesAt_9 : decode cX10_matchesAt 9 = .ok (.isub, 1) := by decide +kernel
theorem dX10_matchesAt_10 : decode cX10_matchesAt 10 = .ok (.istore_n 3, 1) := by decide +kernel
theorem dX10_matchesAt_11 : decode cX10_matchesAt 11 = .ok (.iload_n 3, 1) := by decide +kernel
theorem dX10_matchesAt_12 : decode cX10_matchesAt 12 = .ok (.aload_n 0, 1) := by decide +kernel
theorem dX10_matchesAt_13 : decode cX10_matchesAt 13 = .ok (.getfield 179, 3) := by decide +kernel
theorem dX10_matchesAt_16 : decode cX10_matchesAt 16 = .ok (.if_icmp .ge 13, 3) := by decide +kernel
theorem dX10_matchesAt_19 : decode cX10_matchesAt 19 = .ok (.aload_n 0, 1) := by decide +kernel
theorem dX10_matchesAt_20 : decode cX10_matchesAt 20 = .ok (.getfield 29, 3) := by decide +kernel
theorem dX10_matchesAt_23 : decode cX10_matchesAt 23 = .ok (.iload_n 2, 1) := by decide +kernel
theorem dX10_matchesAt_24 : decode cX10_matchesAt 24 = .ok (.iaload, 1) := by decide +kernel
theorem dX10_matchesAt_25 : decode cX10_matchesAt 25 = .ok (.iconst (-1), 1) := by decide +kernel
theorem dX10_matchesAt_26 : decode cX10_matchesAt 26 = .ok (.if_icmp .ne 5, 3) := by decide +kernel
theorem dX10_matchesAt_29 : decode cX10_matchesAt 29 = .ok (.iconst 0, 1) := by decide +kernel
theorem dX10_matchesAt_30 : decode cX10_matchesAt 30 = .ok (.ireturn, 1) := by decide +kernel
theorem dX10_matchesAt_31 : decode cX10_matchesAt 31 = .ok (.iconst 0, 1) := by decide +kernel
theorem dX10_matchesAt_32 : decode cX10_matchesAt 32 = .ok (.istore 4, 2) := by decide +kernel
theorem dX10_matchesAt_34 : decode cX10_matchesAt 34 = .ok (.iload 4, 2) := by decide +kernel
theorem dX10_matchesAt_36 : decode cX10_matchesAt 36 = .ok (.aload_n 0, 1) := by decide +kernel
theorem dX10_matchesAt_37 : decode cX10_matchesAt 37 = .ok (.getfield 48, 3) := by decide +kernel
theorem dX10_matchesAt_40 : decode cX10_matchesAt 40 = .ok (.iload_n 1, 1) := by decide +kernel
theorem dX10_matchesAt_41 : decode cX10_matchesAt 41 = .ok (.iaload, 1) := by decide +kernel
theorem dX10_matchesAt_42 : decode cX10_matchesAt 42 = .ok (.if_icmp .ge 43, 3) := by decide +kernel
theorem dX10_matchesAt_45 : decode cX10_matchesAt 45 = .ok (.aload_n 0, 1) := by decide +kernel
theorem dX10_matchesAt_46 : decode cX10_matchesAt 46 = .ok (.getfield 29, 3) := by decide +kernel
theorem dX10_matchesAt_49 : decode cX10_matchesAt 49 = .ok (.iload_n 2, 1) := by decide +kernel
theorem dX10_matchesAt_50 : decode cX10_matchesAt 50 = .ok (.iload 4, 2) := by decide +kernel
theorem dX10_matchesAt_52 : decode cX10_matchesAt 52 = .ok (.iadd, 1) := by decide +kernel
theorem dX10_matchesAt_53 : decode cX10_matchesAt 53 = .ok (.iaload, 1) := by decide +kernel
theorem dX10_matchesAt_54 : decode cX10_matchesAt 54 = .ok (.aload_n 0, 1) := by decide +kernel
theorem dX10_matchesAt_55 : decode cX10_matchesAt 55 = .ok (.getfield 29, 3) := by decide +kernel
theorem dX10_matchesAt_58 : decode cX10_matchesAt 58 = .ok (.iload_n 2, 1) := by decide +kernel
theorem dX10_matchesAt_59 : decode cX10_matchesAt 59 = .ok (.iaload, 1) := by decide +kernel
theorem dX10_matchesAt_60 : decode cX10_matchesAt 60 = .ok (.if_icmp .ne 17, 3) := by decide +kernel
theorem dX10_matchesAt_63 : decode cX10_matchesAt 63 = .ok (.aload_n 0, 1) := by decide +kernel
theorem dX10_matchesAt_64 : decode cX10_matchesAt 64 = .ok (.iload_n 1, 1) := by decide +kernel
theorem dX10_matchesAt_65 : decode cX10_matchesAt 65 = .ok (.iload 4, 2) := by decide +kernel
theorem dX10_matchesAt_67 : decode cX10_matchesAt 67 = .ok (.iload_n 2, 1) := by decide +kernel
theorem dX10_matchesAt_68 : decode cX10_matchesAt 68 = .ok (.iload 4, 2) := by decide +kernel
theorem dX10_matchesAt_70 : decode cX10_matchesAt 70 = .ok (.iadd, 1) := by decide +kernel
theorem dX10_matchesAt_71 : decode cX10_matchesAt 71 = .ok (.invokevirtual 274, 3) := by decide +kernel
theorem dX10_matchesAt_74 : decode cX10_matchesAt 74 = .ok (.ifCond .ne 5, 3) := by decide +kernel
theorem dX10_matchesAt_77 : decode cX10_matchesAt 77 = .ok (.iconst 0, 1) := by decide +kernel
theorem dX10_matchesAt_78 : decode cX10_matchesAt 78 = .ok (.ireturn, 1) := by decide +kernel
theorem dX10_matchesAt_79 : decode cX10_matchesAt 79 = .ok (.iinc 4 1, 3) := by decide +kernel
theorem dX10_matchesAt_82 : decode cX10_matchesAt 82 = .ok (.goto (-48), 3) := by decide +kernel
theorem dX10_matchesAt_85 : decode cX10_matchesAt 85 = .ok (.iconst 1, 1) := by decide +kernel
theorem dX10_matchesAt_86 : decode cX10_matchesAt 86 = .ok (.ireturn, 1) := by decide +kernel
theorem dX10_laysMatches_0 : decode cX10_laysMatches 0 = .ok (.aload_n 0, 1) := by decide +kernel
theorem dX10_laysMatches_1 : decode cX10_laysMatches 1 = .ok (.iconst 0, 1) := by decide +kernel
theorem dX10_laysMatches_2 : decode cX10_laysMatches 2 = .ok (.putfield 277, 3) := by decide +kernel
theorem dX10_laysMatches_5 : decode cX10_laysMatches 5 = .ok (.iconst 0, 1) := by decide +kernel
theorem dX10_laysMatches_6 : decode cX10_laysMatches 6 = .ok (.istore_n 1, 1) := by decide +kernel
theorem dX10_laysMatches_7 : decode cX10_laysMatches 7 = .ok (.iload_n 1, 1) := by decide +kernel
theorem dX10_laysMatches_8 : decode cX10_laysMatches 8 = .ok (.aload_n 0, 1) := by decide +kernel
theorem dX10_laysMatches_9 : decode cX10_laysMatches 9 = .ok (.getfield 179, 3) := by decide +kernel
theorem dX10_laysMatches_12 : decode cX10_laysMatches 12 = .ok (.if_icmp .ge 108, 3) := by decide +kernel
theorem dX10_laysMatches_15 : decode cX10_laysMatches 15 = .ok (.iconst 0, 1) := by decide +kernel
theorem dX10_laysMatches_16 : decode cX10_laysMatches 16 = .ok (.istore_n 2, 1) := by decide +kernel
theorem dX10_laysMatches_17 : decode cX10_laysMatches 17 = .ok (.iload_n 2, 1) := by decide +kernel
theorem dX10_laysMatches_18 : decode cX10_laysMatches 18 = .ok (.aload_n 0, 1) := by decide +kernel
theorem dX10_laysMatches_19 : decode cX10_laysMatches 19 = .ok (.getfield 271, 3) := by decide +kernel
theorem dX10_laysMatches_22 : decode cX10_laysMatches 22 = .ok (.if_icmp .ge 92, 3) := by decide +kernel
theorem dX10_laysMatches_25 : decode cX10_laysMatches 25 = .ok (.aload_n 0, 1) := by decide +kernel
theorem dX10_laysMatches_26 : decode cX10_laysMatches 26 = .ok (.getfield 94, 3) := by decide +kernel
theorem dX10_laysMatches_29 : decode cX10_laysMatches 29 = .ok (.bipush 100, 2) := by decide +kernel
theorem dX10_laysMatches_31 : decode cX10_laysMatches 31 = .ok (.iload_n 2, 1) := by decide +kernel
theorem dX10_laysMatches_32 : decode cX10_laysMatches 32 = .ok (.imul, 1) := by decide +kernel
theorem dX10_laysMatches_33 : decode cX10_laysMatches 33 = .ok (.iload_n 1, 1) := by decide +kernel
theorem dX10_laysMatches_34 : decode cX10_laysMatches 34 = .ok (.iadd, 1) := by decide +kernel
theorem dX10_laysMatches_35 : decode cX10_laysMatches 35 = .ok (.aload_n 0, 1) := by decide +kernel
theorem dX10_laysMatches_36 : decode cX10_laysMatches 36 = .ok (.iload_n 2, 1) := by decide +kernel
theorem dX10_laysMatches_37 : decode cX10_laysMatches 37 = .ok (.iload_n 1, 1) := by decide +kernel
theorem dX10_laysMatches_38 : decode cX10_laysMatches 38 = .ok (.invokevirtual 280, 3) := by decide +kernel
theorem dX10_laysMatches_41 : decode cX10_laysMatches 41 = .ok (.bastore, 1) := by decide +kernel
theorem dX10_laysMatches_42 : decode cX10_laysMatches 42 = .ok (.aload_n 0, 1) := by decide +kernel
theorem dX10_laysMatches_43 : decode cX10_laysMatches 43 = .ok (.getfield 94, 3) := by decide +kernel
theorem dX10_laysMatches_46 : decode cX10_laysMatches 46 = .ok (.bipush 100, 2) := by decide +kernel
theorem dX10_laysMatches_48 : decode cX10_laysMatches 48 = .ok (.iload_n 2, 1) := by decide +kernel
theorem dX10_laysMatches_49 : decode cX10_laysMatches 49 = .ok (.imul, 1) := by decide +kernel
theorem dX10_laysMatches_50 : decode cX10_laysMatches 50 = .ok (.iload_n 1, 1) := by decide +kernel
theorem dX10_laysMatches_51 : decode cX10_laysMatches 51 = .ok (.iadd, 1) := by decide +kernel
theorem dX10_laysMatches_52 : decode cX10_laysMatches 52 = .ok (.baload, 1) := by decide +kernel
theorem dX10_laysMatches_53 : decode cX10_laysMatches 53 = .ok (.ifCond .ne 6, 3) := by decide +kernel
theorem dX10_laysMatches_56 : decode cX10_laysMatches 56 = .ok (.goto 52, 3) := by decide +kernel
theorem dX10_laysMatches_59 : decode cX10_laysMatches 59 = .ok (.aload_n 0, 1) := by decide +kernel
theorem dX10_laysMatches_60 : decode cX10_laysMatches 60 = .ok (.getfield 85, 3) := by decide +kernel
theorem dX10_laysMatches_63 : decode cX10_laysMatches 63 = .ok (.aload_n 0, 1) := by decide +kernel
theorem dX10_laysMatches_64 : decode cX10_laysMatches 64 = .ok (.getfield 277, 3) := by decide +kernel
theorem dX10_laysMatches_67 : decode cX10_laysMatches 67 = .ok (.iload_n 2, 1) := by decide +kernel
theorem dX10_laysMatches_68 : decode cX10_laysMatches 68 = .ok (.iastore, 1) := by decide +kernel
theorem dX10_laysMatches_69 : decode cX10_laysMatches 69 = .ok (.aload_n 0, 1) := by decide +kernel
theorem dX10_laysMatches_70 : decode cX10_laysMatches 70 = .ok (.getfield 88, 3) := by decide +kernel
theorem dX10_laysMatches_73 : decode cX10_laysMatches 73 = .ok (.aload_n 0, 1) := by decide +kernel
theorem dX10_laysMatches_74 : decode cX10_laysMatches 74 = .ok (.getfield 277, 3) := by decide +kernel
theorem dX10_laysMatches_77 : decode cX10_laysMatches 77 = .ok (.iload_n 1, 1) := by decide +kernel
theorem dX10_laysMatches_78 : decode cX10_laysMatches 78 = .ok (.iastore, 1) := by decide +kernel
theorem dX10_laysMatches_79 : decode cX10_laysMatches 79 = .ok (.aload_n 0, 1) := by decide +kernel
theorem dX10_laysMatches_80 : decode cX10_laysMatches 80 = .ok (.getfield 91, 3) := by decide +kernel
theorem dX10_laysMatches_83 : decode cX10_laysMatches 83 = .ok (.aload_n 0, 1) := by decide +kernel
theorem dX10_laysMatches_84 : decode cX10_laysMatches 84 = .ok (.getfield 277, 3) := by decide +kernel
theorem dX10_laysMatches_87 : decode cX10_laysMatches 87 = .ok (.iload_n 1, 1) := by decide +kernel
theorem dX10_laysMatches_88 : decode cX10_laysMatches 88 = .ok (.aload_n 0, 1) := by decide +kernel
theorem dX10_laysMatches_89 : decode cX10_laysMatches 89 = .ok (.getfield 48, 3) := by decide +kernel
theorem dX10_laysMatches_92 : decode cX10_laysMatches 92 = .ok (.iload_n 2, 1) := by decide +kernel
theorem dX10_laysMatches_93 : decode cX10_laysMatches 93 = .ok (.iaload, 1) := by decide +kernel
theorem dX10_laysMatches_94 : decode cX10_laysMatches 94 = .ok (.iadd, 1) := by decide +kernel
theorem dX10_laysMatches_95 : decode cX10_laysMatches 95 = .ok (.iconst 1, 1) := by decide +kernel
theorem dX10_laysMatches_96 : decode cX10_laysMatches 96 = .ok (.isub, 1) := by decide +kernel
theorem dX10_laysMatches_97 : decode cX10_laysMatches 97 = .ok (.iastore, 1) := by decide +kernel
theorem dX10_laysMatches_98 : decode cX10_laysMatches 98 = .ok (.aload_n 0, 1) := by decide +kernel
theorem dX10_laysMatches_99 : decode cX10_laysMatches 99 = .ok (.dup, 1) := by decide +kernel
theorem dX10_laysMatches_100 : decode cX10_laysMatches 100 = .ok (.getfield 277, 3) := by decide +kernel
theorem dX10_laysMatches_103 : decode cX10_laysMatches 103 = .ok (.iconst 1, 1) := by decide +kernel
theorem dX10_laysMatches_104 : decode cX10_laysMatches 104 = .ok (.iadd, 1) := by decide +kernel
theorem dX10_laysMatches_105 : decode cX10_laysMatches 105 = .ok (.putfield 277, 3) := by decide +kernel
theorem dX10_laysMatches_108 : decode cX10_laysMatches 108 = .ok (.iinc 2 1, 3) := by decide +kernel
theorem dX10_laysMatches_111 : decode cX10_laysMatches 111 = .ok (.goto (-94), 3) := by decide +kernel
theorem dX10_laysMatches_114 : decode cX10_laysMatches 114 = .ok (.iinc 1 1, 3) := by decide +kernel
theorem dX10_laysMatches_117 : decode cX10_laysMatches 117 = .ok (.goto (-110), 3) := by decide +kernel
theorem dX10_laysMatches_120 : decode cX10_laysMatches 120 = .ok (.aload_n 0, 1) := by decide +kernel
theorem dX10_laysMatches_121 : decode cX10_laysMatches 121 = .ok (.iconst 0, 1) := by decide +kernel
theorem dX10_laysMatches_122 : decode cX10_laysMatches 122 = .ok (.putfield 283, 3) := by decide +kernel
theorem dX10_laysMatches_125 : decode cX10_laysMatches 125 = .ok (.aload_n 0, 1) := by decide +kernel
theorem dX10_laysMatches_126 : decode cX10_laysMatches 126 = .ok (.iconst 0, 1) := by decide +kernel
theorem dX10_laysMatches_127 : decode cX10_laysMatches 127 = .ok (.putfield 287, 3) := by decide +kernel
theorem dX10_laysMatches_130 : decode cX10_laysMatches 130 = .ok (.return_, 1) := by decide +kernel
theorem dX10_page_0 : decode cX10_page 0 = .ok (.aload_n 0, 1) := by decide +kernel
theorem dX10_page_1 : decode cX10_page 1 = .ok (.iconst 0, 1) := by decide +kernel
theorem dX10_page_2 : decode cX10_page 2 = .ok (.putfield 142, 3) := by decide +kernel
theorem dX10_page_5 : decode cX10_page 5 = .ok (.aload_n 0, 1) := by decide +kernel
theorem dX10_page_6 : decode cX10_page 6 = .ok (.aload_n 0, 1) := by decide +kernel
theorem dX10_page_7 : decode cX10_page 7 = .ok (.getfield 145, 3) := by decide +kernel
theorem dX10_page_10 : decode cX10_page 10 = .ok (.putfield 148, 3) := by decide +kernel
theorem dX10_page_13 : decode cX10_page 13 = .ok (.aload_n 0, 1) := by decide +kernel
theorem dX10_page_14 : decode cX10_page 14 = .ok (.iconst 0, 1) := by decide +kernel
theorem dX10_page_15 : decode cX10_page 15 = .ok (.putfield 145, 3) := by decide +kernel
theorem dX10_page_18 : decode cX10_page 18 = .ok (.iconst 0, 1) := by decide +kernel
theorem dX10_page_19 : decode cX10_page 19 = .ok (.istore_n 1, 1) := by decide +kernel
theorem dX10_page_20 : decode cX10_page 20 = .ok (.iload_n 1, 1) := by decide +kernel
theorem dX10_page_21 : decode cX10_page 21 = .ok (.aload_n 0, 1) := by decide +kernel
theorem dX10_page_22 : decode cX10_page 22 = .ok (.getfield 148, 3) := by decide +kernel
theorem dX10_page_25 : decode cX10_page 25 = .ok (.if_icmp .ge 25, 3) := by decide +kernel
theorem dX10_page_28 : decode cX10_page 28 = .ok (.aload_n 0, 1) := by decide +kernel
theorem dX10_page_29 : decode cX10_page 29 = .ok (.getfield 17, 3) := by decide +kernel
theorem dX10_page_32 : decode cX10_page 32 = .ok (.iload_n 1, 1) := by decide +kernel
theorem dX10_page_33 : decode cX10_page 33 = .ok (.aload_n 0, 1) := by decide +kernel
theorem dX10_page_34 : decode cX10_page 34 = .ok (.getfield 9, 3) := by decide +kernel
theorem dX10_page_37 : decode cX10_page 37 = .ok (.iload_n 1, 1) := by decide +kernel
theorem dX10_page_38 : decode cX10_page 38 = .ok (.baload, 1) := by decide +kernel
theorem dX10_page_39 : decode cX10_page 39 = .ok (.sipush 255, 3) := by decide +kernel
theorem dX10_page_42 : decode cX10_page 42 = .ok (.iand, 1) := by decide +kernel
theorem dX10_page_43 : decode cX10_page 43 = .ok (.iastore, 1) := by decide +kernel
theorem dX10_page_44 : decode cX10_page 44 = .ok (.iinc 1 1, 3) := by decide +kernel
theorem dX10_page_47 : decode cX10_page 47 = .ok (.goto (-27), 3) := by decide +kernel
theorem dX10_page_50 : decode cX10_page 50 = .ok (.aload_n 0, 1) := by decide +kernel
theorem dX10_page_51 : decode cX10_page 51 = .ok (.invokevirtual 209, 3) := by decide +kernel
theorem dX10_page_54 : decode cX10_page 54 = .ok (.aload_n 0, 1) := by decide +kernel
theorem dX10_page_55 : decode cX10_page 55 = .ok (.invokevirtual 212, 3) := by decide +kernel
theorem dX10_page_58 : decode cX10_page 58 = .ok (.aload_n 0, 1) := by decide +kernel
theorem dX10_page_59 : decode cX10_page 59 = .ok (.invokevirtual 215, 3) := by decide +kernel
theorem dX10_page_62 : decode cX10_page 62 = .ok (.aload_n 0, 1) := by decide +kernel
theorem dX10_page_63 : decode cX10_page 63 = .ok (.invokevirtual 218, 3) := by decide +kernel
theorem dX10_page_66 : decode cX10_page 66 = .ok (.aload_n 0, 1) := by decide +kernel
theorem dX10_page_67 : decode cX10_page 67 = .ok (.iconst 0, 1) := by decide +kernel
theorem dX10_page_68 : decode cX10_page 68 = .ok (.putfield 221, 3) := by decide +kernel
theorem dX10_page_71 : decode cX10_page 71 = .ok (.aload_n 0, 1) := by decide +kernel
theorem dX10_page_72 : decode cX10_page 72 = .ok (.getfield 203, 3) := by decide +kernel
theorem dX10_page_75 : decode cX10_page 75 = .ok (.ireturn, 1) := by decide +kernel
theorem dX10_isAt_0 : decode cX10_isAt 0 = .ok (.aload_n 0, 1) := by decide +kernel
theorem dX10_isAt_1 : decode cX10_isAt 1 = .ok (.getfield 224, 3) := by decide +kernel
theorem dX10_isAt_4 : decode cX10_isAt 4 = .ok (.aload_n 0, 1) := by decide +kernel
theorem dX10_isAt_5 : decode cX10_isAt 5 = .ok (.getfield 227, 3) := by decide +kernel
theorem dX10_isAt_8 : decode cX10_isAt 8 = .ok (.if_icmp .ge 33, 3) := by decide +kernel
theorem dX10_isAt_11 : decode cX10_isAt 11 = .ok (.aload_n 0, 1) := by decide +kernel
theorem dX10_isAt_12 : decode cX10_isAt 12 = .ok (.getfield 9, 3) := by decide +kernel
theorem dX10_isAt_15 : decode cX10_isAt 15 = .ok (.aload_n 0, 1) := by decide +kernel
theorem dX10_isAt_16 : decode cX10_isAt 16 = .ok (.getfield 224, 3) := by decide +kernel
theorem dX10_isAt_19 : decode cX10_isAt 19 = .ok (.baload, 1) := by decide +kernel
theorem dX10_isAt_20 : decode cX10_isAt 20 = .ok (.iload_n 1, 1) := by decide +kernel
theorem dX10_isAt_21 : decode cX10_isAt 21 = .ok (.if_icmp .lt 20, 3) := by decide +kernel
theorem dX10_isAt_24 : decode cX10_isAt 24 = .ok (.aload_n 0, 1) := by decide +kernel
theorem dX10_isAt_25 : decode cX10_isAt 25 = .ok (.getfield 9, 3) := by decide +kernel
theorem dX10_isAt_28 : decode cX10_isAt 28 = .ok (.aload_n 0, 1) := by decide +kernel
theorem dX10_isAt_29 : decode cX10_isAt 29 = .ok (.getfield 224, 3) := by decide +kernel
theorem dX10_isAt_32 : decode cX10_isAt 32 = .ok (.baload, 1) := by decide +kernel
theorem dX10_isAt_33 : decode cX10_isAt 33 = .ok (.iload_n 2, 1) := by decide +kernel
theorem dX10_isAt_34 : decode cX10_isAt 34 = .ok (.if_icmp .gt 7, 3) := by decide +kernel
theorem dX10_isAt_37 : decode cX10_isAt 37 = .ok (.iconst 1, 1) := by decide +kernel
theorem dX10_isAt_38 : decode cX10_isAt 38 = .ok (.goto 4, 3) := by decide +kernel
theorem dX10_isAt_41 : decode cX10_isAt 41 = .ok (.iconst 0, 1) := by decide +kernel
theorem dX10_isAt_42 : decode cX10_isAt 42 = .ok (.ireturn, 1) := by decide +kernel
theorem dX10_blanks_0 : decode cX10_blanks 0 = .ok (.aload_n 0, 1) := by decide +kernel
theorem dX10_blanks_1 : decode cX10_blanks 1 = .ok (.bipush 32, 2) := by decide +kernel
theorem dX10_blanks_3 : decode cX10_blanks 3 = .ok (.bipush 32, 2) := by decide +kernel
theorem dX10_blanks_5 : decode cX10_blanks 5 = .ok (.invokevirtual 230, 3) := by decide +kernel
theorem dX10_blanks_8 : decode cX10_blanks 8 = .ok (.ifCond .ne 14, 3) := by decide +kernel
theorem dX10_blanks_11 : decode cX10_blanks 11 = .ok (.aload_n 0, 1) := by decide +kernel
theorem dX10_blanks_12 : decode cX10_blanks 12 = .ok (.bipush 9, 2) := by decide +kernel
theorem dX10_blanks_14 : decode cX10_blanks 14 = .ok (.bipush 10, 2) := by decide +kernel
theorem dX10_blanks_16 : decode cX10_blanks 16 = .ok (.invokevirtual 230, 3) := by decide +kernel
theorem dX10_blanks_19 : decode cX10_blanks 19 = .ok (.ifCond .eq 16, 3) := by decide +kernel
theorem dX10_blanks_22 : decode cX10_blanks 22 = .ok (.aload_n 0, 1) := by decide +kernel
theorem dX10_blanks_23 : decode cX10_blanks 23 = .ok (.dup, 1) := by decide +kernel
theorem dX10_blanks_24 : decode cX10_blanks 24 = .ok (.getfield 224, 3) := by decide +kernel
theorem dX10_blanks_27 : decode cX10_blanks 27 = .ok (.iconst 1, 1) := by decide +kernel
theorem dX10_blanks_28 : decode cX10_blanks 28 = .ok (.iadd, 1) := by decide +kernel
theorem dX10_blanks_29 : decode cX10_blanks 29 = .ok (.putfield 224, 3) := by decide +kernel
theorem dX10_blanks_32 : decode cX10_blanks 32 = .ok (.goto (-32), 3) := by decide +kernel
theorem dX10_blanks_35 : decode cX10_blanks 35 = .ok (.aload_n 0, 1) := by decide +kernel
theorem dX10_blanks_36 : decode cX10_blanks 36 = .ok (.aload_n 0, 1) := by decide +kernel
theorem dX10_blanks_37 : decode cX10_blanks 37 = .ok (.getfield 224, 3) := by decide +kernel
theorem dX10_blanks_40 : decode cX10_blanks 40 = .ok (.putfield 233, 3) := by decide +kernel
theorem dX10_blanks_43 : decode cX10_blanks 43 = .ok (.return_, 1) := by decide +kernel
theorem dX10_letters_0 : decode cX10_letters 0 = .ok (.aload_n 0, 1) := by decide +kernel
theorem dX10_letters_1 : decode cX10_letters 1 = .ok (.invokevirtual 236, 3) := by decide +kernel
theorem dX10_letters_4 : decode cX10_letters 4 = .ok (.aload_n 0, 1) := by decide +kernel
theorem dX10_letters_5 : decode cX10_letters 5 = .ok (.bipush 97, 2) := by decide +kernel
theorem dX10_letters_7 : decode cX10_letters 7 = .ok (.bipush 122, 2) := by decide +kernel
theorem dX10_letters_9 : decode cX10_letters 9 = .ok (.invokevirtual 230, 3) := by decide +kernel
theorem dX10_letters_12 : decode cX10_letters 12 = .ok (.ifCond .eq 16, 3) := by decide +kernel
theorem dX10_letters_15 : decode cX10_letters 15 = .ok (.aload_n 0, 1) := by decide +kernel
theorem dX10_letters_16 : decode cX10_letters 16 = .ok (.dup, 1) := by decide +kernel
theorem dX10_letters_17 : decode cX10_letters 17 = .ok (.getfield 224, 3) := by decide +kernel
theorem dX10_letters_20 : decode cX10_letters 20 = .ok (.iconst 1, 1) := by decide +kernel
theorem dX10_letters_21 : decode cX10_letters 21 = .ok (.iadd, 1) := by decide +kernel
theorem dX10_letters_22 : decode cX10_letters 22 = .ok (.putfield 224, 3) := by decide +kernel
theorem dX10_letters_25 : decode cX10_letters 25 = .ok (.goto (-21), 3) := by decide +kernel
theorem dX10_letters_28 : decode cX10_letters 28 = .ok (.return_, 1) := by decide +kernel
theorem dX10_isWord_0 : decode cX10_isWord 0 = .ok (.aload_n 0, 1) := by decide +kernel
theorem dX10_isWord_1 : decode cX10_isWord 1 = .ok (.getfield 224, 3) := by decide +kernel
theorem dX10_isWord_4 : decode cX10_isWord 4 = .ok (.aload_n 0, 1) := by decide +kernel
theorem dX10_isWord_5 : decode cX10_isWord 5 = .ok (.getfield 233, 3) := by decide +kernel
theorem dX10_isWord_8 : decode cX10_isWord 8 = .ok (.isub, 1) := by decide +kernel
theorem dX10_isWord_9 : decode cX10_isWord 9 = .ok (.aload_n 1, 1) := by decide +kernel
theorem dX10_isWord_10 : decode cX10_isWord 10 = .ok (.invokevirtual 239, 3) := by decide +kernel
theorem dX10_isWord_13 : decode cX10_isWord 13 = .ok (.if_icmp .ne 7, 3) := by decide +kernel
theorem dX10_isWord_16 : decode cX10_isWord 16 = .ok (.iconst 1, 1) := by decide +kernel
theorem dX10_isWord_17 : decode cX10_isWord 17 = .ok (.goto 4, 3) := by decide +kernel
theorem dX10_isWord_20 : decode cX10_isWord 20 = .ok (.iconst 0, 1) := by decide +kernel
theorem dX10_isWord_21 : decode cX10_isWord 21 = .ok (.istore_n 2, 1) := by decide +kernel
theorem dX10_isWord_22 : decode cX10_isWord 22 = .ok (.iconst 0, 1) := by decide +kernel
theorem dX10_isWord_23 : decode cX10_isWord 23 = .ok (.istore_n 3, 1) := by decide +kernel
theorem dX10_isWord_24 : decode cX10_isWord 24 = .ok (.iload_n 2, 1) := by decide +kernel
theorem dX10_isWord_25 : decode cX10_isWord 25 = .ok (.ifCond .eq 42, 3) := by decide +kernel
theorem dX10_isWord_28 : decode cX10_isWord 28 = .ok (.iload_n 3, 1) := by decide +kernel
theorem dX10_isWord_29 : decode cX10_isWord 29 = .ok (.aload_n 1, 1) := by decide +kernel
theorem dX10_isWord_30 : decode cX10_isWord 30 = .ok (.invokevirtual 239, 3) := by decide +kernel
theorem dX10_isWord_33 : decode cX10_isWord 33 = .ok (.if_icmp .ge 34, 3) := by decide +kernel
theorem dX10_isWord_36 : decode cX10_isWord 36 = .ok (.aload_n 0, 1) := by decide +kernel
theorem dX10_isWord_37 : decode cX10_isWord 37 = .ok (.getfield 9, 3) := by decide +kernel
theorem dX10_isWord_40 : decode cX10_isWord 40 = .ok (.aload_n 0, 1) := by decide +kernel
theorem dX10_isWord_41 : decode cX10_isWord 41 = .ok (.getfield 233, 3) := by decide +kernel
theorem dX10_isWord_44 : decode cX10_isWord 44 = .ok (.iload_n 3, 1) := by decide +kernel
theorem dX10_isWord_45 : decode cX10_isWord 45 = .ok (.iadd, 1) := by decide +kernel
theorem dX10_isWord_46 : decode cX10_isWord 46 = .ok (.baload, 1) := by decide +kernel
theorem dX10_isWord_47 : decode cX10_isWord 47 = .ok (.aload_n 1, 1) := by decide +kernel
theorem dX10_isWord_48 : decode cX10_isWord 48 = .ok (.iload_n 3, 1) := by decide +kernel
theorem dX10_isWord_49 : decode cX10_isWord 49 = .ok (.invokevirtual 244, 3) := by decide +kernel
theorem dX10_isWord_52 : decode cX10_isWord 52 = .ok (.if_icmp .ne 7, 3) := by decide +kernel
theorem dX10_isWord_55 : decode cX10_isWord 55 = .ok (.iconst 1, 1) := by decide +kernel
theorem dX10_isWord_56 : decode cX10_isWord 56 = .ok (.goto 4, 3) := by decide +kernel
theorem dX10_isWord_59 : decode cX10_isWord 59 = .ok (.iconst 0, 1) := by decide +kernel
theorem dX10_isWord_60 : decode cX10_isWord 60 = .ok (.istore_n 2, 1) := by decide +kernel
theorem dX10_isWord_61 : decode cX10_isWord 61 = .ok (.iinc 3 1, 3) := by decide +kernel
theorem dX10_isWord_64 : decode cX10_isWord 64 = .ok (.goto (-40), 3) := by decide +kernel
theorem dX10_isWord_67 : decode cX10_isWord 67 = .ok (.iload_n 2, 1) := by decide +kernel
theorem dX10_isWord_68 : decode cX10_isWord 68 = .ok (.ireturn, 1) := by decide +kernel
theorem dX10_readsWeight_0 : decode cX10_readsWeight 0 = .ok (.aload_n 0, 1) := by decide +kernel
theorem dX10_readsWeight_1 : decode cX10_readsWeight 1 = .ok (.invokevirtual 236, 3) := by decide +kernel
theorem dX10_readsWeight_4 : decode cX10_readsWeight 4 = .ok (.iconst 0, 1) := by decide +kernel
theorem dX10_readsWeight_5 : decode cX10_readsWeight 5 = .ok (.istore_n 1, 1) := by decide +kernel
theorem dX10_readsWeight_6 : decode cX10_readsWeight 6 = .ok (.aload_n 0, 1) := by decide +kernel
theorem dX10_readsWeight_7 : decode cX10_readsWeight 7 = .ok (.bipush 48, 2) := by decide +kernel
theorem dX10_readsWeight_9 : decode cX10_readsWeight 9 = .ok (.bipush 57, 2) := by decide +kernel
theorem dX10_readsWeight_11 : decode cX10_readsWeight 11 = .ok (.invokevirtual 230, 3) := by decide +kernel
theorem dX10_readsWeight_14 : decode cX10_readsWeight 14 = .ok (.ifCond .eq 29, 3) := by decide +kernel
theorem dX10_readsWeight_17 : decode cX10_readsWeight 17 = .ok (.aload_n 0, 1) := by decide +kernel
theorem dX10_readsWeight_18 : decode cX10_readsWeight 18 = .ok (.getfield 9, 3) := by decide +kernel
theorem dX10_readsWeight_21 : decode cX10_readsWeight 21 = .ok (.aload_n 0, 1) := by decide +kernel
theorem dX10_readsWeight_22 : decode cX10_readsWeight 22 = .ok (.getfield 224, 3) := by decide +kernel
theorem dX10_readsWeight_25 : decode cX10_readsWeight 25 = .ok (.baload, 1) := by decide +kernel
theorem dX10_readsWeight_26 : decode cX10_readsWeight 26 = .ok (.bipush 48, 2) := by decide +kernel
theorem dX10_readsWeight_28 : decode cX10_readsWeight 28 = .ok (.isub, 1) := by decide +kernel
theorem dX10_readsWeight_29 : decode cX10_readsWeight 29 = .ok (.istore_n 1, 1) := by decide +kernel
theorem dX10_readsWeight_30 : decode cX10_readsWeight 30 = .ok (.aload_n 0, 1) := by decide +kernel
theorem dX10_readsWeight_31 : decode cX10_readsWeight 31 = .ok (.dup, 1) := by decide +kernel
theorem dX10_readsWeight_32 : decode cX10_readsWeight 32 = .ok (.getfield 224, 3) := by decide +kernel
theorem dX10_readsWeight_35 : decode cX10_readsWeight 35 = .ok (.iconst 1, 1) := by decide +kernel
theorem dX10_readsWeight_36 : decode cX10_readsWeight 36 = .ok (.iadd, 1) := by decide +kernel
theorem dX10_readsWeight_37 : decode cX10_readsWeight 37 = .ok (.putfield 224, 3) := by decide +kernel
theorem dX10_readsWeight_40 : decode cX10_readsWeight 40 = .ok (.goto (-34), 3) := by decide +kernel
theorem dX10_readsWeight_43 : decode cX10_readsWeight 43 = .ok (.aload_n 0, 1) := by decide +kernel
theorem dX10_readsWeight_44 : decode cX10_readsWeight 44 = .ok (.getfield 63, 3) := by decide +kernel
theorem dX10_readsWeight_47 : decode cX10_readsWeight 47 = .ok (.aload_n 0, 1) := by decide +kernel
theorem dX10_readsWeight_48 : decode cX10_readsWeight 48 = .ok (.getfield 248, 3) := by decide +kernel
theorem dX10_readsWeight_51 : decode cX10_readsWeight 51 = .ok (.iload_n 1, 1) := by decide +kernel
theorem dX10_readsWeight_52 : decode cX10_readsWeight 52 = .ok (.iastore, 1) := by decide +kernel
theorem dX10_readsWeight_53 : decode cX10_readsWeight 53 = .ok (.aload_n 0, 1) := by decide +kernel
theorem dX10_readsWeight_54 : decode cX10_readsWeight 54 = .ok (.getfield 224, 3) := by decide +kernel
theorem dX10_readsWeight_57 : decode cX10_readsWeight 57 = .ok (.aload_n 0, 1) := by decide +kernel
theorem dX10_readsWeight_58 : decode cX10_readsWeight 58 = .ok (.getfield 233, 3) := by decide +kernel
theorem dX10_readsWeight_61 : decode cX10_readsWeight 61 = .ok (.isub, 1) := by decide +kernel
theorem dX10_readsWeight_62 : decode cX10_readsWeight 62 = .ok (.iconst 1, 1) := by decide +kernel
theorem dX10_readsWeight_63 : decode cX10_readsWeight 63 = .ok (.if_icmp .ne 11, 3) := by decide +kernel
theorem dX10_readsWeight_66 : decode cX10_readsWeight 66 = .ok (.iload_n 1, 1) := by decide +kernel
theorem dX10_readsWeight_67 : decode cX10_readsWeight 67 = .ok (.ifCond .le 7, 3) := by decide +kernel
theorem dX10_readsWeight_70 : decode cX10_readsWeight 70 = .ok (.iconst 1, 1) := by decide +kernel
theorem dX10_readsWeight_71 : decode cX10_readsWeight 71 = .ok (.goto 4, 3) := by decide +kernel
theorem dX10_readsWeight_74 : decode cX10_readsWeight 74 = .ok (.iconst 0, 1) := by decide +kernel
theorem dX10_readsWeight_75 : decode cX10_readsWeight 75 = .ok (.ireturn, 1) := by decide +kernel
theorem dX10_keepsTerm_0 : decode cX10_keepsTerm 0 = .ok (.aload_n 0, 1) := by decide +kernel
theorem dX10_keepsTerm_1 : decode cX10_keepsTerm 1 = .ok (.getfield 224, 3) := by decide +kernel
theorem dX10_keepsTerm_4 : decode cX10_keepsTerm 4 = .ok (.aload_n 0, 1) := by decide +kernel
theorem dX10_keepsTerm_5 : decode cX10_keepsTerm 5 = .ok (.getfield 233, 3) := by decide +kernel
theorem dX10_keepsTerm_8 : decode cX10_keepsTerm 8 = .ok (.isub, 1) := by decide +kernel
theorem dX10_keepsTerm_9 : decode cX10_keepsTerm 9 = .ok (.istore_n 1, 1) := by decide +kernel
theorem dX10_keepsTerm_10 : decode cX10_keepsTerm 10 = .ok (.iload_n 1, 1) := by decide +kernel
theorem dX10_keepsTerm_11 : decode cX10_keepsTerm 11 = .ok (.iconst 1, 1) := by decide +kernel
theorem dX10_keepsTerm_12 : decode cX10_keepsTerm 12 = .ok (.bipush 12, 2) := by decide +kernel
theorem dX10_keepsTerm_14 : decode cX10_keepsTerm 14 = .ok (.invokestatic 151, 3) := by decide +kernel
theorem dX10_keepsTerm_17 : decode cX10_keepsTerm 17 = .ok (.ifCond .eq 16, 3) := by decide +kernel
theorem dX10_keepsTerm_20 : decode cX10_keepsTerm 20 = .ok (.aload_n 0, 1) := by decide +kernel
theorem dX10_keepsTerm_21 : decode cX10_keepsTerm 21 = .ok (.getfield 66, 3) := by decide +kernel
theorem dX10_keepsTerm_24 : decode cX10_keepsTerm 24 = .ok (.aload_n 0, 1) := by decide +kernel
theorem dX10_keepsTerm_25 : decode cX10_keepsTerm 25 = .ok (.getfield 248, 3) := by decide +kernel
theorem dX10_keepsTerm_28 : decode cX10_keepsTerm 28 = .ok (.iaload, 1) := by decide +kernel
theorem dX10_keepsTerm_29 : decode cX10_keepsTerm 29 = .ok (.iconst 4, 1) := by decide +kernel
theorem dX10_keepsTerm_30 : decode cX10_keepsTerm 30 = .ok (.if_icmp .ne 5, 3) := by decide +kernel
theorem dX10_keepsTerm_33 : decode cX10_keepsTerm 33 = .ok (.iconst 0, 1) := by decide +kernel
theorem dX10_keepsTerm_34 : decode cX10_keepsTerm 34 = .ok (.ireturn, 1) := by decide +kernel
theorem dX10_keepsTerm_35 : decode cX10_keepsTerm 35 = .ok (.iconst 4, 1) := by decide +kernel
theorem dX10_keepsTerm_36 : decode cX10_keepsTerm 36 = .ok (.aload_n 0, 1) := by decide +kernel
theorem dX10_keepsTerm_37 : decode cX10_keepsTerm 37 = .ok (.getfield 248, 3) := by decide +kernel
theorem dX10_keepsTerm_40 : decode cX10_keepsTerm 40 = .ok (.imul, 1) := by decide +kernel
theorem dX10_keepsTerm_41 : decode cX10_keepsTerm 41 = .ok (.aload_n 0, 1) := by decide +kernel
theorem dX10_keepsTerm_42 : decode cX10_keepsTerm 42 = .ok (.getfield 66, 3) := by decide +kernel
theorem dX10_keepsTerm_45 : decode cX10_keepsTerm 45 = .ok (.aload_n 0, 1) := by decide +kernel
theorem dX10_keepsTerm_46 : decode cX10_keepsTerm 46 = .ok (.getfield 248, 3) := by decide +kernel
theorem dX10_keepsTerm_49 : decode cX10_keepsTerm 49 = .ok (.iaload, 1) := by decide +kernel
theorem dX10_keepsTerm_50 : decode cX10_keepsTerm 50 = .ok (.iadd, 1) := by decide +kernel
theorem dX10_keepsTerm_51 : decode cX10_keepsTerm 51 = .ok (.istore_n 2, 1) := by decide +kernel
theorem dX10_keepsTerm_52 : decode cX10_keepsTerm 52 = .ok (.aload_n 0, 1) := by decide +kernel
theorem dX10_keepsTerm_53 : decode cX10_keepsTerm 53 = .ok (.getfield 69, 3) := by decide +kernel
theorem dX10_keepsTerm_56 : decode cX10_keepsTerm 56 = .ok (.iload_n 2, 1) := by decide +kernel
theorem dX10_keepsTerm_57 : decode cX10_keepsTerm 57 = .ok (.iload_n 1, 1) := by decide +kernel
theorem dX10_keepsTerm_58 : decode cX10_keepsTerm 58 = .ok (.iastore, 1) := by decide +kernel
theorem dX10_keepsTerm_59 : decode cX10_keepsTerm 59 = .ok (.iconst 0, 1) := by decide +kernel
theorem dX10_keepsTerm_60 : decode cX10_keepsTerm 60 = .ok (.istore_n 3, 1) := by decide +kernel
theorem dX10_keepsTerm_61 : decode cX10_keepsTerm 61 = .ok (.iload_n 3, 1) := by decide +kernel
theorem dX10_keepsTerm_62 : decode cX10_keepsTerm 62 = .ok (.iload_n 1, 1) := by decide +kernel
theorem dX10_keepsTerm_63 : decode cX10_keepsTerm 63 = .ok (.if_icmp .ge 31, 3) := by decide +kernel
theorem dX10_keepsTerm_66 : decode cX10_keepsTerm 66 = .ok (.aload_n 0, 1) := by decide +kernel
theorem dX10_keepsTerm_67 : decode cX10_keepsTerm 67 = .ok (.getfield 78, 3) := by decide +kernel
theorem dX10_keepsTerm_70 : decode cX10_keepsTerm 70 = .ok (.bipush 12, 2) := by decide +kernel
theorem dX10_keepsTerm_72 : decode cX10_keepsTerm 72 = .ok (.iload_n 2, 1) := by decide +kernel
theorem dX10_keepsTerm_73 : decode cX10_keepsTerm 73 = .ok (.imul, 1) := by decide +kernel
theorem dX10_keepsTerm_74 : decode cX10_keepsTerm 74 = .ok (.iload_n 3, 1) := by decide +kernel
theorem dX10_keepsTerm_75 : decode cX10_keepsTerm 75 = .ok (.iadd, 1) := by decide +kernel
theorem dX10_keepsTerm_76 : decode cX10_keepsTerm 76 = .ok (.aload_n 0, 1) := by decide +kernel
theorem dX10_keepsTerm_77 : decode cX10_keepsTerm 77 = .ok (.getfield 9, 3) := by decide +kernel
theorem dX10_keepsTerm_80 : decode cX10_keepsTerm 80 = .ok (.aload_n 0, 1) := by decide +kernel
theorem dX10_keepsTerm_81 : decode cX10_keepsTerm 81 = .ok (.getfield 233, 3) := by decide +kernel
theorem dX10_keepsTerm_84 : decode cX10_keepsTerm 84 = .ok (.iload_n 3, 1) := by decide +kernel
theorem dX10_keepsTerm_85 : decode cX10_keepsTerm 85 = .ok (.iadd, 1) := by decide +kernel
theorem dX10_keepsTerm_86 : decode cX10_keepsTerm 86 = .ok (.baload, 1) := by decide +kernel
theorem dX10_keepsTerm_87 : decode cX10_keepsTerm 87 = .ok (.bastore, 1) := by decide +kernel
theorem dX10_keepsTerm_88 : decode cX10_keepsTerm 88 = .ok (.iinc 3 1, 3) := by decide +kernel
theorem dX10_keepsTerm_91 : decode cX10_keepsTerm 91 = .ok (.goto (-30), 3) := by decide +kernel
theorem dX10_keepsTerm_94 : decode cX10_keepsTerm 94 = .ok (.aload_n 0, 1) := by decide +kernel
theorem dX10_keepsTerm_95 : decode cX10_keepsTerm 95 = .ok (.getfield 75, 3) := by decide +kernel
theorem dX10_keepsTerm_98 : decode cX10_keepsTerm 98 = .ok (.iload_n 2, 1) := by decide +kernel
theorem dX10_keepsTerm_99 : decode cX10_keepsTerm 99 = .ok (.aload_n 0, 1) := by decide +kernel
theorem dX10_keepsTerm_100 : decode cX10_keepsTerm 100 = .ok (.bipush 42, 2) := by decide +kernel
theorem dX10_keepsTerm_102 : decode cX10_keepsTerm 102 = .ok (.bipush 42, 2) := by decide +kernel
theorem dX10_keepsTerm_104 : decode cX10_keepsTerm 104 = .ok (.invokevirtual 230, 3) := by decide +kernel
theorem dX10_keepsTerm_107 : decode cX10_keepsTerm 107 = .ok (.bastore, 1) := by decide +kernel
theorem dX10_keepsTerm_108 : decode cX10_keepsTerm 108 = .ok (.aload_n 0, 1) := by decide +kernel
theorem dX10_keepsTerm_109 : decode cX10_keepsTerm 109 = .ok (.dup, 1) := by decide +kernel
theorem dX10_keepsTerm_110 : decode cX10_keepsTerm 110 = .ok (.getfield 224, 3) := by decide +kernel
theorem dX10_keepsTerm_113 : decode cX10_keepsTerm 113 = .ok (.aload_n 0, 1) := by decide +kernel
theorem dX10_keepsTerm_114 : decode cX10_keepsTerm 114 = .ok (.getfield 75, 3) := by decide +kernel
theorem dX10_keepsTerm_117 : decode cX10_keepsTerm 117 = .ok (.iload_n 2, 1) := by decide +kernel
theorem dX10_keepsTerm_118 : decode cX10_keepsTerm 118 = .ok (.baload, 1) := by decide +kernel
theorem dX10_keepsTerm_119 : decode cX10_keepsTerm 119 = .ok (.ifCond .eq 7, 3) := by decide +kernel
theorem dX10_keepsTerm_122 : decode cX10_keepsTerm 122 = .ok (.iconst 1, 1) := by decide +kernel
theorem dX10_keepsTerm_123 : decode cX10_keepsTerm 123 = .ok (.goto 4, 3) := by decide +kernel
theorem dX10_keepsTerm_126 : decode cX10_keepsTerm 126 = .ok (.iconst 0, 1) := by decide +kernel
theorem dX10_keepsTerm_127 : decode cX10_keepsTerm 127 = .ok (.iadd, 1) := by decide +kernel
theorem dX10_keepsTerm_128 : decode cX10_keepsTerm 128 = .ok (.putfield 224, 3) := by decide +kernel
theorem dX10_keepsTerm_131 : decode cX10_keepsTerm 131 = .ok (.aload_n 0, 1) := by decide +kernel
theorem dX10_keepsTerm_132 : decode cX10_keepsTerm 132 = .ok (.getfield 66, 3) := by decide +kernel
theorem dX10_keepsTerm_135 : decode cX10_keepsTerm 135 = .ok (.aload_n 0, 1) := by decide +kernel
theorem dX10_keepsTerm_136 : decode cX10_keepsTerm 136 = .ok (.getfield 248, 3) := by decide +kernel
theorem dX10_keepsTerm_139 : decode cX10_keepsTerm 139 = .ok (.dup2, 1) := by decide +kernel
theorem dX10_keepsTerm_140 : decode cX10_keepsTerm 140 = .ok (.iaload, 1) := by decide +kernel
theorem dX10_keepsTerm_141 : decode cX10_keepsTerm 141 = .ok (.iconst 1, 1) := by decide +kernel
theorem dX10_keepsTerm_142 : decode cX10_keepsTerm 142 = .ok (.iadd, 1) := by decide +kernel
theorem dX10_keepsTerm_143 : decode cX10_keepsTerm 143 = .ok (.iastore, 1) := by decide +kernel
theorem dX10_keepsTerm_144 : decode cX10_keepsTerm 144 = .ok (.iconst 1, 1) := by decide +kernel
theorem dX10_keepsTerm_145 : decode cX10_keepsTerm 145 = .ok (.ireturn, 1) := by decide +kernel
theorem dX10_readsItem_0 : decode cX10_readsItem 0 = .ok (.aload_n 0, 1) := by decide +kernel
theorem dX10_readsItem_1 : decode cX10_readsItem 1 = .ok (.invokevirtual 251, 3) := by decide +kernel
theorem dX10_readsItem_4 : decode cX10_readsItem 4 = .ok (.aload_n 0, 1) := by decide +kernel
theorem dX10_readsItem_5 : decode cX10_readsItem 5 = .ok (.ldc 254, 2) := by decide +kernel
theorem dX10_readsItem_7 : decode cX10_readsItem 7 = .ok (.invokevirtual 256, 3) := by decide +kernel
theorem dX10_readsItem_10 : decode cX10_readsItem 10 = .ok (.ifCond .eq 19, 3) := by decide +kernel
theorem dX10_readsItem_13 : decode cX10_readsItem 13 = .ok (.aload_n 0, 1) := by decide +kernel
theorem dX10_readsItem_14 : decode cX10_readsItem 14 = .ok (.getfield 248, 3) := by decide +kernel
theorem dX10_readsItem_17 : decode cX10_readsItem 17 = .ok (.bipush 8, 2) := by decide +kernel
theorem dX10_readsItem_19 : decode cX10_readsItem 19 = .ok (.if_icmp .eq 10, 3) := by decide +kernel
theorem dX10_readsItem_22 : decode cX10_readsItem 22 = .ok (.aload_n 0, 1) := by decide +kernel
theorem dX10_readsItem_23 : decode cX10_readsItem 23 = .ok (.invokevirtual 260, 3) := by decide +kernel
theorem dX10_readsItem_26 : decode cX10_readsItem 26 = .ok (.ifCond .ne 5, 3) := by decide +kernel
theorem dX10_readsItem_29 : decode cX10_readsItem 29 = .ok (.iconst 0, 1) := by decide +kernel
theorem dX10_readsItem_30 : decode cX10_readsItem 30 = .ok (.ireturn, 1) := by decide +kernel
theorem dX10_readsItem_31 : decode cX10_readsItem 31 = .ok (.aload_n 0, 1) := by decide +kernel
theorem dX10_readsItem_32 : decode cX10_readsItem 32 = .ok (.getfield 66, 3) := by decide +kernel
theorem dX10_readsItem_35 : decode cX10_readsItem 35 = .ok (.aload_n 0, 1) := by decide +kernel
theorem dX10_readsItem_36 : decode cX10_readsItem 36 = .ok (.getfield 248, 3) := by decide +kernel
theorem dX10_readsItem_39 : decode cX10_readsItem 39 = .ok (.iconst 0, 1) := by decide +kernel
theorem dX10_readsItem_40 : decode cX10_readsItem 40 = .ok (.iastore, 1) := by decide +kernel
theorem dX10_readsItem_41 : decode cX10_readsItem 41 = .ok (.aload_n 0, 1) := by decide +kernel
theorem dX10_readsItem_42 : decode cX10_readsItem 42 = .ok (.invokevirtual 251, 3) := by decide +kernel
theorem dX10_readsItem_45 : decode cX10_readsItem 45 = .ok (.aload_n 0, 1) := by decide +kernel
theorem dX10_readsItem_46 : decode cX10_readsItem 46 = .ok (.getfield 72, 3) := by decide +kernel
theorem dX10_readsItem_49 : decode cX10_readsItem 49 = .ok (.aload_n 0, 1) := by decide +kernel
theorem dX10_readsItem_50 : decode cX10_readsItem 50 = .ok (.getfield 248, 3) := by decide +kernel
theorem dX10_readsItem_53 : decode cX10_readsItem 53 = .ok (.aload_n 0, 1) := by decide +kernel
theorem dX10_readsItem_54 : decode cX10_readsItem 54 = .ok (.ldc_w 264, 3) := by decide +kernel
theorem dX10_readsItem_57 : decode cX10_readsItem 57 = .ok (.invokevirtual 256, 3) := by decide +kernel
theorem dX10_readsItem_60 : decode cX10_readsItem 60 = .ok (.bastore, 1) := by decide +kernel
theorem dX10_readsItem_61 : decode cX10_readsItem 61 = .ok (.aload_n 0, 1) := by decide +kernel
theorem dX10_readsItem_62 : decode cX10_readsItem 62 = .ok (.getfield 72, 3) := by decide +kernel
theorem dX10_readsItem_65 : decode cX10_readsItem 65 = .ok (.aload_n 0, 1) := by decide +kernel
theorem dX10_readsItem_66 : decode cX10_readsItem 66 = .ok (.getfield 248, 3) := by decide +kernel
theorem dX10_readsItem_69 : decode cX10_readsItem 69 = .ok (.baload, 1) := by decide +kernel
theorem dX10_readsItem_70 : decode cX10_readsItem 70 = .ok (.ifCond .eq 7, 3) := by decide +kernel
theorem dX10_readsItem_73 : decode cX10_readsItem 73 = .ok (.aload_n 0, 1) := by decide +kernel
theorem dX10_readsItem_74 : decode cX10_readsItem 74 = .ok (.invokevirtual 251, 3) := by decide +kernel
theorem dX10_readsItem_77 : decode cX10_readsItem 77 = .ok (.aload_n 0, 1) := by decide +kernel
theorem dX10_readsItem_78 : decode cX10_readsItem 78 = .ok (.invokevirtual 265, 3) := by decide +kernel
theorem dX10_readsItem_81 : decode cX10_readsItem 81 = .ok (.ifCond .ne 5, 3) := by decide +kernel
theorem dX10_readsItem_84 : decode cX10_readsItem 84 = .ok (.iconst 0, 1) := by decide +kernel
theorem dX10_readsItem_85 : decode cX10_readsItem 85 = .ok (.ireturn, 1) := by decide +kernel
theorem dX10_readsItem_86 : decode cX10_readsItem 86 = .ok (.aload_n 0, 1) := by decide +kernel
theorem dX10_readsItem_87 : decode cX10_readsItem 87 = .ok (.invokevirtual 236, 3) := by decide +kernel
theorem dX10_readsItem_90 : decode cX10_readsItem 90 = .ok (.aload_n 0, 1) := by decide +kernel
theorem dX10_readsItem_91 : decode cX10_readsItem 91 = .ok (.bipush 59, 2) := by decide +kernel
theorem dX10_readsItem_93 : decode cX10_readsItem 93 = .ok (.bipush 59, 2) := by decide +kernel
theorem dX10_readsItem_95 : decode cX10_readsItem 95 = .ok (.invokevirtual 230, 3) := by decide +kernel
theorem dX10_readsItem_98 : decode cX10_readsItem 98 = .ok (.ifCond .eq 25, 3) := by decide +kernel
theorem dX10_readsItem_101 : decode cX10_readsItem 101 = .ok (.aload_n 0, 1) := by decide +kernel
theorem dX10_readsItem_102 : decode cX10_readsItem 102 = .ok (.dup, 1) := by decide +kernel
theorem dX10_readsItem_103 : decode cX10_readsItem 103 = .ok (.getfield 224, 3) := by decide +kernel
theorem dX10_readsItem_106 : decode cX10_readsItem 106 = .ok (.iconst 1, 1) := by decide +kernel
theorem dX10_readsItem_107 : decode cX10_readsItem 107 = .ok (.iadd, 1) := by decide +kernel
theorem dX10_readsItem_108 : decode cX10_readsItem 108 = .ok (.putfield 224, 3) := by decide +kernel
theorem dX10_readsItem_111 : decode cX10_readsItem 111 = .ok (.aload_n 0, 1) := by decide +kernel
theorem dX10_readsItem_112 : decode cX10_readsItem 112 = .ok (.dup, 1) := by decide +kernel
theorem dX10_readsItem_113 : decode cX10_readsItem 113 = .ok (.getfield 248, 3) := by decide +kernel
theorem dX10_readsItem_116 : decode cX10_readsItem 116 = .ok (.iconst 1, 1) := by decide +kernel
theorem dX10_readsItem_117 : decode cX10_readsItem 117 = .ok (.iadd, 1) := by decide +kernel
theorem dX10_readsItem_118 : decode cX10_readsItem 118 = .ok (.putfield 248, 3) := by decide +kernel
theorem dX10_readsItem_121 : decode cX10_readsItem 121 = .ok (.iconst 1, 1) := by decide +kernel
theorem dX10_readsItem_122 : decode cX10_readsItem 122 = .ok (.ireturn, 1) := by decide +kernel
theorem dX10_readsItem_123 : decode cX10_readsItem 123 = .ok (.aload_n 0, 1) := by decide +kernel
theorem dX10_readsItem_124 : decode cX10_readsItem 124 = .ok (.invokevirtual 251, 3) := by decide +kernel
theorem dX10_readsItem_127 : decode cX10_readsItem 127 = .ok (.aload_n 0, 1) := by decide +kernel
theorem dX10_readsItem_128 : decode cX10_readsItem 128 = .ok (.invokevirtual 265, 3) := by decide +kernel
theorem dX10_readsItem_131 : decode cX10_readsItem 131 = .ok (.ifCond .ne (-45), 3) := by decide +kernel
theorem dX10_readsItem_134 : decode cX10_readsItem 134 = .ok (.iconst 0, 1) := by decide +kernel
theorem dX10_readsItem_135 : decode cX10_readsItem 135 = .ok (.ireturn, 1) := by decide +kernel
theorem dX10_query_0 : decode cX10_query 0 = .ok (.aload_n 0, 1) := by decide +kernel
theorem dX10_query_1 : decode cX10_query 1 = .ok (.iconst 0, 1) := by decide +kernel
theorem dX10_query_2 : decode cX10_query 2 = .ok (.putfield 142, 3) := by decide +kernel
theorem dX10_query_5 : decode cX10_query 5 = .ok (.aload_n 0, 1) := by decide +kernel
theorem dX10_query_6 : decode cX10_query 6 = .ok (.aload_n 0, 1) := by decide +kernel
theorem dX10_query_7 : decode cX10_query 7 = .ok (.getfield 145, 3) := by decide +kernel
theorem dX10_query_10 : decode cX10_query 10 = .ok (.putfield 227, 3) := by decide +kernel
theorem dX10_query_13 : decode cX10_query 13 = .ok (.aload_n 0, 1) := by decide +kernel
theorem dX10_query_14 : decode cX10_query 14 = .ok (.iconst 0, 1) := by decide +kernel
theorem dX10_query_15 : decode cX10_query 15 = .ok (.putfield 145, 3) := by decide +kernel
theorem dX10_query_18 : decode cX10_query 18 = .ok (.aload_n 0, 1) := by decide +kernel
theorem dX10_query_19 : decode cX10_query 19 = .ok (.iconst 0, 1) := by decide +kernel
theorem dX10_query_20 : decode cX10_query 20 = .ok (.putfield 224, 3) := by decide +kernel
theorem dX10_query_23 : decode cX10_query 23 = .ok (.aload_n 0, 1) := by decide +kernel
theorem dX10_query_24 : decode cX10_query 24 = .ok (.iconst 0, 1) := by decide +kernel
theorem dX10_query_25 : decode cX10_query 25 = .ok (.putfield 248, 3) := by decide +kernel
theorem dX10_query_28 : decode cX10_query 28 = .ok (.aload_n 0, 1) := by decide +kernel
theorem dX10_query_29 : decode cX10_query 29 = .ok (.iconst (-1), 1) := by decide +kernel
theorem dX10_query_30 : decode cX10_query 30 = .ok (.putfield 81, 3) := by decide +kernel
theorem dX10_query_33 : decode cX10_query 33 = .ok (.aload_n 0, 1) := by decide +kernel
theorem dX10_query_34 : decode cX10_query 34 = .ok (.invokevirtual 236, 3) := by decide +kernel
theorem dX10_query_37 : decode cX10_query 37 = .ok (.aload_n 0, 1) := by decide +kernel
theorem dX10_query_38 : decode cX10_query 38 = .ok (.getfield 224, 3) := by decide +kernel
theorem dX10_query_41 : decode cX10_query 41 = .ok (.aload_n 0, 1) := by decide +kernel
theorem dX10_query_42 : decode cX10_query 42 = .ok (.getfield 227, 3) := by decide +kernel
theorem dX10_query_45 : decode cX10_query 45 = .ok (.if_icmp .ge 35, 3) := by decide +kernel
theorem dX10_query_48 : decode cX10_query 48 = .ok (.aload_n 0, 1) := by decide +kernel
theorem dX10_query_49 : decode cX10_query 49 = .ok (.invokevirtual 268, 3) := by decide +kernel
theorem dX10_query_52 : decode cX10_query 52 = .ok (.ifCond .eq 6, 3) := by decide +kernel
theorem dX10_query_55 : decode cX10_query 55 = .ok (.goto 18, 3) := by decide +kernel
theorem dX10_query_58 : decode cX10_query 58 = .ok (.aload_n 0, 1) := by decide +kernel
theorem dX10_query_59 : decode cX10_query 59 = .ok (.aload_n 0, 1) := by decide +kernel
theorem dX10_query_60 : decode cX10_query 60 = .ok (.getfield 233, 3) := by decide +kernel
theorem dX10_query_63 : decode cX10_query 63 = .ok (.putfield 81, 3) := by decide +kernel
theorem dX10_query_66 : decode cX10_query 66 = .ok (.aload_n 0, 1) := by decide +kernel
theorem dX10_query_67 : decode cX10_query 67 = .ok (.iconst 1, 1) := by decide +kernel
theorem dX10_query_68 : decode cX10_query 68 = .ok (.putfield 142, 3) := by decide +kernel
theorem dX10_query_71 : decode cX10_query 71 = .ok (.iconst 0, 1) := by decide +kernel
theorem dX10_query_72 : decode cX10_query 72 = .ok (.ireturn, 1) := by decide +kernel
theorem dX10_query_73 : decode cX10_query 73 = .ok (.aload_n 0, 1) := by decide +kernel
theorem dX10_query_74 : decode cX10_query 74 = .ok (.invokevirtual 236, 3) := by decide +kernel
theorem dX10_query_77 : decode cX10_query 77 = .ok (.goto (-40), 3) := by decide +kernel
theorem dX10_query_80 : decode cX10_query 80 = .ok (.aload_n 0, 1) := by decide +kernel
theorem dX10_query_81 : decode cX10_query 81 = .ok (.aload_n 0, 1) := by decide +kernel
theorem dX10_query_82 : decode cX10_query 82 = .ok (.getfield 248, 3) := by decide +kernel
theorem dX10_query_85 : decode cX10_query 85 = .ok (.putfield 271, 3) := by decide +kernel
theorem dX10_query_88 : decode cX10_query 88 = .ok (.iconst 0, 1) := by decide +kernel
theorem dX10_query_89 : decode cX10_query 89 = .ok (.istore_n 1, 1) := by decide +kernel
theorem dX10_query_90 : decode cX10_query 90 = .ok (.iload_n 1, 1) := by decide +kernel
theorem dX10_query_91 : decode cX10_query 91 = .ok (.bipush 8, 2) := by decide +kernel
theorem dX10_query_93 : decode cX10_query 93 = .ok (.if_icmp .ge 45, 3) := by decide +kernel
theorem dX10_query_96 : decode cX10_query 96 = .ok (.aload_n 0, 1) := by decide +kernel
theorem dX10_query_97 : decode cX10_query 97 = .ok (.getfield 45, 3) := by decide +kernel
theorem dX10_query_100 : decode cX10_query 100 = .ok (.iload_n 1, 1) := by decide +kernel
theorem dX10_query_101 : decode cX10_query 101 = .ok (.aload_n 0, 1) := by decide +kernel
theorem dX10_query_102 : decode cX10_query 102 = .ok (.getfield 63, 3) := by decide +kernel
theorem dX10_query_105 : decode cX10_query 105 = .ok (.iload_n 1, 1) := by decide +kernel
theorem dX10_query_106 : decode cX10_query 106 = .ok (.iaload, 1) := by decide +kernel
theorem dX10_query_107 : decode cX10_query 107 = .ok (.iastore, 1) := by decide +kernel
theorem dX10_query_108 : decode cX10_query 108 = .ok (.aload_n 0, 1) := by decide +kernel
theorem dX10_query_109 : decode cX10_query 109 = .ok (.getfield 48, 3) := by decide +kernel
theorem dX10_query_112 : decode cX10_query 112 = .ok (.iload_n 1, 1) := by decide +kernel
theorem dX10_query_113 : decode cX10_query 113 = .ok (.aload_n 0, 1) := by decide +kernel
theorem dX10_query_114 : decode cX10_query 114 = .ok (.getfield 66, 3) := by decide +kernel
theorem dX10_query_117 : decode cX10_query 117 = .ok (.iload_n 1, 1) := by decide +kernel
theorem dX10_query_118 : decode cX10_query 118 = .ok (.iaload, 1) := by decide +kernel
theorem dX10_query_119 : decode cX10_query 119 = .ok (.iastore, 1) := by decide +kernel
theorem dX10_query_120 : decode cX10_query 120 = .ok (.aload_n 0, 1) := by decide +kernel
theorem dX10_query_121 : decode cX10_query 121 = .ok (.getfield 54, 3) := by decide +kernel
theorem dX10_query_124 : decode cX10_query 124 = .ok (.iload_n 1, 1) := by decide +kernel
theorem dX10_query_125 : decode cX10_query 125 = .ok (.aload_n 0, 1) := by decide +kernel
theorem dX10_query_126 : decode cX10_query 126 = .ok (.getfield 72, 3) := by decide +kernel
theorem dX10_query_129 : decode cX10_query 129 = .ok (.iload_n 1, 1) := by decide +kernel
theorem dX10_query_130 : decode cX10_query 130 = .ok (.baload, 1) := by decide +kernel
theorem dX10_query_131 : decode cX10_query 131 = .ok (.bastore, 1) := by decide +kernel
theorem dX10_query_132 : decode cX10_query 132 = .ok (.iinc 1 1, 3) := by decide +kernel
theorem dX10_query_135 : decode cX10_query 135 = .ok (.goto (-45), 3) := by decide +kernel
theorem dX10_query_138 : decode cX10_query 138 = .ok (.iconst 0, 1) := by decide +kernel
theorem dX10_query_139 : decode cX10_query 139 = .ok (.istore_n 1, 1) := by decide +kernel
theorem dX10_query_140 : decode cX10_query 140 = .ok (.iload_n 1, 1) := by decide +kernel
theorem dX10_query_141 : decode cX10_query 141 = .ok (.bipush 32, 2) := by decide +kernel
theorem dX10_query_143 : decode cX10_query 143 = .ok (.if_icmp .ge 33, 3) := by decide +kernel
theorem dX10_query_146 : decode cX10_query 146 = .ok (.aload_n 0, 1) := by decide +kernel
theorem dX10_query_147 : decode cX10_query 147 = .ok (.getfield 51, 3) := by decide +kernel
theorem dX10_query_150 : decode cX10_query 150 = .ok (.iload_n 1, 1) := by decide +kernel
theorem dX10_query_151 : decode cX10_query 151 = .ok (.aload_n 0, 1) := by decide +kernel
theorem dX10_query_152 : decode cX10_query 152 = .ok (.getfield 69, 3) := by decide +kernel
theorem dX10_query_155 : decode cX10_query 155 = .ok (.iload_n 1, 1) := by decide +kernel
theorem dX10_query_156 : decode cX10_query 156 = .ok (.iaload, 1) := by decide +kernel
theorem dX10_query_157 : decode cX10_query 157 = .ok (.iastore, 1) := by decide +kernel
theorem dX10_query_158 : decode cX10_query 158 = .ok (.aload_n 0, 1) := by decide +kernel
theorem dX10_query_159 : decode cX10_query 159 = .ok (.getfield 57, 3) := by decide +kernel
theorem dX10_query_162 : decode cX10_query 162 = .ok (.iload_n 1, 1) := by decide +kernel
theorem dX10_query_163 : decode cX10_query 163 = .ok (.aload_n 0, 1) := by decide +kernel
theorem dX10_query_164 : decode cX10_query 164 = .ok (.getfield 75, 3) := by decide +kernel
theorem dX10_query_167 : decode cX10_query 167 = .ok (.iload_n 1, 1) := by decide +kernel
theorem dX10_query_168 : decode cX10_query 168 = .ok (.baload, 1) := by decide +kernel
theorem dX10_query_169 : decode cX10_query 169 = .ok (.bastore, 1) := by decide +kernel
theorem dX10_query_170 : decode cX10_query 170 = .ok (.iinc 1 1, 3) := by decide +kernel
theorem dX10_query_173 : decode cX10_query 173 = .ok (.goto (-33), 3) := by decide +kernel
theorem dX10_query_176 : decode cX10_query 176 = .ok (.iconst 0, 1) := by decide +kernel
theorem dX10_query_177 : decode cX10_query 177 = .ok (.istore_n 1, 1) := by decide +kernel
theorem dX10_query_178 : decode cX10_query 178 = .ok (.iload_n 1, 1) := by decide +kernel
theorem dX10_query_179 : decode cX10_query 179 = .ok (.sipush 384, 3) := by decide +kernel
theorem dX10_query_182 : decode cX10_query 182 = .ok (.if_icmp .ge 21, 3) := by decide +kernel
theorem dX10_query_185 : decode cX10_query 185 = .ok (.aload_n 0, 1) := by decide +kernel
theorem dX10_query_186 : decode cX10_query 186 = .ok (.getfield 60, 3) := by decide +kernel
theorem dX10_query_189 : decode cX10_query 189 = .ok (.iload_n 1, 1) := by decide +kernel
theorem dX10_query_190 : decode cX10_query 190 = .ok (.aload_n 0, 1) := by decide +kernel
theorem dX10_query_191 : decode cX10_query 191 = .ok (.getfield 78, 3) := by decide +kernel
theorem dX10_query_194 : decode cX10_query 194 = .ok (.iload_n 1, 1) := by decide +kernel
theorem dX10_query_195 : decode cX10_query 195 = .ok (.baload, 1) := by decide +kernel
theorem dX10_query_196 : decode cX10_query 196 = .ok (.bastore, 1) := by decide +kernel
theorem dX10_query_197 : decode cX10_query 197 = .ok (.iinc 1 1, 3) := by decide +kernel
theorem dX10_query_200 : decode cX10_query 200 = .ok (.goto (-22), 3) := by decide +kernel
theorem dX10_query_203 : decode cX10_query 203 = .ok (.aload_n 0, 1) := by decide +kernel
theorem dX10_query_204 : decode cX10_query 204 = .ok (.invokevirtual 218, 3) := by decide +kernel
theorem dX10_query_207 : decode cX10_query 207 = .ok (.aload_n 0, 1) := by decide +kernel
theorem dX10_query_208 : decode cX10_query 208 = .ok (.iconst 0, 1) := by decide +kernel
theorem dX10_query_209 : decode cX10_query 209 = .ok (.putfield 221, 3) := by decide +kernel
theorem dX10_query_212 : decode cX10_query 212 = .ok (.aload_n 0, 1) := by decide +kernel
theorem dX10_query_213 : decode cX10_query 213 = .ok (.getfield 271, 3) := by decide +kernel
theorem dX10_query_216 : decode cX10_query 216 = .ok (.ireturn, 1) := by decide +kernel
theorem dX10_fault_0 : decode cX10_fault 0 = .ok (.aload_n 0, 1) := by decide +kernel
theorem dX10_fault_1 : decode cX10_fault 1 = .ok (.iconst 0, 1) := by decide +kernel
theorem dX10_fault_2 : decode cX10_fault 2 = .ok (.putfield 142, 3) := by decide +kernel
theorem dX10_fault_5 : decode cX10_fault 5 = .ok (.aload_n 0, 1) := by decide +kernel
theorem dX10_fault_6 : decode cX10_fault 6 = .ok (.getfield 81, 3) := by decide +kernel
theorem dX10_fault_9 : decode cX10_fault 9 = .ok (.ireturn, 1) := by decide +kernel
theorem dX10_endsAt_0 : decode cX10_endsAt 0 = .ok (.iload_n 2, 1) := by decide +kernel
theorem dX10_endsAt_1 : decode cX10_endsAt 1 = .ok (.aload_n 0, 1) := by decide +kernel
theorem dX10_endsAt_2 : decode cX10_endsAt 2 = .ok (.getfield 48, 3) := by decide +kernel
theorem dX10_endsAt_5 : decode cX10_endsAt 5 = .ok (.iload_n 1, 1) := by decide +kernel
theorem dX10_endsAt_6 : decode cX10_endsAt 6 = .ok (.iaload, 1) := by decide +kernel
theorem dX10_endsAt_7 : decode cX10_endsAt 7 = .ok (.isub, 1) := by decide +kernel
theorem dX10_endsAt_8 : decode cX10_endsAt 8 = .ok (.iconst 1, 1) := by decide +kernel
theorem dX10_endsAt_9 : decode cX10_endsAt 9 = .ok (.iadd, 1) := by decide +kernel
theorem dX10_endsAt_10 : decode cX10_endsAt 10 = .ok (.istore 4, 2) := by decide +kernel
theorem dX10_endsAt_12 : decode cX10_endsAt 12 = .ok (.iload 4, 2) := by decide +kernel
theorem dX10_endsAt_14 : decode cX10_endsAt 14 = .ok (.iload_n 3, 1) := by decide +kernel
theorem dX10_endsAt_15 : decode cX10_endsAt 15 = .ok (.if_icmp .lt 22, 3) := by decide +kernel
theorem dX10_endsAt_18 : decode cX10_endsAt 18 = .ok (.aload_n 0, 1) := by decide +kernel
theorem dX10_endsAt_19 : decode cX10_endsAt 19 = .ok (.getfield 94, 3) := by decide +kernel
theorem dX10_endsAt_22 : decode cX10_endsAt 22 = .ok (.bipush 100, 2) := by decide +kernel
theorem dX10_endsAt_24 : decode cX10_endsAt 24 = .ok (.iload_n 1, 1) := by decide +kernel
theorem dX10_endsAt_25 : decode cX10_endsAt 25 = .ok (.imul, 1) := by decide +kernel
theorem dX10_endsAt_26 : decode cX10_endsAt 26 = .ok (.iload 4, 2) := by decide +kernel
theorem dX10_endsAt_28 : decode cX10_endsAt 28 = .ok (.iadd, 1) := by decide +kernel
theorem dX10_endsAt_29 : decode cX10_endsAt 29 = .ok (.baload, 1) := by decide +kernel
theorem dX10_endsAt_30 : decode cX10_endsAt 30 = .ok (.ifCond .eq 7, 3) := by decide +kernel
theorem dX10_endsAt_33 : decode cX10_endsAt 33 = .ok (.iconst 1, 1) := by decide +kernel
theorem dX10_endsAt_34 : decode cX10_endsAt 34 = .ok (.goto 4, 3) := by decide +kernel
theorem dX10_endsAt_37 : decode cX10_endsAt 37 = .ok (.iconst 0, 1) := by decide +kernel
theorem dX10_endsAt_38 : decode cX10_endsAt 38 = .ok (.ireturn, 1) := by decide +kernel
theorem dX10_worthOf_0 : decode cX10_worthOf 0 = .ok (.iload_n 2, 1) := by decide +kernel
theorem dX10_worthOf_1 : decode cX10_worthOf 1 = .ok (.ifCond .ne 7, 3) := by decide +kernel
theorem dX10_worthOf_4 : decode cX10_worthOf 4 = .ok (.iconst 0, 1) := by decide +kernel
theorem dX10_worthOf_5 : decode cX10_worthOf 5 = .ok (.goto 32, 3) := by decide +kernel
theorem dX10_worthOf_8 : decode cX10_worthOf 8 = .ok (.aload_n 0, 1) := by decide +kernel
theorem dX10_worthOf_9 : decode cX10_worthOf 9 = .ok (.getfield 45, 3) := by decide +kernel
theorem dX10_worthOf_12 : decode cX10_worthOf 12 = .ok (.iload_n 1, 1) := by decide +kernel
theorem dX10_worthOf_13 : decode cX10_worthOf 13 = .ok (.iaload, 1) := by decide +kernel
theorem dX10_worthOf_14 : decode cX10_worthOf 14 = .ok (.iload_n 2, 1) := by decide +kernel
theorem dX10_worthOf_15 : decode cX10_worthOf 15 = .ok (.iconst 1, 1) := by decide +kernel
theorem dX10_worthOf_16 : decode cX10_worthOf 16 = .ok (.if_icmp .ne 8, 3) := by decide +kernel
theorem dX10_worthOf_19 : decode cX10_worthOf 19 = .ok (.bipush 10, 2) := by decide +kernel
theorem dX10_worthOf_21 : decode cX10_worthOf 21 = .ok (.goto 15, 3) := by decide +kernel
theorem dX10_worthOf_24 : decode cX10_worthOf 24 = .ok (.iload_n 2, 1) := by decide +kernel
theorem dX10_worthOf_25 : decode cX10_worthOf 25 = .ok (.iconst 2, 1) := by decide +kernel
theorem dX10_worthOf_26 : decode cX10_worthOf 26 = .ok (.if_icmp .ne 8, 3) := by decide +kernel
theorem dX10_worthOf_29 : decode cX10_worthOf 29 = .ok (.bipush 13, 2) := by decide +kernel
theorem dX10_worthOf_31 : decode cX10_worthOf 31 = .ok (.goto 5, 3) := by decide +kernel
theorem dX10_worthOf_34 : decode cX10_worthOf 34 = .ok (.bipush 14, 2) := by decide +kernel
theorem dX10_worthOf_36 : decode cX10_worthOf 36 = .ok (.imul, 1) := by decide +kernel
theorem dX10_worthOf_37 : decode cX10_worthOf 37 = .ok (.ireturn, 1) := by decide +kernel
theorem dX10_worthInWindow_0 : decode cX10_worthInWindow 0 = .ok (.iconst 0, 1) := by decide +kernel
theorem dX10_worthInWindow_1 : decode cX10_worthInWindow 1 = .ok (.istore_n 1, 1) := by decide +kernel
theorem dX10_worthInWindow_2 : decode cX10_worthInWindow 2 = .ok (.iconst 0, 1) := by decide +kernel
theorem dX10_worthInWindow_3 : decode cX10_worthInWindow 3 = .ok (.istore_n 2, 1) := by decide +kernel
theorem dX10_worthInWindow_4 : decode cX10_worthInWindow 4 = .ok (.iload_n 2, 1) := by decide +kernel
theorem dX10_worthInWindow_5 : decode cX10_worthInWindow 5 = .ok (.aload_n 0, 1) := by decide +kernel
theorem dX10_worthInWindow_6 : decode cX10_worthInWindow 6 = .ok (.getfield 271, 3) := by decide +kernel
theorem dX10_worthInWindow_9 : decode cX10_worthInWindow 9 = .ok (.if_icmp .ge 23, 3) := by decide +kernel
theorem dX10_worthInWindow_12 : decode cX10_worthInWindow 12 = .ok (.iload_n 1, 1) := by decide +kernel
theorem dX10_worthInWindow_13 : decode cX10_worthInWindow 13 = .ok (.aload_n 0, 1) := by decide +kernel
theorem dX10_worthInWindow_14 : decode cX10_worthInWindow 14 = .ok (.iload_n 2, 1) := by decide +kernel
theorem dX10_worthInWindow_15 : decode cX10_worthInWindow 15 = .ok (.aload_n 0, 1) := by decide +kernel
theorem dX10_worthInWindow_16 : decode cX10_worthInWindow 16 = .ok (.getfield 103, 3) := by decide +kernel
theorem dX10_worthInWindow_19 : decode cX10_worthInWindow 19 = .ok (.iload_n 2, 1) := by decide +kernel
theorem dX10_worthInWindow_20 : decode cX10_worthInWindow 20 = .ok (.iaload, 1) := by decide +kernel
theorem dX10_worthInWindow_21 : decode cX10_worthInWindow 21 = .ok (.invokevirtual 290, 3) := by decide +kernel
theorem dX10_worthInWindow_24 : decode cX10_worthInWindow 24 = .ok (.iadd, 1) := by decide +kernel
theorem dX10_worthInWindow_25 : decode cX10_worthInWindow 25 = .ok (.istore_n 1, 1) := by decide +kernel
theorem dX10_worthInWindow_26 : decode cX10_worthInWindow 26 = .ok (.iinc 2 1, 3) := by decide +kernel
theorem dX10_worthInWindow_29 : decode cX10_worthInWindow 29 = .ok (.goto (-25), 3) := by decide +kernel
theorem dX10_worthInWindow_32 : decode cX10_worthInWindow 32 = .ok (.iload_n 1, 1) := by decide +kernel
theorem dX10_worthInWindow_33 : decode cX10_worthInWindow 33 = .ok (.ireturn, 1) := by decide +kernel
theorem dX10_laysSets_0 : decode cX10_laysSets 0 = .ok (.aload_n 0, 1) := by decide +kernel
theorem dX10_laysSets_1 : decode cX10_laysSets 1 = .ok (.getfield 283, 3) := by decide +kernel
theorem dX10_laysSets_4 : decode cX10_laysSets 4 = .ok (.ifCond .eq 4, 3) := by decide +kernel
theorem dX10_laysSets_7 : decode cX10_laysSets 7 = .ok (.return_, 1) := by decide +kernel
theorem dX10_laysSets_8 : decode cX10_laysSets 8 = .ok (.aload_n 0, 1) := by decide +kernel
theorem dX10_laysSets_9 : decode cX10_laysSets 9 = .ok (.iconst 1, 1) := by decide +kernel
theorem dX10_laysSets_10 : decode cX10_laysSets 10 = .ok (.putfield 283, 3) := by decide +kernel
theorem dX10_laysSets_13 : decode cX10_laysSets 13 = .ok (.iconst 0, 1) := by decide +kernel
theorem dX10_laysSets_14 : decode cX10_laysSets 14 = .ok (.istore_n 1, 1) := by decide +kernel
theorem dX10_laysSets_15 : decode cX10_laysSets 15 = .ok (.iload_n 1, 1) := by decide +kernel
theorem dX10_laysSets_16 : decode cX10_laysSets 16 = .ok (.bipush 112, 2) := by decide +kernel
theorem dX10_laysSets_18 : decode cX10_laysSets 18 = .ok (.if_icmp .ge 16, 3) := by decide +kernel
theorem dX10_laysSets_21 : decode cX10_laysSets 21 = .ok (.aload_n 0, 1) := by decide +kernel
theorem dX10_laysSets_22 : decode cX10_laysSets 22 = .ok (.getfield 106, 3) := by decide +kernel
theorem dX10_laysSets_25 : decode cX10_laysSets 25 = .ok (.iload_n 1, 1) := by decide +kernel
theorem dX10_laysSets_26 : decode cX10_laysSets 26 = .ok (.iconst 0, 1) := by decide +kernel
theorem dX10_laysSets_27 : decode cX10_laysSets 27 = .ok (.iastore, 1) := by decide +kernel
theorem dX10_laysSets_28 : decode cX10_laysSets 28 = .ok (.iinc 1 1, 3) := by decide +kernel
theorem dX10_laysSets_31 : decode cX10_laysSets 31 = .ok (.goto (-16), 3) := by decide +kernel
theorem dX10_laysSets_34 : decode cX10_laysSets 34 = .ok (.iconst 0, 1) := by decide +kernel
theorem dX10_laysSets_35 : decode cX10_laysSets 35 = .ok (.istore_n 1, 1) := by decide +kernel
theorem dX10_laysSets_36 : decode cX10_laysSets 36 = .ok (.iload_n 1, 1) := by decide +kernel
theorem dX10_laysSets_37 : decode cX10_laysSets 37 = .ok (.aload_n 0, 1) := by decide +kernel
theorem dX10_laysSets_38 : decode cX10_laysSets 38 = .ok (.getfield 277, 3) := by decide +kernel
theorem dX10_laysSets_41 : decode cX10_laysSets 41 = .ok (.if_icmp .ge 39, 3) := by decide +kernel
theorem dX10_laysSets_44 : decode cX10_laysSets 44 = .ok (.aload_n 0, 1) := by decide +kernel
theorem dX10_laysSets_45 : decode cX10_laysSets 45 = .ok (.getfield 106, 3) := by decide +kernel
theorem dX10_laysSets_48 : decode cX10_laysSets 48 = .ok (.bipush 8, 2) := by decide +kernel
theorem dX10_laysSets_50 : decode cX10_laysSets 50 = .ok (.aload_n 0, 1) := by decide +kernel
theorem dX10_laysSets_51 : decode cX10_laysSets 51 = .ok (.getfield 29, 3) := by decide +kernel
theorem dX10_laysSets_54 : decode cX10_laysSets 54 = .ok (.aload_n 0, 1) := by decide +kernel
theorem dX10_laysSets_55 : decode cX10_laysSets 55 = .ok (.getfield 88, 3) := by decide +kernel
theorem dX10_laysSets_58 : decode cX10_laysSets 58 = .ok (.iload_n 1, 1) := by decide +kernel
theorem dX10_laysSets_59 : decode cX10_laysSets 59 = .ok (.iaload, 1) := by decide +kernel
theorem dX10_laysSets_60 : decode cX10_laysSets 60 = .ok (.iaload, 1) := by decide +kernel
theorem dX10_laysSets_61 : decode cX10_laysSets 61 = .ok (.imul, 1) := by decide +kernel
theorem dX10_laysSets_62 : decode cX10_laysSets 62 = .ok (.aload_n 0, 1) := by decide +kernel
theorem dX10_laysSets_63 : decode cX10_laysSets 63 = .ok (.getfield 85, 3) := by decide +kernel
theorem dX10_laysSets_66 : decode cX10_laysSets 66 = .ok (.iload_n 1, 1) := by decide +kernel
theorem dX10_laysSets_67 : decode cX10_laysSets 67 = .ok (.iaload, 1) := by decide +kernel
theorem dX10_laysSets_68 : decode cX10_laysSets 68 = .ok (.iadd, 1) := by decide +kernel
theorem dX10_laysSets_69 : decode cX10_laysSets 69 = .ok (.dup2, 1) := by decide +kernel
theorem dX10_laysSets_70 : decode cX10_laysSets 70 = .ok (.iaload, 1) := by decide +kernel
theorem dX10_laysSets_71 : decode cX10_laysSets 71 = .ok (.iconst 1, 1) := by decide +kernel
theorem dX10_laysSets_72 : decode cX10_laysSets 72 = .ok (.iadd, 1) := by decide +kernel
theorem dX10_laysSets_73 : decode cX10_laysSets 73 = .ok (.iastore, 1) := by decide +kernel
theorem dX10_laysSets_74 : decode cX10_laysSets 74 = .ok (.iinc 1 1, 3) := by decide +kernel
theorem dX10_laysSets_77 : decode cX10_laysSets 77 = .ok (.goto (-41), 3) := by decide +kernel
theorem dX10_laysSets_80 : decode cX10_laysSets 80 = .ok (.iconst 0, 1) := by decide +kernel
theorem dX10_laysSets_81 : decode cX10_laysSets 81 = .ok (.istore_n 1, 1) := by decide +kernel
theorem dX10_laysSets_82 : decode cX10_laysSets 82 = .ok (.iload_n 1, 1) := by decide +kernel
theorem dX10_laysSets_83 : decode cX10_laysSets 83 = .ok (.iconst 1, 1) := by decide +kernel
theorem dX10_laysSets_84 : decode cX10_laysSets 84 = .ok (.aload_n 0, 1) := by decide +kernel
theorem dX10_laysSets_85 : decode cX10_laysSets 85 = .ok (.getfield 203, 3) := by decide +kernel
theorem dX10_laysSets_88 : decode cX10_laysSets 88 = .ok (.ishl, 1) := by decide +kernel
theorem dX10_laysSets_89 : decode cX10_laysSets 89 = .ok (.if_icmp .ge 159, 3) := by decide +kernel
theorem dX10_laysSets_92 : decode cX10_laysSets 92 = .ok (.iconst 0, 1) := by decide +kernel
theorem dX10_laysSets_93 : decode cX10_laysSets 93 = .ok (.istore_n 2, 1) := by decide +kernel
theorem dX10_laysSets_94 : decode cX10_laysSets 94 = .ok (.iconst 0, 1) := by decide +kernel
theorem dX10_laysSets_95 : decode cX10_laysSets 95 = .ok (.istore_n 3, 1) := by decide +kernel
theorem dX10_laysSets_96 : decode cX10_laysSets 96 = .ok (.iconst 0, 1) := by decide +kernel
theorem dX10_laysSets_97 : decode cX10_laysSets 97 = .ok (.istore 4, 2) := by decide +kernel
theorem dX10_laysSets_99 : decode cX10_laysSets 99 = .ok (.iload 4, 2) := by decide +kernel
theorem dX10_laysSets_101 : decode cX10_laysSets 101 = .ok (.aload_n 0, 1) := by decide +kernel
theorem dX10_laysSets_102 : decode cX10_laysSets 102 = .ok (.getfield 271, 3) := by decide +kernel
theorem dX10_laysSets_105 : decode cX10_laysSets 105 = .ok (.if_icmp .ge 72, 3) := by decide +kernel
theorem dX10_laysSets_108 : decode cX10_laysSets 108 = .ok (.iconst 0, 1) := by decide +kernel
theorem dX10_laysSets_109 : decode cX10_laysSets 109 = .ok (.istore 5, 2) := by decide +kernel
theorem dX10_laysSets_111 : decode cX10_laysSets 111 = .ok (.iconst 0, 1) := by decide +kernel
theorem dX10_laysSets_112 : decode cX10_laysSets 112 = .ok (.istore 6, 2) := by decide +kernel
theorem dX10_laysSets_114 : decode cX10_laysSets 114 = .ok (.iload 6, 2) := by decide +kernel
theorem dX10_laysSets_116 : decode cX10_laysSets 116 = .ok (.aload_n 0, 1) := by decide +kernel
theorem dX10_laysSets_117 : decode cX10_laysSets 117 = .ok (.getfield 203, 3) := by decide +kernel
theorem dX10_laysSets_120 : decode cX10_laysSets 120 = .ok (.if_icmp .ge 40, 3) := by decide +kernel
theorem dX10_laysSets_123 : decode cX10_laysSets 123 = .ok (.iload 5, 2) := by decide +kernel
theorem dX10_laysSets_125 : decode cX10_laysSets 125 = .ok (.iload_n 1, 1) := by decide +kernel
theorem dX10_laysSets_126 : decode cX10_laysSets 126 = .ok (.iload 6, 2) := by decide +kernel
theorem dX10_laysSets_128 : decode cX10_laysSets 128 = .ok (.invokestatic 294, 3) := by decide +kernel
theorem dX10_laysSets_131 : decode cX10_laysSets 131 = .ok (.ifCond .eq 19, 3) := by decide +kernel
theorem dX10_laysSets_134 : decode cX10_laysSets 134 = .ok (.aload_n 0, 1) := by decide +kernel
theorem dX10_laysSets_135 : decode cX10_laysSets 135 = .ok (.getfield 106, 3) := by decide +kernel
theorem dX10_laysSets_138 : decode cX10_laysSets 138 = .ok (.bipush 8, 2) := by decide +kernel
theorem dX10_laysSets_140 : decode cX10_laysSets 140 = .ok (.iload 6, 2) := by decide +kernel
theorem dX10_laysSets_142 : decode cX10_laysSets 142 = .ok (.imul, 1) := by decide +kernel
theorem dX10_laysSets_143 : decode cX10_laysSets 143 = .ok (.iload 4, 2) := by decide +kernel
theorem dX10_laysSets_145 : decode cX10_laysSets 145 = .ok (.iadd, 1) := by decide +kernel
theorem dX10_laysSets_146 : decode cX10_laysSets 146 = .ok (.iaload, 1) := by decide +kernel
theorem dX10_laysSets_147 : decode cX10_laysSets 147 = .ok (.goto 4, 3) := by decide +kernel
theorem dX10_laysSets_150 : decode cX10_laysSets 150 = .ok (.iconst 0, 1) := by decide +kernel
theorem dX10_laysSets_151 : decode cX10_laysSets 151 = .ok (.iadd, 1) := by decide +kernel
theorem dX10_laysSets_152 : decode cX10_laysSets 152 = .ok (.istore 5, 2) := by decide +kernel
theorem dX10_laysSets_154 : decode cX10_laysSets 154 = .ok (.iinc 6 1, 3) := by decide +kernel
theorem dX10_laysSets_157 : decode cX10_laysSets 157 = .ok (.goto (-43), 3) := by decide +kernel
theorem dX10_laysSets_160 : decode cX10_laysSets 160 = .ok (.iload_n 2, 1) := by decide +kernel
theorem dX10_laysSets_161 : decode cX10_laysSets 161 = .ok (.aload_n 0, 1) := by decide +kernel
theorem dX10_laysSets_162 : decode cX10_laysSets 162 = .ok (.iload 4, 2) := by decide +kernel
theorem dX10_laysSets_164 : decode cX10_laysSets 164 = .ok (.iload 5, 2) := by decide +kernel
theorem dX10_laysSets_166 : decode cX10_laysSets 166 = .ok (.invokevirtual 290, 3) := by decide +kernel
theorem dX10_laysSets_169 : decode cX10_laysSets 169 = .ok (.iadd, 1) := by decide +kernel
theorem dX10_laysSets_170 : decode cX10_laysSets 170 = .ok (.istore_n 2, 1) := by decide +kernel
theorem dX10_laysSets_171 : decode cX10_laysSets 171 = .ok (.iinc 4 1, 3) := by decide +kernel
theorem dX10_laysSets_174 : decode cX10_laysSets 174 = .ok (.goto (-75), 3) := by decide +kernel
theorem dX10_laysSets_177 : decode cX10_laysSets 177 = .ok (.iconst 0, 1) := by decide +kernel
theorem dX10_laysSets_178 : decode cX10_laysSets 178 = .ok (.istore 4, 2) := by decide +kernel
theorem dX10_laysSets_180 : decode cX10_laysSets 180 = .ok (.iload 4, 2) := by decide +kernel
theorem dX10_laysSets_182 : decode cX10_laysSets 182 = .ok (.aload_n 0, 1) := by decide +kernel
theorem dX10_laysSets_183 : decode cX10_laysSets 183 = .ok (.getfield 203, 3) := by decide +kernel
theorem dX10_laysSets_186 : decode cX10_laysSets 186 = .ok (.if_icmp .ge 42, 3) := by decide +kernel
theorem dX10_laysSets_189 : decode cX10_laysSets 189 = .ok (.iload_n 3, 1) := by decide +kernel
theorem dX10_laysSets_190 : decode cX10_laysSets 190 = .ok (.iload_n 1, 1) := by decide +kernel
theorem dX10_laysSets_191 : decode cX10_laysSets 191 = .ok (.iload 4, 2) := by decide +kernel
theorem dX10_laysSets_193 : decode cX10_laysSets 193 = .ok (.invokestatic 294, 3) := by decide +kernel
theorem dX10_laysSets_196 : decode cX10_laysSets 196 = .ok (.ifCond .eq 23, 3) := by decide +kernel
theorem dX10_laysSets_199 : decode cX10_laysSets 199 = .ok (.aload_n 0, 1) := by decide +kernel
theorem dX10_laysSets_200 : decode cX10_laysSets 200 = .ok (.getfield 38, 3) := by decide +kernel
theorem dX10_laysSets_203 : decode cX10_laysSets 203 = .ok (.iload 4, 2) := by decide +kernel
theorem dX10_laysSets_205 : decode cX10_laysSets 205 = .ok (.iaload, 1) := by decide +kernel
theorem dX10_laysSets_206 : decode cX10_laysSets 206 = .ok (.aload_n 0, 1) := by decide +kernel
theorem dX10_laysSets_207 : decode cX10_laysSets 207 = .ok (.getfield 35, 3) := by decide +kernel
theorem dX10_laysSets_210 : decode cX10_laysSets 210 = .ok (.iload 4, 2) := by decide +kernel
theorem dX10_laysSets_212 : decode cX10_laysSets 212 = .ok (.iaload, 1) := by decide +kernel
theorem dX10_laysSets_213 : decode cX10_laysSets 213 = .ok (.isub, 1) := by decide +kernel
theorem dX10_laysSets_214 : decode cX10_laysSets 214 = .ok (.iconst 4, 1) := by decide +kernel
theorem dX10_laysSets_215 : decode cX10_laysSets 215 = .ok (.iadd, 1) := by decide +kernel
theorem dX10_laysSets_216 : decode cX10_laysSets 216 = .ok (.goto 4, 3) := by decide +kernel
theorem dX10_laysSets_219 : decode cX10_laysSets 219 = .ok (.iconst 0, 1) := by decide +kernel
theorem dX10_laysSets_220 : decode cX10_laysSets 220 = .ok (.iadd, 1) := by decide +kernel
theorem dX10_laysSets_221 : decode cX10_laysSets 221 = .ok (.istore_n 3, 1) := by decide +kernel
theorem dX10_laysSets_222 : decode cX10_laysSets 222 = .ok (.iinc 4 1, 3) := by decide +kernel
theorem dX10_laysSets_225 : decode cX10_laysSets 225 = .ok (.goto (-45), 3) := by decide +kernel
theorem dX10_laysSets_228 : decode cX10_laysSets 228 = .ok (.aload_n 0, 1) := by decide +kernel
theorem dX10_laysSets_229 : decode cX10_laysSets 229 = .ok (.getfield 97, 3) := by decide +kernel
theorem dX10_laysSets_232 : decode cX10_laysSets 232 = .ok (.iload_n 1, 1) := by decide +kernel
theorem dX10_laysSets_233 : decode cX10_laysSets 233 = .ok (.iload_n 2, 1) := by decide +kernel
theorem dX10_laysSets_234 : decode cX10_laysSets 234 = .ok (.iastore, 1) := by decide +kernel
theorem dX10_laysSets_235 : decode cX10_laysSets 235 = .ok (.aload_n 0, 1) := by decide +kernel
theorem dX10_laysSets_236 : decode cX10_laysSets 236 = .ok (.getfield 100, 3) := by decide +kernel
theorem dX10_laysSets_239 : decode cX10_laysSets 239 = .ok (.iload_n 1, 1) := by decide +kernel
theorem dX10_laysSets_240 : decode cX10_laysSets 240 = .ok (.iload_n 3, 1) := by decide +kernel
theorem dX10_laysSets_241 : decode cX10_laysSets 241 = .ok (.iastore, 1) := by decide +kernel
theorem dX10_laysSets_242 : decode cX10_laysSets 242 = .ok (.iinc 1 1, 3) := by decide +kernel
theorem dX10_laysSets_245 : decode cX10_laysSets 245 = .ok (.goto (-163), 3) := by decide +kernel
theorem dX10_laysSets_248 : decode cX10_laysSets 248 = .ok (.return_, 1) := by decide +kernel
theorem dX10_longOf_0 : decode cX10_longOf 0 = .ok (.aload_n 0, 1) := by decide +kernel
theorem dX10_longOf_1 : decode cX10_longOf 1 = .ok (.getfield 26, 3) := by decide +kernel
theorem dX10_longOf_4 : decode cX10_longOf 4 = .ok (.iload_n 2, 1) := by decide +kernel
theorem dX10_longOf_5 : decode cX10_longOf 5 = .ok (.iaload, 1) := by decide +kernel
theorem dX10_longOf_6 : decode cX10_longOf 6 = .ok (.aload_n 0, 1) := by decide +kernel
theorem dX10_longOf_7 : decode cX10_longOf 7 = .ok (.getfield 23, 3) := by decide +kernel
theorem dX10_longOf_10 : decode cX10_longOf 10 = .ok (.iload_n 1, 1) := by decide +kernel
theorem dX10_longOf_11 : decode cX10_longOf 11 = .ok (.iaload, 1) := by decide +kernel
theorem dX10_longOf_12 : decode cX10_longOf 12 = .ok (.isub, 1) := by decide +kernel
theorem dX10_longOf_13 : decode cX10_longOf 13 = .ok (.ireturn, 1) := by decide +kernel
theorem dX10_coveredBy_0 : decode cX10_coveredBy 0 = .ok (.iconst 0, 1) := by decide +kernel
theorem dX10_coveredBy_1 : decode cX10_coveredBy 1 = .ok (.istore_n 3, 1) := by decide +kernel
theorem dX10_coveredBy_2 : decode cX10_coveredBy 2 = .ok (.iload_n 2, 1) := by decide +kernel
theorem dX10_coveredBy_3 : decode cX10_coveredBy 3 = .ok (.istore 4, 2) := by decide +kernel
theorem dX10_coveredBy_5 : decode cX10_coveredBy 5 = .ok (.iload 4, 2) := by decide +kernel
theorem dX10_coveredBy_7 : decode cX10_coveredBy 7 = .ok (.aload_n 0, 1) := by decide +kernel
theorem dX10_coveredBy_8 : decode cX10_coveredBy 8 = .ok (.getfield 179, 3) := by decide +kernel
theorem dX10_coveredBy_11 : decode cX10_coveredBy 11 = .ok (.if_icmp .ge 61, 3) := by decide +kernel
theorem dX10_coveredBy_14 : decode cX10_coveredBy 14 = .ok (.iconst 0, 1) := by decide +kernel
theorem dX10_coveredBy_15 : decode cX10_coveredBy 15 = .ok (.istore 5, 2) := by decide +kernel
theorem dX10_coveredBy_17 : decode cX10_coveredBy 17 = .ok (.iload 5, 2) := by decide +kernel
theorem dX10_coveredBy_19 : decode cX10_coveredBy 19 = .ok (.aload_n 0, 1) := by decide +kernel
theorem dX10_coveredBy_20 : decode cX10_coveredBy 20 = .ok (.getfield 271, 3) := by decide +kernel
theorem dX10_coveredBy_23 : decode cX10_coveredBy 23 = .ok (.if_icmp .ge 32, 3) := by decide +kernel
theorem dX10_coveredBy_26 : decode cX10_coveredBy 26 = .ok (.iload_n 3, 1) := by decide +kernel
theorem dX10_coveredBy_27 : decode cX10_coveredBy 27 = .ok (.aload_n 0, 1) := by decide +kernel
theorem dX10_coveredBy_28 : decode cX10_coveredBy 28 = .ok (.iload 5, 2) := by decide +kernel
theorem dX10_coveredBy_30 : decode cX10_coveredBy 30 = .ok (.iload 4, 2) := by decide +kernel
theorem dX10_coveredBy_32 : decode cX10_coveredBy 32 = .ok (.iload_n 2, 1) := by decide +kernel
theorem dX10_coveredBy_33 : decode cX10_coveredBy 33 = .ok (.invokevirtual 297, 3) := by decide +kernel
theorem dX10_coveredBy_36 : decode cX10_coveredBy 36 = .ok (.ifCond .eq 10, 3) := by decide +kernel
theorem dX10_coveredBy_39 : decode cX10_coveredBy 39 = .ok (.iconst 1, 1) := by decide +kernel
theorem dX10_coveredBy_40 : decode cX10_coveredBy 40 = .ok (.iload 5, 2) := by decide +kernel
theorem dX10_coveredBy_42 : decode cX10_coveredBy 42 = .ok (.ishl, 1) := by decide +kernel
theorem dX10_coveredBy_43 : decode cX10_coveredBy 43 = .ok (.goto 4, 3) := by decide +kernel
theorem dX10_coveredBy_46 : decode cX10_coveredBy 46 = .ok (.iconst 0, 1) := by decide +kernel
theorem dX10_coveredBy_47 : decode cX10_coveredBy 47 = .ok (.ior, 1) := by decide +kernel
theorem dX10_coveredBy_48 : decode cX10_coveredBy 48 = .ok (.istore_n 3, 1) := by decide +kernel
theorem dX10_coveredBy_49 : decode cX10_coveredBy 49 = .ok (.iinc 5 1, 3) := by decide +kernel
theorem dX10_coveredBy_52 : decode cX10_coveredBy 52 = .ok (.goto (-35), 3) := by decide +kernel
theorem dX10_coveredBy_55 : decode cX10_coveredBy 55 = .ok (.iload_n 1, 1) := by decide +kernel
theorem dX10_coveredBy_56 : decode cX10_coveredBy 56 = .ok (.iload_n 3, 1) := by decide +kernel
theorem dX10_coveredBy_57 : decode cX10_coveredBy 57 = .ok (.iconst (-1), 1) := by decide +kernel
theorem dX10_coveredBy_58 : decode cX10_coveredBy 58 = .ok (.ixor, 1) := by decide +kernel
theorem dX10_coveredBy_59 : decode cX10_coveredBy 59 = .ok (.iand, 1) := by decide +kernel
theorem dX10_coveredBy_60 : decode cX10_coveredBy 60 = .ok (.ifCond .ne 6, 3) := by decide +kernel
theorem dX10_coveredBy_63 : decode cX10_coveredBy 63 = .ok (.iload 4, 2) := by decide +kernel
theorem dX10_coveredBy_65 : decode cX10_coveredBy 65 = .ok (.ireturn, 1) := by decide +kernel
theorem dX10_coveredBy_66 : decode cX10_coveredBy 66 = .ok (.iinc 4 1, 3) := by decide +kernel
theorem dX10_coveredBy_69 : decode cX10_coveredBy 69 = .ok (.goto (-64), 3) := by decide +kernel
theorem dX10_coveredBy_72 : decode cX10_coveredBy 72 = .ok (.iconst (-1), 1) := by decide +kernel
theorem dX10_coveredBy_73 : decode cX10_coveredBy 73 = .ok (.ireturn, 1) := by decide +kernel
theorem dX10_isMinimal_0 : decode cX10_isMinimal 0 = .ok (.iload_n 3, 1) := by decide +kernel
theorem dX10_isMinimal_1 : decode cX10_isMinimal 1 = .ok (.iconst (-1), 1) := by decide +kernel
theorem dX10_isMinimal_2 : decode cX10_isMinimal 2 = .ok (.if_icmp .eq 29, 3) := by decide +kernel
theorem dX10_isMinimal_5 : decode cX10_isMinimal 5 = .ok (.iload_n 2, 1) := by decide +kernel
theorem dX10_isMinimal_6 : decode cX10_isMinimal 6 = .ok (.iconst 1, 1) := by decide +kernel
theorem dX10_isMinimal_7 : decode cX10_isMinimal 7 = .ok (.iadd, 1) := by decide +kernel
theorem dX10_isMinimal_8 : decode cX10_isMinimal 8 = .ok (.aload_n 0, 1) := by decide +kernel
theorem dX10_isMinimal_9 : decode cX10_isMinimal 9 = .ok (.getfield 179, 3) := by decide +kernel
theorem dX10_isMinimal_12 : decode cX10_isMinimal 12 = .ok (.if_icmp .ge 15, 3) := by decide +kernel
theorem dX10_isMinimal_15 : decode cX10_isMinimal 15 = .ok (.aload_n 0, 1) := by decide +kernel
theorem dX10_isMinimal_16 : decode cX10_isMinimal 16 = .ok (.iload_n 1, 1) := by decide +kernel
theorem dX10_isMinimal_17 : decode cX10_isMinimal 17 = .ok (.iload_n 2, 1) := by decide +kernel
theorem dX10_isMinimal_18 : decode cX10_isMinimal 18 = .ok (.iconst 1, 1) := by decide +kernel
theorem dX10_isMinimal_19 : decode cX10_isMinimal 19 = .ok (.iadd, 1) := by decide +kernel
theorem dX10_isMinimal_20 : decode cX10_isMinimal 20 = .ok (.invokevirtual 300, 3) := by decide +kernel
theorem dX10_isMinimal_23 : decode cX10_isMinimal 23 = .ok (.iload_n 3, 1) := by decide +kernel
theorem dX10_isMinimal_24 : decode cX10_isMinimal 24 = .ok (.if_icmp .eq 7, 3) := by decide +kernel
theorem dX10_isMinimal_27 : decode cX10_isMinimal 27 = .ok (.iconst 1, 1) := by decide +kernel
theorem dX10_isMinimal_28 : decode cX10_isMinimal 28 = .ok (.goto 4, 3) := by decide +kernel
theorem dX10_isMinimal_31 : decode cX10_isMinimal 31 = .ok (.iconst 0, 1) := by decide +kernel
theorem dX10_isMinimal_32 : decode cX10_isMinimal 32 = .ok (.ireturn, 1) := by decide +kernel
theorem dX10_widestIn_0 : decode cX10_widestIn 0 = .ok (.aload_n 0, 1) := by decide +kernel
theorem dX10_widestIn_1 : decode cX10_widestIn 1 = .ok (.getfield 109, 3) := by decide +kernel
theorem dX10_widestIn_4 : decode cX10_widestIn 4 = .ok (.iconst 3, 1) := by decide +kernel
theorem dX10_widestIn_5 : decode cX10_widestIn 5 = .ok (.iconst 0, 1) := by decide +kernel
theorem dX10_widestIn_6 : decode cX10_widestIn 6 = .ok (.iastore, 1) := by decide +kernel
theorem dX10_widestIn_7 : decode cX10_widestIn 7 = .ok (.iload_n 1, 1) := by decide +kernel
theorem dX10_widestIn_8 : decode cX10_widestIn 8 = .ok (.istore 4, 2) := by decide +kernel
theorem dX10_widestIn_10 : decode cX10_widestIn 10 = .ok (.iload 4, 2) := by decide +kernel
theorem dX10_widestIn_12 : decode cX10_widestIn 12 = .ok (.iload_n 2, 1) := by decide +kernel
theorem dX10_widestIn_13 : decode cX10_widestIn 13 = .ok (.if_icmp .gt 200, 3) := by decide +kernel
theorem dX10_widestIn_16 : decode cX10_widestIn 16 = .ok (.iconst 0, 1) := by decide +kernel
theorem dX10_widestIn_17 : decode cX10_widestIn 17 = .ok (.istore 5, 2) := by decide +kernel
theorem dX10_widestIn_19 : decode cX10_widestIn 19 = .ok (.iload 5, 2) := by decide +kernel
theorem dX10_widestIn_21 : decode cX10_widestIn 21 = .ok (.aload_n 0, 1) := by decide +kernel
theorem dX10_widestIn_22 : decode cX10_widestIn 22 = .ok (.getfield 271, 3) := by decide +kernel
theorem dX10_widestIn_25 : decode cX10_widestIn 25 = .ok (.if_icmp .ge 17, 3) := by decide +kernel
theorem dX10_widestIn_28 : decode cX10_widestIn 28 = .ok (.aload_n 0, 1) := by decide +kernel
theorem dX10_widestIn_29 : decode cX10_widestIn 29 = .ok (.getfield 103, 3) := by decide +kernel
theorem dX10_widestIn_32 : decode cX10_widestIn 32 = .ok (.iload 5, 2) := by decide +kernel
theorem dX10_widestIn_34 : decode cX10_widestIn 34 = .ok (.iconst 0, 1) := by decide +kernel
theorem dX10_widestIn_35 : decode cX10_widestIn 35 = .ok (.iastore, 1) := by decide +kernel
theorem dX10_widestIn_36 : decode cX10_widestIn 36 = .ok (.iinc 5 1, 3) := by decide +kernel
theorem dX10_widestIn_39 : decode cX10_widestIn 39 = .ok (.goto (-20), 3) := by decide +kernel
theorem dX10_widestIn_42 : decode cX10_widestIn 42 = .ok (.iload 4, 2) := by decide +kernel
theorem dX10_widestIn_44 : decode cX10_widestIn 44 = .ok (.istore 5, 2) := by decide +kernel
theorem dX10_widestIn_46 : decode cX10_widestIn 46 = .ok (.iload 5, 2) := by decide +kernel
theorem dX10_widestIn_48 : decode cX10_widestIn 48 = .ok (.iload_n 2, 1) := by decide +kernel
theorem dX10_widestIn_49 : decode cX10_widestIn 49 = .ok (.if_icmp .gt 158, 3) := by decide +kernel
theorem dX10_widestIn_52 : decode cX10_widestIn 52 = .ok (.aload_n 0, 1) := by decide +kernel
theorem dX10_widestIn_53 : decode cX10_widestIn 53 = .ok (.iload 4, 2) := by decide +kernel
theorem dX10_widestIn_55 : decode cX10_widestIn 55 = .ok (.iload 5, 2) := by decide +kernel
theorem dX10_widestIn_57 : decode cX10_widestIn 57 = .ok (.invokevirtual 303, 3) := by decide +kernel
theorem dX10_widestIn_60 : decode cX10_widestIn 60 = .ok (.iload_n 3, 1) := by decide +kernel
theorem dX10_widestIn_61 : decode cX10_widestIn 61 = .ok (.if_icmp .gt 146, 3) := by decide +kernel
theorem dX10_widestIn_64 : decode cX10_widestIn 64 = .ok (.iconst 0, 1) := by decide +kernel
theorem dX10_widestIn_65 : decode cX10_widestIn 65 = .ok (.istore 6, 2) := by decide +kernel
theorem dX10_widestIn_67 : decode cX10_widestIn 67 = .ok (.iload 6, 2) := by decide +kernel
theorem dX10_widestIn_69 : decode cX10_widestIn 69 = .ok (.aload_n 0, 1) := by decide +kernel
theorem dX10_widestIn_70 : decode cX10_widestIn 70 = .ok (.getfield 271, 3) := by decide +kernel
theorem dX10_widestIn_73 : decode cX10_widestIn 73 = .ok (.if_icmp .ge 37, 3) := by decide +kernel
theorem dX10_widestIn_76 : decode cX10_widestIn 76 = .ok (.aload_n 0, 1) := by decide +kernel
theorem dX10_widestIn_77 : decode cX10_widestIn 77 = .ok (.getfield 103, 3) := by decide +kernel
theorem dX10_widestIn_80 : decode cX10_widestIn 80 = .ok (.iload 6, 2) := by decide +kernel
theorem dX10_widestIn_82 : decode cX10_widestIn 82 = .ok (.dup2, 1) := by decide +kernel
theorem dX10_widestIn_83 : decode cX10_widestIn 83 = .ok (.iaload, 1) := by decide +kernel
theorem dX10_widestIn_84 : decode cX10_widestIn 84 = .ok (.aload_n 0, 1) := by decide +kernel
theorem dX10_widestIn_85 : decode cX10_widestIn 85 = .ok (.iload 6, 2) := by decide +kernel
theorem dX10_widestIn_87 : decode cX10_widestIn 87 = .ok (.iload 5, 2) := by decide +kernel
theorem dX10_widestIn_89 : decode cX10_widestIn 89 = .ok (.iload 4, 2) := by decide +kernel
theorem dX10_widestIn_91 : decode cX10_widestIn 91 = .ok (.invokevirtual 297, 3) := by decide +kernel
theorem dX10_widestIn_94 : decode cX10_widestIn 94 = .ok (.ifCond .eq 7, 3) := by decide +kernel
theorem dX10_widestIn_97 : decode cX10_widestIn 97 = .ok (.iconst 1, 1) := by decide +kernel
theorem dX10_widestIn_98 : decode cX10_widestIn 98 = .ok (.goto 4, 3) := by decide +kernel
theorem dX10_widestIn_101 : decode cX10_widestIn 101 = .ok (.iconst 0, 1) := by decide +kernel
theorem dX10_widestIn_102 : decode cX10_widestIn 102 = .ok (.iadd, 1) := by decide +kernel
theorem dX10_widestIn_103 : decode cX10_widestIn 103 = .ok (.iastore, 1) := by decide +kernel
theorem dX10_widestIn_104 : decode cX10_widestIn 104 = .ok (.iinc 6 1, 3) := by decide +kernel
theorem dX10_widestIn_107 : decode cX10_widestIn 107 = .ok (.goto (-40), 3) := by decide +kernel
theorem dX10_widestIn_110 : decode cX10_widestIn 110 = .ok (.aload_n 0, 1) := by decide +kernel
theorem dX10_widestIn_111 : decode cX10_widestIn 111 = .ok (.invokevirtual 306, 3) := by decide +kernel
theorem dX10_widestIn_114 : decode cX10_widestIn 114 = .ok (.istore 6, 2) := by decide +kernel
theorem dX10_widestIn_116 : decode cX10_widestIn 116 = .ok (.iload 6, 2) := by decide +kernel
theorem dX10_widestIn_118 : decode cX10_widestIn 118 = .ok (.aload_n 0, 1) := by decide +kernel
theorem dX10_widestIn_119 : decode cX10_widestIn 119 = .ok (.getfield 109, 3) := by decide +kernel
theorem dX10_widestIn_122 : decode cX10_widestIn 122 = .ok (.iconst 3, 1) := by decide +kernel
theorem dX10_widestIn_123 : decode cX10_widestIn 123 = .ok (.iaload, 1) := by decide +kernel
theorem dX10_widestIn_124 : decode cX10_widestIn 124 = .ok (.if_icmp .lt 77, 3) := by decide +kernel
theorem dX10_widestIn_127 : decode cX10_widestIn 127 = .ok (.iload 6, 2) := by decide +kernel
theorem dX10_widestIn_129 : decode cX10_widestIn 129 = .ok (.ifCond .eq 72, 3) := by decide +kernel
theorem dX10_widestIn_132 : decode cX10_widestIn 132 = .ok (.iload 6, 2) := by decide +kernel
theorem dX10_widestIn_134 : decode cX10_widestIn 134 = .ok (.aload_n 0, 1) := by decide +kernel
theorem dX10_widestIn_135 : decode cX10_widestIn 135 = .ok (.getfield 109, 3) := by decide +kernel
theorem dX10_widestIn_138 : decode cX10_widestIn 138 = .ok (.iconst 3, 1) := by decide +kernel
theorem dX10_widestIn_139 : decode cX10_widestIn 139 = .ok (.iaload, 1) := by decide +kernel
theorem dX10_widestIn_140 : decode cX10_widestIn 140 = .ok (.if_icmp .ne 23, 3) := by decide +kernel
theorem dX10_widestIn_143 : decode cX10_widestIn 143 = .ok (.aload_n 0, 1) := by decide +kernel
theorem dX10_widestIn_144 : decode cX10_widestIn 144 = .ok (.iload 4, 2) := by decide +kernel
theorem dX10_widestIn_146 : decode cX10_widestIn 146 = .ok (.iload 5, 2) := by decide +kernel
theorem dX10_widestIn_148 : decode cX10_widestIn 148 = .ok (.invokevirtual 303, 3) := by decide +kernel
theorem dX10_widestIn_151 : decode cX10_widestIn 151 = .ok (.aload_n 0, 1) := by decide +kernel
theorem dX10_widestIn_152 : decode cX10_widestIn 152 = .ok (.getfield 109, 3) := by decide +kernel
theorem dX10_widestIn_155 : decode cX10_widestIn 155 = .ok (.iconst 2, 1) := by decide +kernel
theorem dX10_widestIn_156 : decode cX10_widestIn 156 = .ok (.iaload, 1) := by decide +kernel
theorem dX10_widestIn_157 : decode cX10_widestIn 157 = .ok (.if_icmp .lt 6, 3) := by decide +kernel
theorem dX10_widestIn_160 : decode cX10_widestIn 160 = .ok (.goto 41, 3) := by decide +kernel
theorem dX10_widestIn_163 : decode cX10_widestIn 163 = .ok (.aload_n 0, 1) := by decide +kernel
theorem dX10_widestIn_164 : decode cX10_widestIn 164 = .ok (.getfield 109, 3) := by decide +kernel
theorem dX10_widestIn_167 : decode cX10_widestIn 167 = .ok (.iconst 0, 1) := by decide +kernel
theorem dX10_widestIn_168 : decode cX10_widestIn 168 = .ok (.iload 4, 2) := by decide +kernel
theorem dX10_widestIn_170 : decode cX10_widestIn 170 = .ok (.iastore, 1) := by decide +kernel
theorem dX10_widestIn_171 : decode cX10_widestIn 171 = .ok (.aload_n 0, 1) := by decide +kernel
theorem dX10_widestIn_172 : decode cX10_widestIn 172 = .ok (.getfield 109, 3) := by decide +kernel
theorem dX10_widestIn_175 : decode cX10_widestIn 175 = .ok (.iconst 1, 1) := by decide +kernel
theorem dX10_widestIn_176 : decode cX10_widestIn 176 = .ok (.iload 5, 2) := by decide +kernel
theorem dX10_widestIn_178 : decode cX10_widestIn 178 = .ok (.iastore, 1) := by decide +kernel
theorem dX10_widestIn_179 : decode cX10_widestIn 179 = .ok (.aload_n 0, 1) := by decide +kernel
theorem dX10_widestIn_180 : decode cX10_widestIn 180 = .ok (.getfield 109, 3) := by decide +kernel
theorem dX10_widestIn_183 : decode cX10_widestIn 183 = .ok (.iconst 2, 1) := by decide +kernel
theorem dX10_widestIn_184 : decode cX10_widestIn 184 = .ok (.aload_n 0, 1) := by decide +kernel
theorem dX10_widestIn_185 : decode cX10_widestIn 185 = .ok (.iload 4, 2) := by decide +kernel
theorem dX10_widestIn_187 : decode cX10_widestIn 187 = .ok (.iload 5, 2) := by decide +kernel
theorem dX10_widestIn_189 : decode cX10_widestIn 189 = .ok (.invokevirtual 303, 3) := by decide +kernel
theorem dX10_widestIn_192 : decode cX10_widestIn 192 = .ok (.iastore, 1) := by decide +kernel
theorem dX10_widestIn_193 : decode cX10_widestIn 193 = .ok (.aload_n 0, 1) := by decide +kernel
theorem dX10_widestIn_194 : decode cX10_widestIn 194 = .ok (.getfield 109, 3) := by decide +kernel
theorem dX10_widestIn_197 : decode cX10_widestIn 197 = .ok (.iconst 3, 1) := by decide +kernel
theorem dX10_widestIn_198 : decode cX10_widestIn 198 = .ok (.iload 6, 2) := by decide +kernel
theorem dX10_widestIn_200 : decode cX10_widestIn 200 = .ok (.iastore, 1) := by decide +kernel
theorem dX10_widestIn_201 : decode cX10_widestIn 201 = .ok (.iinc 5 1, 3) := by decide +kernel
theorem dX10_widestIn_204 : decode cX10_widestIn 204 = .ok (.goto (-158), 3) := by decide +kernel
theorem dX10_widestIn_207 : decode cX10_widestIn 207 = .ok (.iinc 4 1, 3) := by decide +kernel
theorem dX10_widestIn_210 : decode cX10_widestIn 210 = .ok (.goto (-200), 3) := by decide +kernel
theorem dX10_widestIn_213 : decode cX10_widestIn 213 = .ok (.aload_n 0, 1) := by decide +kernel
theorem dX10_widestIn_214 : decode cX10_widestIn 214 = .ok (.getfield 109, 3) := by decide +kernel
theorem dX10_widestIn_217 : decode cX10_widestIn 217 = .ok (.iconst 3, 1) := by decide +kernel
theorem dX10_widestIn_218 : decode cX10_widestIn 218 = .ok (.iaload, 1) := by decide +kernel
theorem dX10_widestIn_219 : decode cX10_widestIn 219 = .ok (.ifCond .le 7, 3) := by decide +kernel
theorem dX10_widestIn_222 : decode cX10_widestIn 222 = .ok (.iconst 1, 1) := by decide +kernel
theorem dX10_widestIn_223 : decode cX10_widestIn 223 = .ok (.goto 4, 3) := by decide +kernel
theorem dX10_widestIn_226 : decode cX10_widestIn 226 = .ok (.iconst 0, 1) := by decide +kernel
theorem dX10_widestIn_227 : decode cX10_widestIn 227 = .ok (.ireturn, 1) := by decide +kernel
theorem dX10_isNoSet_0 : decode cX10_isNoSet 0 = .ok (.iload_n 1, 1) := by decide +kernel
theorem dX10_isNoSet_1 : decode cX10_isNoSet 1 = .ok (.ifCond .le 12, 3) := by decide +kernel
theorem dX10_isNoSet_4 : decode cX10_isNoSet 4 = .ok (.iload_n 1, 1) := by decide +kernel
theorem dX10_isNoSet_5 : decode cX10_isNoSet 5 = .ok (.aload_n 0, 1) := by decide +kernel
theorem dX10_isNoSet_6 : decode cX10_isNoSet 6 = .ok (.getfield 271, 3) := by decide +kernel
theorem dX10_isNoSet_9 : decode cX10_isNoSet 9 = .ok (.ishr, 1) := by decide +kernel
theorem dX10_isNoSet_10 : decode cX10_isNoSet 10 = .ok (.ifCond .eq 7, 3) := by decide +kernel
theorem dX10_isNoSet_13 : decode cX10_isNoSet 13 = .ok (.iconst 1, 1) := by decide +kernel
theorem dX10_isNoSet_14 : decode cX10_isNoSet 14 = .ok (.goto 4, 3) := by decide +kernel
theorem dX10_isNoSet_17 : decode cX10_isNoSet 17 = .ok (.iconst 0, 1) := by decide +kernel
theorem dX10_isNoSet_18 : decode cX10_isNoSet 18 = .ok (.ireturn, 1) := by decide +kernel
theorem dX10_window_0 : decode cX10_window 0 = .ok (.aload_n 0, 1) := by decide +kernel
theorem dX10_window_1 : decode cX10_window 1 = .ok (.iconst 0, 1) := by decide +kernel
theorem dX10_window_2 : decode cX10_window 2 = .ok (.putfield 142, 3) := by decide +kernel
theorem dX10_window_5 : decode cX10_window 5 = .ok (.aload_n 0, 1) := by decide +kernel
theorem dX10_window_6 : decode cX10_window 6 = .ok (.iload_n 3, 1) := by decide +kernel
theorem dX10_window_7 : decode cX10_window 7 = .ok (.iconst 0, 1) := by decide +kernel
theorem dX10_window_8 : decode cX10_window 8 = .ok (.iconst 2, 1) := by decide +kernel
theorem dX10_window_9 : decode cX10_window 9 = .ok (.invokestatic 151, 3) := by decide +kernel
theorem dX10_window_12 : decode cX10_window 12 = .ok (.ifCond .ne 7, 3) := by decide +kernel
theorem dX10_window_15 : decode cX10_window 15 = .ok (.iconst 1, 1) := by decide +kernel
theorem dX10_window_16 : decode cX10_window 16 = .ok (.goto 4, 3) := by decide +kernel
theorem dX10_window_19 : decode cX10_window 19 = .ok (.iconst 0, 1) := by decide +kernel
theorem dX10_window_20 : decode cX10_window 20 = .ok (.iconst 1, 1) := by decide +kernel
theorem dX10_window_21 : decode cX10_window 21 = .ok (.invokevirtual 309, 3) := by decide +kernel
theorem dX10_window_24 : decode cX10_window 24 = .ok (.ifCond .ne 16, 3) := by decide +kernel
theorem dX10_window_27 : decode cX10_window 27 = .ok (.aload_n 0, 1) := by decide +kernel
theorem dX10_window_28 : decode cX10_window 28 = .ok (.aload_n 0, 1) := by decide +kernel
theorem dX10_window_29 : decode cX10_window 29 = .ok (.iload_n 1, 1) := by decide +kernel
theorem dX10_window_30 : decode cX10_window 30 = .ok (.invokevirtual 313, 3) := by decide +kernel
theorem dX10_window_33 : decode cX10_window 33 = .ok (.iconst 2, 1) := by decide +kernel
theorem dX10_window_34 : decode cX10_window 34 = .ok (.invokevirtual 309, 3) := by decide +kernel
theorem dX10_window_37 : decode cX10_window 37 = .ok (.ifCond .eq 5, 3) := by decide +kernel
theorem dX10_window_40 : decode cX10_window 40 = .ok (.iconst 0, 1) := by decide +kernel
theorem dX10_window_41 : decode cX10_window 41 = .ok (.ireturn, 1) := by decide +kernel
theorem dX10_window_42 : decode cX10_window 42 = .ok (.iconst 0, 1) := by decide +kernel
theorem dX10_window_43 : decode cX10_window 43 = .ok (.istore 4, 2) := by decide +kernel
theorem dX10_window_45 : decode cX10_window 45 = .ok (.iconst 0, 1) := by decide +kernel
theorem dX10_window_46 : decode cX10_window 46 = .ok (.istore 5, 2) := by decide +kernel
theorem dX10_window_48 : decode cX10_window 48 = .ok (.iload 5, 2) := by decide +kernel
theorem dX10_window_50 : decode cX10_window 50 = .ok (.aload_n 0, 1) := by decide +kernel
theorem dX10_window_51 : decode cX10_window 51 = .ok (.getfield 179, 3) := by decide +kernel
theorem dX10_window_54 : decode cX10_window 54 = .ok (.if_icmp .ge 70, 3) := by decide +kernel
theorem dX10_window_57 : decode cX10_window 57 = .ok (.aload_n 0, 1) := by decide +kernel
theorem dX10_window_58 : decode cX10_window 58 = .ok (.iload_n 1, 1) := by decide +kernel
theorem dX10_window_59 : decode cX10_window 59 = .ok (.iload 5, 2) := by decide +kernel
theorem dX10_window_61 : decode cX10_window 61 = .ok (.invokevirtual 300, 3) := by decide +kernel
theorem dX10_window_64 : decode cX10_window 64 = .ok (.istore 6, 2) := by decide +kernel
theorem dX10_window_66 : decode cX10_window 66 = .ok (.aload_n 0, 1) := by decide +kernel
theorem dX10_window_67 : decode cX10_window 67 = .ok (.iload_n 1, 1) := by decide +kernel
theorem dX10_window_68 : decode cX10_window 68 = .ok (.iload 5, 2) := by decide +kernel
theorem dX10_window_70 : decode cX10_window 70 = .ok (.iload 6, 2) := by decide +kernel
theorem dX10_window_72 : decode cX10_window 72 = .ok (.invokevirtual 316, 3) := by decide +kernel
theorem dX10_window_75 : decode cX10_window 75 = .ok (.ifCond .ne 6, 3) := by decide +kernel
theorem dX10_window_78 : decode cX10_window 78 = .ok (.goto 40, 3) := by decide +kernel
theorem dX10_window_81 : decode cX10_window 81 = .ok (.iload 4, 2) := by decide +kernel
theorem dX10_window_83 : decode cX10_window 83 = .ok (.iload_n 2, 1) := by decide +kernel
theorem dX10_window_84 : decode cX10_window 84 = .ok (.if_icmp .ne 31, 3) := by decide +kernel
theorem dX10_window_87 : decode cX10_window 87 = .ok (.iload_n 3, 1) := by decide +kernel
theorem dX10_window_88 : decode cX10_window 88 = .ok (.ifCond .ne 8, 3) := by decide +kernel
theorem dX10_window_91 : decode cX10_window 91 = .ok (.iload 5, 2) := by decide +kernel
theorem dX10_window_93 : decode cX10_window 93 = .ok (.goto 21, 3) := by decide +kernel
theorem dX10_window_96 : decode cX10_window 96 = .ok (.iload_n 3, 1) := by decide +kernel
theorem dX10_window_97 : decode cX10_window 97 = .ok (.iconst 1, 1) := by decide +kernel
theorem dX10_window_98 : decode cX10_window 98 = .ok (.if_icmp .ne 8, 3) := by decide +kernel
theorem dX10_window_101 : decode cX10_window 101 = .ok (.iload 6, 2) := by decide +kernel
theorem dX10_window_103 : decode cX10_window 103 = .ok (.goto 11, 3) := by decide +kernel
theorem dX10_window_106 : decode cX10_window 106 = .ok (.aload_n 0, 1) := by decide +kernel
theorem dX10_window_107 : decode cX10_window 107 = .ok (.iload 5, 2) := by decide +kernel
theorem dX10_window_109 : decode cX10_window 109 = .ok (.iload 6, 2) := by decide +kernel
theorem dX10_window_111 : decode cX10_window 111 = .ok (.invokevirtual 303, 3) := by decide +kernel
theorem dX10_window_114 : decode cX10_window 114 = .ok (.ireturn, 1) := by decide +kernel
theorem dX10_window_115 : decode cX10_window 115 = .ok (.iinc 4 1, 3) := by decide +kernel
theorem dX10_window_118 : decode cX10_window 118 = .ok (.iinc 5 1, 3) := by decide +kernel
theorem dX10_window_121 : decode cX10_window 121 = .ok (.goto (-73), 3) := by decide +kernel
theorem dX10_window_124 : decode cX10_window 124 = .ok (.iload_n 2, 1) := by decide +kernel
theorem dX10_window_125 : decode cX10_window 125 = .ok (.iconst (-1), 1) := by decide +kernel
theorem dX10_window_126 : decode cX10_window 126 = .ok (.if_icmp .ne 8, 3) := by decide +kernel
theorem dX10_window_129 : decode cX10_window 129 = .ok (.iload 4, 2) := by decide +kernel
theorem dX10_window_131 : decode cX10_window 131 = .ok (.goto 4, 3) := by decide +kernel
theorem dX10_window_134 : decode cX10_window 134 = .ok (.iconst (-1), 1) := by decide +kernel
theorem dX10_window_135 : decode cX10_window 135 = .ok (.ireturn, 1) := by decide +kernel
theorem dX10_least_0 : decode cX10_least 0 = .ok (.aload_n 0, 1) := by decide +kernel
theorem dX10_least_1 : decode cX10_least 1 = .ok (.iconst 0, 1) := by decide +kernel
theorem dX10_least_2 : decode cX10_least 2 = .ok (.putfield 142, 3) := by decide +kernel
theorem dX10_least_5 : decode cX10_least 5 = .ok (.aload_n 0, 1) := by decide +kernel
theorem dX10_least_6 : decode cX10_least 6 = .ok (.iload_n 2, 1) := by decide +kernel
theorem dX10_least_7 : decode cX10_least 7 = .ok (.iconst 0, 1) := by decide +kernel
theorem dX10_least_8 : decode cX10_least 8 = .ok (.iconst 2, 1) := by decide +kernel
theorem dX10_least_9 : decode cX10_least 9 = .ok (.invokestatic 151, 3) := by decide +kernel
theorem dX10_least_12 : decode cX10_least 12 = .ok (.ifCond .ne 7, 3) := by decide +kernel
theorem dX10_least_15 : decode cX10_least 15 = .ok (.iconst 1, 1) := by decide +kernel
theorem dX10_least_16 : decode cX10_least 16 = .ok (.goto 4, 3) := by decide +kernel
theorem dX10_least_19 : decode cX10_least 19 = .ok (.iconst 0, 1) := by decide +kernel
theorem dX10_least_20 : decode cX10_least 20 = .ok (.iconst 1, 1) := by decide +kernel
theorem dX10_least_21 : decode cX10_least 21 = .ok (.invokevirtual 309, 3) := by decide +kernel
theorem dX10_least_24 : decode cX10_least 24 = .ok (.ifCond .ne 16, 3) := by decide +kernel
theorem dX10_least_27 : decode cX10_least 27 = .ok (.aload_n 0, 1) := by decide +kernel
theorem dX10_least_28 : decode cX10_least 28 = .ok (.aload_n 0, 1) := by decide +kernel
theorem dX10_least_29 : decode cX10_least 29 = .ok (.iload_n 1, 1) := by decide +kernel
theorem dX10_least_30 : decode cX10_least 30 = .ok (.invokevirtual 313, 3) := by decide +kernel
theorem dX10_least_33 : decode cX10_least 33 = .ok (.iconst 2, 1) := by decide +kernel
theorem dX10_least_34 : decode cX10_least 34 = .ok (.invokevirtual 309, 3) := by decide +kernel
theorem dX10_least_37 : decode cX10_least 37 = .ok (.ifCond .eq 5, 3) := by decide +kernel
theorem dX10_least_40 : decode cX10_least 40 = .ok (.iconst 0, 1) := by decide +kernel
theorem dX10_least_41 : decode cX10_least 41 = .ok (.ireturn, 1) := by decide +kernel
theorem dX10_least_42 : decode cX10_least 42 = .ok (.iconst (-1), 1) := by decide +kernel
theorem dX10_least_43 : decode cX10_least 43 = .ok (.istore_n 3, 1) := by decide +kernel
theorem dX10_least_44 : decode cX10_least 44 = .ok (.iconst (-1), 1) := by decide +kernel
theorem dX10_least_45 : decode cX10_least 45 = .ok (.istore 4, 2) := by decide +kernel
theorem dX10_least_47 : decode cX10_least 47 = .ok (.iconst 0, 1) := by decide +kernel
theorem dX10_least_48 : decode cX10_least 48 = .ok (.istore 5, 2) := by decide +kernel
theorem dX10_least_50 : decode cX10_least 50 = .ok (.iload 5, 2) := by decide +kernel
theorem dX10_least_52 : decode cX10_least 52 = .ok (.aload_n 0, 1) := by decide +kernel
theorem dX10_least_53 : decode cX10_least 53 = .ok (.getfield 179, 3) := by decide +kernel
theorem dX10_least_56 : decode cX10_least 56 = .ok (.if_icmp .ge 63, 3) := by decide +kernel
theorem dX10_least_59 : decode cX10_least 59 = .ok (.aload_n 0, 1) := by decide +kernel
theorem dX10_least_60 : decode cX10_least 60 = .ok (.iload_n 1, 1) := by decide +kernel
theorem dX10_least_61 : decode cX10_least 61 = .ok (.iload 5, 2) := by decide +kernel
theorem dX10_least_63 : decode cX10_least 63 = .ok (.invokevirtual 300, 3) := by decide +kernel
theorem dX10_least_66 : decode cX10_least 66 = .ok (.istore 6, 2) := by decide +kernel
theorem dX10_least_68 : decode cX10_least 68 = .ok (.aload_n 0, 1) := by decide +kernel
theorem dX10_least_69 : decode cX10_least 69 = .ok (.iload_n 1, 1) := by decide +kernel
theorem dX10_least_70 : decode cX10_least 70 = .ok (.iload 5, 2) := by decide +kernel
theorem dX10_least_72 : decode cX10_least 72 = .ok (.iload 6, 2) := by decide +kernel
theorem dX10_least_74 : decode cX10_least 74 = .ok (.invokevirtual 316, 3) := by decide +kernel
theorem dX10_least_77 : decode cX10_least 77 = .ok (.ifCond .eq 36, 3) := by decide +kernel
theorem dX10_least_80 : decode cX10_least 80 = .ok (.iload_n 3, 1) := by decide +kernel
theorem dX10_least_81 : decode cX10_least 81 = .ok (.iconst (-1), 1) := by decide +kernel
theorem dX10_least_82 : decode cX10_least 82 = .ok (.if_icmp .eq 24, 3) := by decide +kernel
theorem dX10_least_85 : decode cX10_least 85 = .ok (.aload_n 0, 1) := by decide +kernel
theorem dX10_least_86 : decode cX10_least 86 = .ok (.iload 5, 2) := by decide +kernel
theorem dX10_least_88 : decode cX10_least 88 = .ok (.iload 6, 2) := by decide +kernel
theorem dX10_least_90 : decode cX10_least 90 = .ok (.invokevirtual 303, 3) := by decide +kernel
theorem dX10_least_93 : decode cX10_least 93 = .ok (.aload_n 0, 1) := by decide +kernel
theorem dX10_least_94 : decode cX10_least 94 = .ok (.iload_n 3, 1) := by decide +kernel
theorem dX10_least_95 : decode cX10_least 95 = .ok (.iload 4, 2) := by decide +kernel
theorem dX10_least_97 : decode cX10_least 97 = .ok (.invokevirtual 303, 3) := by decide +kernel
theorem dX10_least_100 : decode cX10_least 100 = .ok (.if_icmp .lt 6, 3) := by decide +kernel
theorem dX10_least_103 : decode cX10_least 103 = .ok (.goto 10, 3) := by decide +kernel
theorem dX10_least_106 : decode cX10_least 106 = .ok (.iload 5, 2) := by decide +kernel
theorem dX10_least_108 : decode cX10_least 108 = .ok (.istore_n 3, 1) := by decide +kernel
theorem dX10_least_109 : decode cX10_least 109 = .ok (.iload 6, 2) := by decide +kernel
theorem dX10_least_111 : decode cX10_least 111 = .ok (.istore 4, 2) := by decide +kernel
theorem dX10_least_113 : decode cX10_least 113 = .ok (.iinc 5 1, 3) := by decide +kernel
theorem dX10_least_116 : decode cX10_least 116 = .ok (.goto (-66), 3) := by decide +kernel
theorem dX10_least_119 : decode cX10_least 119 = .ok (.iload_n 3, 1) := by decide +kernel
theorem dX10_least_120 : decode cX10_least 120 = .ok (.iconst (-1), 1) := by decide +kernel
theorem dX10_least_121 : decode cX10_least 121 = .ok (.if_icmp .ne 7, 3) := by decide +kernel
theorem dX10_least_124 : decode cX10_least 124 = .ok (.iconst (-1), 1) := by decide +kernel
theorem dX10_least_125 : decode cX10_least 125 = .ok (.goto 28, 3) := by decide +kernel
theorem dX10_least_128 : decode cX10_least 128 = .ok (.iload_n 2, 1) := by decide +kernel
theorem dX10_least_129 : decode cX10_least 129 = .ok (.ifCond .ne 7, 3) := by decide +kernel
theorem dX10_least_132 : decode cX10_least 132 = .ok (.iload_n 3, 1) := by decide +kernel
theorem dX10_least_133 : decode cX10_least 133 = .ok (.goto 20, 3) := by decide +kernel
theorem dX10_least_136 : decode cX10_least 136 = .ok (.iload_n 2, 1) := by decide +kernel
theorem dX10_least_137 : decode cX10_least 137 = .ok (.iconst 1, 1) := by decide +kernel
theorem dX10_least_138 : decode cX10_least 138 = .ok (.if_icmp .ne 8, 3) := by decide +kernel
theorem dX10_least_141 : decode cX10_least 141 = .ok (.iload 4, 2) := by decide +kernel
theorem dX10_least_143 : decode cX10_least 143 = .ok (.goto 10, 3) := by decide +kernel
theorem dX10_least_146 : decode cX10_least 146 = .ok (.aload_n 0, 1) := by decide +kernel
theorem dX10_least_147 : decode cX10_least 147 = .ok (.iload_n 3, 1) := by decide +kernel
theorem dX10_least_148 : decode cX10_least 148 = .ok (.iload 4, 2) := by decide +kernel
theorem dX10_least_150 : decode cX10_least 150 = .ok (.invokevirtual 303, 3) := by decide +kernel
theorem dX10_least_153 : decode cX10_least 153 = .ok (.ireturn, 1) := by decide +kernel
theorem dX10_most_0 : decode cX10_most 0 = .ok (.aload_n 0, 1) := by decide +kernel
theorem dX10_most_1 : decode cX10_most 1 = .ok (.iconst 0, 1) := by decide +kernel
theorem dX10_most_2 : decode cX10_most 2 = .ok (.putfield 142, 3) := by decide +kernel
theorem dX10_most_5 : decode cX10_most 5 = .ok (.aload_n 0, 1) := by decide +kernel
theorem dX10_most_6 : decode cX10_most 6 = .ok (.iload_n 1, 1) := by decide +kernel
theorem dX10_most_7 : decode cX10_most 7 = .ok (.iconst 1, 1) := by decide +kernel
theorem dX10_most_8 : decode cX10_most 8 = .ok (.sipush 600, 3) := by decide +kernel
theorem dX10_most_11 : decode cX10_most 11 = .ok (.invokestatic 151, 3) := by decide +kernel
theorem dX10_most_14 : decode cX10_most 14 = .ok (.ifCond .ne 7, 3) := by decide +kernel
theorem dX10_most_17 : decode cX10_most 17 = .ok (.iconst 1, 1) := by decide +kernel
theorem dX10_most_18 : decode cX10_most 18 = .ok (.goto 4, 3) := by decide +kernel
theorem dX10_most_21 : decode cX10_most 21 = .ok (.iconst 0, 1) := by decide +kernel
theorem dX10_most_22 : decode cX10_most 22 = .ok (.iconst 1, 1) := by decide +kernel
theorem dX10_most_23 : decode cX10_most 23 = .ok (.invokevirtual 309, 3) := by decide +kernel
theorem dX10_most_26 : decode cX10_most 26 = .ok (.ifCond .eq 5, 3) := by decide +kernel
theorem dX10_most_29 : decode cX10_most 29 = .ok (.iconst 0, 1) := by decide +kernel
theorem dX10_most_30 : decode cX10_most 30 = .ok (.ireturn, 1) := by decide +kernel
theorem dX10_most_31 : decode cX10_most 31 = .ok (.iconst 0, 1) := by decide +kernel
theorem dX10_most_32 : decode cX10_most 32 = .ok (.istore_n 2, 1) := by decide +kernel
theorem dX10_most_33 : decode cX10_most 33 = .ok (.iconst 0, 1) := by decide +kernel
theorem dX10_most_34 : decode cX10_most 34 = .ok (.istore_n 3, 1) := by decide +kernel
theorem dX10_most_35 : decode cX10_most 35 = .ok (.iload_n 3, 1) := by decide +kernel
theorem dX10_most_36 : decode cX10_most 36 = .ok (.aload_n 0, 1) := by decide +kernel
theorem dX10_most_37 : decode cX10_most 37 = .ok (.getfield 179, 3) := by decide +kernel
theorem dX10_most_40 : decode cX10_most 40 = .ok (.if_icmp .ge 103, 3) := by decide +kernel
theorem dX10_most_43 : decode cX10_most 43 = .ok (.iconst 0, 1) := by decide +kernel
theorem dX10_most_44 : decode cX10_most 44 = .ok (.istore 4, 2) := by decide +kernel
theorem dX10_most_46 : decode cX10_most 46 = .ok (.iload_n 3, 1) := by decide +kernel
theorem dX10_most_47 : decode cX10_most 47 = .ok (.istore 5, 2) := by decide +kernel
theorem dX10_most_49 : decode cX10_most 49 = .ok (.iload 5, 2) := by decide +kernel
theorem dX10_most_51 : decode cX10_most 51 = .ok (.aload_n 0, 1) := by decide +kernel
theorem dX10_most_52 : decode cX10_most 52 = .ok (.getfield 179, 3) := by decide +kernel
theorem dX10_most_55 : decode cX10_most 55 = .ok (.if_icmp .ge 63, 3) := by decide +kernel
theorem dX10_most_58 : decode cX10_most 58 = .ok (.aload_n 0, 1) := by decide +kernel
theorem dX10_most_59 : decode cX10_most 59 = .ok (.iload_n 3, 1) := by decide +kernel
theorem dX10_most_60 : decode cX10_most 60 = .ok (.iload 5, 2) := by decide +kernel
theorem dX10_most_62 : decode cX10_most 62 = .ok (.invokevirtual 303, 3) := by decide +kernel
theorem dX10_most_65 : decode cX10_most 65 = .ok (.iload_n 1, 1) := by decide +kernel
theorem dX10_most_66 : decode cX10_most 66 = .ok (.if_icmp .gt 52, 3) := by decide +kernel
theorem dX10_most_69 : decode cX10_most 69 = .ok (.iconst 0, 1) := by decide +kernel
theorem dX10_most_70 : decode cX10_most 70 = .ok (.istore 6, 2) := by decide +kernel
theorem dX10_most_72 : decode cX10_most 72 = .ok (.iload 6, 2) := by decide +kernel
theorem dX10_most_74 : decode cX10_most 74 = .ok (.aload_n 0, 1) := by decide +kernel
theorem dX10_most_75 : decode cX10_most 75 = .ok (.getfield 271, 3) := by decide +kernel
theorem dX10_most_78 : decode cX10_most 78 = .ok (.if_icmp .ge 34, 3) := by decide +kernel
theorem dX10_most_81 : decode cX10_most 81 = .ok (.iload 4, 2) := by decide +kernel
theorem dX10_most_83 : decode cX10_most 83 = .ok (.aload_n 0, 1) := by decide +kernel
theorem dX10_most_84 : decode cX10_most 84 = .ok (.iload 6, 2) := by decide +kernel
theorem dX10_most_86 : decode cX10_most 86 = .ok (.iload 5, 2) := by decide +kernel
theorem dX10_most_88 : decode cX10_most 88 = .ok (.iload_n 3, 1) := by decide +kernel
theorem dX10_most_89 : decode cX10_most 89 = .ok (.invokevirtual 297, 3) := by decide +kernel
theorem dX10_most_92 : decode cX10_most 92 = .ok (.ifCond .eq 10, 3) := by decide +kernel
theorem dX10_most_95 : decode cX10_most 95 = .ok (.iconst 1, 1) := by decide +kernel
theorem dX10_most_96 : decode cX10_most 96 = .ok (.iload 6, 2) := by decide +kernel
theorem dX10_most_98 : decode cX10_most 98 = .ok (.ishl, 1) := by decide +kernel
theorem dX10_most_99 : decode cX10_most 99 = .ok (.goto 4, 3) := by decide +kernel
theorem dX10_most_102 : decode cX10_most 102 = .ok (.iconst 0, 1) := by decide +kernel
theorem dX10_most_103 : decode cX10_most 103 = .ok (.ior, 1) := by decide +kernel
theorem dX10_most_104 : decode cX10_most 104 = .ok (.istore 4, 2) := by decide +kernel
theorem dX10_most_106 : decode cX10_most 106 = .ok (.iinc 6 1, 3) := by decide +kernel
theorem dX10_most_109 : decode cX10_most 109 = .ok (.goto (-37), 3) := by decide +kernel
theorem dX10_most_112 : decode cX10_most 112 = .ok (.iinc 5 1, 3) := by decide +kernel
theorem dX10_most_115 : decode cX10_most 115 = .ok (.goto (-66), 3) := by decide +kernel
theorem dX10_most_118 : decode cX10_most 118 = .ok (.iload 4, 2) := by decide +kernel
theorem dX10_most_120 : decode cX10_most 120 = .ok (.invokestatic 319, 3) := by decide +kernel
theorem dX10_most_123 : decode cX10_most 123 = .ok (.iload_n 2, 1) := by decide +kernel
theorem dX10_most_124 : decode cX10_most 124 = .ok (.if_icmp .le 11, 3) := by decide +kernel
theorem dX10_most_127 : decode cX10_most 127 = .ok (.iload 4, 2) := by decide +kernel
theorem dX10_most_129 : decode cX10_most 129 = .ok (.invokestatic 319, 3) := by decide +kernel
theorem dX10_most_132 : decode cX10_most 132 = .ok (.goto 4, 3) := by decide +kernel
theorem dX10_most_135 : decode cX10_most 135 = .ok (.iload_n 2, 1) := by decide +kernel
theorem dX10_most_136 : decode cX10_most 136 = .ok (.istore_n 2, 1) := by decide +kernel
theorem dX10_most_137 : decode cX10_most 137 = .ok (.iinc 3 1, 3) := by decide +kernel
theorem dX10_most_140 : decode cX10_most 140 = .ok (.goto (-105), 3) := by decide +kernel
theorem dX10_most_143 : decode cX10_most 143 = .ok (.iload_n 2, 1) := by decide +kernel
theorem dX10_most_144 : decode cX10_most 144 = .ok (.ireturn, 1) := by decide +kernel
theorem dX10_widest_0 : decode cX10_widest 0 = .ok (.aload_n 0, 1) := by decide +kernel
theorem dX10_widest_1 : decode cX10_widest 1 = .ok (.iconst 0, 1) := by decide +kernel
theorem dX10_widest_2 : decode cX10_widest 2 = .ok (.putfield 142, 3) := by decide +kernel
theorem dX10_widest_5 : decode cX10_widest 5 = .ok (.aload_n 0, 1) := by decide +kernel
theorem dX10_widest_6 : decode cX10_widest 6 = .ok (.iload_n 2, 1) := by decide +kernel
theorem dX10_widest_7 : decode cX10_widest 7 = .ok (.iconst 0, 1) := by decide +kernel
theorem dX10_widest_8 : decode cX10_widest 8 = .ok (.iconst 3, 1) := by decide +kernel
theorem dX10_widest_9 : decode cX10_widest 9 = .ok (.invokestatic 151, 3) := by decide +kernel
theorem dX10_widest_12 : decode cX10_widest 12 = .ok (.ifCond .ne 7, 3) := by decide +kernel
theorem dX10_widest_15 : decode cX10_widest 15 = .ok (.iconst 1, 1) := by decide +kernel
theorem dX10_widest_16 : decode cX10_widest 16 = .ok (.goto 4, 3) := by decide +kernel
theorem dX10_widest_19 : decode cX10_widest 19 = .ok (.iconst 0, 1) := by decide +kernel
theorem dX10_widest_20 : decode cX10_widest 20 = .ok (.iconst 1, 1) := by decide +kernel
theorem dX10_widest_21 : decode cX10_widest 21 = .ok (.invokevirtual 309, 3) := by decide +kernel
theorem dX10_widest_24 : decode cX10_widest 24 = .ok (.ifCond .ne 27, 3) := by decide +kernel
theorem dX10_widest_27 : decode cX10_widest 27 = .ok (.aload_n 0, 1) := by decide +kernel
theorem dX10_widest_28 : decode cX10_widest 28 = .ok (.iload_n 1, 1) := by decide +kernel
theorem dX10_widest_29 : decode cX10_widest 29 = .ok (.iconst 1, 1) := by decide +kernel
theorem dX10_widest_30 : decode cX10_widest 30 = .ok (.sipush 600, 3) := by decide +kernel
theorem dX10_widest_33 : decode cX10_widest 33 = .ok (.invokestatic 151, 3) := by decide +kernel
theorem dX10_widest_36 : decode cX10_widest 36 = .ok (.ifCond .ne 7, 3) := by decide +kernel
theorem dX10_widest_39 : decode cX10_widest 39 = .ok (.iconst 1, 1) := by decide +kernel
theorem dX10_widest_40 : decode cX10_widest 40 = .ok (.goto 4, 3) := by decide +kernel
theorem dX10_widest_43 : decode cX10_widest 43 = .ok (.iconst 0, 1) := by decide +kernel
theorem dX10_widest_44 : decode cX10_widest 44 = .ok (.iconst 2, 1) := by decide +kernel
theorem dX10_widest_45 : decode cX10_widest 45 = .ok (.invokevirtual 309, 3) := by decide +kernel
theorem dX10_widest_48 : decode cX10_widest 48 = .ok (.ifCond .eq 5, 3) := by decide +kernel
theorem dX10_widest_51 : decode cX10_widest 51 = .ok (.iconst 0, 1) := by decide +kernel
theorem dX10_widest_52 : decode cX10_widest 52 = .ok (.ireturn, 1) := by decide +kernel
theorem dX10_widest_53 : decode cX10_widest 53 = .ok (.aload_n 0, 1) := by decide +kernel
theorem dX10_widest_54 : decode cX10_widest 54 = .ok (.iconst 0, 1) := by decide +kernel
theorem dX10_widest_55 : decode cX10_widest 55 = .ok (.aload_n 0, 1) := by decide +kernel
theorem dX10_widest_56 : decode cX10_widest 56 = .ok (.getfield 179, 3) := by decide +kernel
theorem dX10_widest_59 : decode cX10_widest 59 = .ok (.iconst 1, 1) := by decide +kernel
theorem dX10_widest_60 : decode cX10_widest 60 = .ok (.isub, 1) := by decide +kernel
theorem dX10_widest_61 : decode cX10_widest 61 = .ok (.iload_n 1, 1) := by decide +kernel
theorem dX10_widest_62 : decode cX10_widest 62 = .ok (.invokevirtual 322, 3) := by decide +kernel
theorem dX10_widest_65 : decode cX10_widest 65 = .ok (.ifCond .eq 12, 3) := by decide +kernel
theorem dX10_widest_68 : decode cX10_widest 68 = .ok (.aload_n 0, 1) := by decide +kernel
theorem dX10_widest_69 : decode cX10_widest 69 = .ok (.getfield 109, 3) := by decide +kernel
theorem dX10_widest_72 : decode cX10_widest 72 = .ok (.iload_n 2, 1) := by decide +kernel
theorem dX10_widest_73 : decode cX10_widest 73 = .ok (.iaload, 1) := by decide +kernel
theorem dX10_widest_74 : decode cX10_widest 74 = .ok (.goto 13, 3) := by decide +kernel
theorem dX10_widest_77 : decode cX10_widest 77 = .ok (.iload_n 2, 1) := by decide +kernel
theorem dX10_widest_78 : decode cX10_widest 78 = .ok (.iconst 3, 1) := by decide +kernel
theorem dX10_widest_79 : decode cX10_widest 79 = .ok (.if_icmp .ne 7, 3) := by decide +kernel
theorem dX10_widest_82 : decode cX10_widest 82 = .ok (.iconst 0, 1) := by decide +kernel
theorem dX10_widest_83 : decode cX10_widest 83 = .ok (.goto 4, 3) := by decide +kernel
theorem dX10_widest_86 : decode cX10_widest 86 = .ok (.iconst (-1), 1) := by decide +kernel
theorem dX10_widest_87 : decode cX10_widest 87 = .ok (.ireturn, 1) := by decide +kernel
theorem dX10_firstWord_0 : decode cX10_firstWord 0 = .ok (.iconst 0, 1) := by decide +kernel
theorem dX10_firstWord_1 : decode cX10_firstWord 1 = .ok (.istore_n 2, 1) := by decide +kernel
theorem dX10_firstWord_2 : decode cX10_firstWord 2 = .ok (.iload_n 2, 1) := by decide +kernel
theorem dX10_firstWord_3 : decode cX10_firstWord 3 = .ok (.aload_n 0, 1) := by decide +kernel
theorem dX10_firstWord_4 : decode cX10_firstWord 4 = .ok (.getfield 179, 3) := by decide +kernel
theorem dX10_firstWord_7 : decode cX10_firstWord 7 = .ok (.if_icmp .ge 21, 3) := by decide +kernel
theorem dX10_firstWord_10 : decode cX10_firstWord 10 = .ok (.aload_n 0, 1) := by decide +kernel
theorem dX10_firstWord_11 : decode cX10_firstWord 11 = .ok (.getfield 29, 3) := by decide +kernel
theorem dX10_firstWord_14 : decode cX10_firstWord 14 = .ok (.iload_n 2, 1) := by decide +kernel
theorem dX10_firstWord_15 : decode cX10_firstWord 15 = .ok (.iaload, 1) := by decide +kernel
theorem dX10_firstWord_16 : decode cX10_firstWord 16 = .ok (.iload_n 1, 1) := by decide +kernel
theorem dX10_firstWord_17 : decode cX10_firstWord 17 = .ok (.if_icmp .ne 5, 3) := by decide +kernel
theorem dX10_firstWord_20 : decode cX10_firstWord 20 = .ok (.iload_n 2, 1) := by decide +kernel
theorem dX10_firstWord_21 : decode cX10_firstWord 21 = .ok (.ireturn, 1) := by decide +kernel
theorem dX10_firstWord_22 : decode cX10_firstWord 22 = .ok (.iinc 2 1, 3) := by decide +kernel
theorem dX10_firstWord_25 : decode cX10_firstWord 25 = .ok (.goto (-23), 3) := by decide +kernel
theorem dX10_firstWord_28 : decode cX10_firstWord 28 = .ok (.iconst (-1), 1) := by decide +kernel
theorem dX10_firstWord_29 : decode cX10_firstWord 29 = .ok (.ireturn, 1) := by decide +kernel
theorem dX10_wordsIn_0 : decode cX10_wordsIn 0 = .ok (.iconst 0, 1) := by decide +kernel
theorem dX10_wordsIn_1 : decode cX10_wordsIn 1 = .ok (.istore_n 2, 1) := by decide +kernel
theorem dX10_wordsIn_2 : decode cX10_wordsIn 2 = .ok (.iconst 0, 1) := by decide +kernel
theorem dX10_wordsIn_3 : decode cX10_wordsIn 3 = .ok (.istore_n 3, 1) := by decide +kernel
theorem dX10_wordsIn_4 : decode cX10_wordsIn 4 = .ok (.iload_n 3, 1) := by decide +kernel
theorem dX10_wordsIn_5 : decode cX10_wordsIn 5 = .ok (.aload_n 0, 1) := by decide +kernel
theorem dX10_wordsIn_6 : decode cX10_wordsIn 6 = .ok (.getfield 179, 3) := by decide +kernel
theorem dX10_wordsIn_9 : decode cX10_wordsIn 9 = .ok (.if_icmp .ge 27, 3) := by decide +kernel
theorem dX10_wordsIn_12 : decode cX10_wordsIn 12 = .ok (.iload_n 2, 1) := by decide +kernel
theorem dX10_wordsIn_13 : decode cX10_wordsIn 13 = .ok (.aload_n 0, 1) := by decide +kernel
theorem dX10_wordsIn_14 : decode cX10_wordsIn 14 = .ok (.getfield 29, 3) := by decide +kernel
theorem dX10_wordsIn_17 : decode cX10_wordsIn 17 = .ok (.iload_n 3, 1) := by decide +kernel
theorem dX10_wordsIn_18 : decode cX10_wordsIn 18 = .ok (.iaload, 1) := by decide +kernel
theorem dX10_wordsIn_19 : decode cX10_wordsIn 19 = .ok (.iload_n 1, 1) := by decide +kernel
theorem dX10_wordsIn_20 : decode cX10_wordsIn 20 = .ok (.if_icmp .ne 7, 3) := by decide +kernel
theorem dX10_wordsIn_23 : decode cX10_wordsIn 23 = .ok (.iconst 1, 1) := by decide +kernel
theorem dX10_wordsIn_24 : decode cX10_wordsIn 24 = .ok (.goto 4, 3) := by decide +kernel
theorem dX10_wordsIn_27 : decode cX10_wordsIn 27 = .ok (.iconst 0, 1) := by decide +kernel
theorem dX10_wordsIn_28 : decode cX10_wordsIn 28 = .ok (.iadd, 1) := by decide +kernel
theorem dX10_wordsIn_29 : decode cX10_wordsIn 29 = .ok (.istore_n 2, 1) := by decide +kernel
theorem dX10_wordsIn_30 : decode cX10_wordsIn 30 = .ok (.iinc 3 1, 3) := by decide +kernel
theorem dX10_wordsIn_33 : decode cX10_wordsIn 33 = .ok (.goto (-29), 3) := by decide +kernel
theorem dX10_wordsIn_36 : decode cX10_wordsIn 36 = .ok (.iload_n 2, 1) := by decide +kernel
theorem dX10_wordsIn_37 : decode cX10_wordsIn 37 = .ok (.ireturn, 1) := by decide +kernel
theorem dX10_cuts_0 : decode cX10_cuts 0 = .ok (.aload_n 0, 1) := by decide +kernel
theorem dX10_cuts_1 : decode cX10_cuts 1 = .ok (.iload_n 1, 1) := by decide +kernel
theorem dX10_cuts_2 : decode cX10_cuts 2 = .ok (.invokevirtual 325, 3) := by decide +kernel
theorem dX10_cuts_5 : decode cX10_cuts 5 = .ok (.istore_n 3, 1) := by decide +kernel
theorem dX10_cuts_6 : decode cX10_cuts 6 = .ok (.iload_n 3, 1) := by decide +kernel
theorem dX10_cuts_7 : decode cX10_cuts 7 = .ok (.aload_n 0, 1) := by decide +kernel
theorem dX10_cuts_8 : decode cX10_cuts 8 = .ok (.iload_n 1, 1) := by decide +kernel
theorem dX10_cuts_9 : decode cX10_cuts 9 = .ok (.invokevirtual 328, 3) := by decide +kernel
theorem dX10_cuts_12 : decode cX10_cuts 12 = .ok (.iadd, 1) := by decide +kernel
theorem dX10_cuts_13 : decode cX10_cuts 13 = .ok (.iconst 1, 1) := by decide +kernel
theorem dX10_cuts_14 : decode cX10_cuts 14 = .ok (.isub, 1) := by decide +kernel
theorem dX10_cuts_15 : decode cX10_cuts 15 = .ok (.istore 4, 2) := by decide +kernel
theorem dX10_cuts_17 : decode cX10_cuts 17 = .ok (.aload_n 0, 1) := by decide +kernel
theorem dX10_cuts_18 : decode cX10_cuts 18 = .ok (.aload_n 0, 1) := by decide +kernel
theorem dX10_cuts_19 : decode cX10_cuts 19 = .ok (.getfield 38, 3) := by decide +kernel
theorem dX10_cuts_22 : decode cX10_cuts 22 = .ok (.iload_n 1, 1) := by decide +kernel
theorem dX10_cuts_23 : decode cX10_cuts 23 = .ok (.iaload, 1) := by decide +kernel
theorem dX10_cuts_24 : decode cX10_cuts 24 = .ok (.aload_n 0, 1) := by decide +kernel
theorem dX10_cuts_25 : decode cX10_cuts 25 = .ok (.getfield 35, 3) := by decide +kernel
theorem dX10_cuts_28 : decode cX10_cuts 28 = .ok (.iload_n 1, 1) := by decide +kernel
theorem dX10_cuts_29 : decode cX10_cuts 29 = .ok (.iaload, 1) := by decide +kernel
theorem dX10_cuts_30 : decode cX10_cuts 30 = .ok (.isub, 1) := by decide +kernel
theorem dX10_cuts_31 : decode cX10_cuts 31 = .ok (.iload_n 2, 1) := by decide +kernel
theorem dX10_cuts_32 : decode cX10_cuts 32 = .ok (.if_icmp .gt 7, 3) := by decide +kernel
theorem dX10_cuts_35 : decode cX10_cuts 35 = .ok (.iconst 1, 1) := by decide +kernel
theorem dX10_cuts_36 : decode cX10_cuts 36 = .ok (.goto 4, 3) := by decide +kernel
theorem dX10_cuts_39 : decode cX10_cuts 39 = .ok (.iconst 0, 1) := by decide +kernel
theorem dX10_cuts_40 : decode cX10_cuts 40 = .ok (.putfield 331, 3) := by decide +kernel
theorem dX10_cuts_43 : decode cX10_cuts 43 = .ok (.aload_n 0, 1) := by decide +kernel
theorem dX10_cuts_44 : decode cX10_cuts 44 = .ok (.iload_n 3, 1) := by decide +kernel
theorem dX10_cuts_45 : decode cX10_cuts 45 = .ok (.putfield 334, 3) := by decide +kernel
theorem dX10_cuts_48 : decode cX10_cuts 48 = .ok (.aload_n 0, 1) := by decide +kernel
theorem dX10_cuts_49 : decode cX10_cuts 49 = .ok (.iload_n 3, 1) := by decide +kernel
theorem dX10_cuts_50 : decode cX10_cuts 50 = .ok (.iconst (-1), 1) := by decide +kernel
theorem dX10_cuts_51 : decode cX10_cuts 51 = .ok (.if_icmp .ne 7, 3) := by decide +kernel
theorem dX10_cuts_54 : decode cX10_cuts 54 = .ok (.iconst (-1), 1) := by decide +kernel
theorem dX10_cuts_55 : decode cX10_cuts 55 = .ok (.goto 5, 3) := by decide +kernel
theorem dX10_cuts_58 : decode cX10_cuts 58 = .ok (.iload 4, 2) := by decide +kernel
theorem dX10_cuts_60 : decode cX10_cuts 60 = .ok (.putfield 337, 3) := by decide +kernel
theorem dX10_cuts_63 : decode cX10_cuts 63 = .ok (.aload_n 0, 1) := by decide +kernel
theorem dX10_cuts_64 : decode cX10_cuts 64 = .ok (.getfield 331, 3) := by decide +kernel
theorem dX10_cuts_67 : decode cX10_cuts 67 = .ok (.ifCond .eq 5, 3) := by decide +kernel
theorem dX10_cuts_70 : decode cX10_cuts 70 = .ok (.iconst 1, 1) := by decide +kernel
theorem dX10_cuts_71 : decode cX10_cuts 71 = .ok (.ireturn, 1) := by decide +kernel
theorem dX10_cuts_72 : decode cX10_cuts 72 = .ok (.iload_n 3, 1) := by decide +kernel
theorem dX10_cuts_73 : decode cX10_cuts 73 = .ok (.iconst (-1), 1) := by decide +kernel
theorem dX10_cuts_74 : decode cX10_cuts 74 = .ok (.if_icmp .ne 5, 3) := by decide +kernel
theorem dX10_cuts_77 : decode cX10_cuts 77 = .ok (.iconst 0, 1) := by decide +kernel
theorem dX10_cuts_78 : decode cX10_cuts 78 = .ok (.ireturn, 1) := by decide +kernel
theorem dX10_cuts_79 : decode cX10_cuts 79 = .ok (.aload_n 0, 1) := by decide +kernel
theorem dX10_cuts_80 : decode cX10_cuts 80 = .ok (.iload_n 3, 1) := by decide +kernel
theorem dX10_cuts_81 : decode cX10_cuts 81 = .ok (.iload 4, 2) := by decide +kernel
theorem dX10_cuts_83 : decode cX10_cuts 83 = .ok (.iload_n 2, 1) := by decide +kernel
theorem dX10_cuts_84 : decode cX10_cuts 84 = .ok (.invokevirtual 322, 3) := by decide +kernel
theorem dX10_cuts_87 : decode cX10_cuts 87 = .ok (.ifCond .eq 25, 3) := by decide +kernel
theorem dX10_cuts_90 : decode cX10_cuts 90 = .ok (.aload_n 0, 1) := by decide +kernel
theorem dX10_cuts_91 : decode cX10_cuts 91 = .ok (.aload_n 0, 1) := by decide +kernel
theorem dX10_cuts_92 : decode cX10_cuts 92 = .ok (.getfield 109, 3) := by decide +kernel
theorem dX10_cuts_95 : decode cX10_cuts 95 = .ok (.iconst 0, 1) := by decide +kernel
theorem dX10_cuts_96 : decode cX10_cuts 96 = .ok (.iaload, 1) := by decide +kernel
theorem dX10_cuts_97 : decode cX10_cuts 97 = .ok (.putfield 334, 3) := by decide +kernel
theorem dX10_cuts_100 : decode cX10_cuts 100 = .ok (.aload_n 0, 1) := by decide +kernel
theorem dX10_cuts_101 : decode cX10_cuts 101 = .ok (.aload_n 0, 1) := by decide +kernel
theorem dX10_cuts_102 : decode cX10_cuts 102 = .ok (.getfield 109, 3) := by decide +kernel
theorem dX10_cuts_105 : decode cX10_cuts 105 = .ok (.iconst 1, 1) := by decide +kernel
theorem dX10_cuts_106 : decode cX10_cuts 106 = .ok (.iaload, 1) := by decide +kernel
theorem dX10_cuts_107 : decode cX10_cuts 107 = .ok (.putfield 337, 3) := by decide +kernel
theorem dX10_cuts_110 : decode cX10_cuts 110 = .ok (.iconst 1, 1) := by decide +kernel
theorem dX10_cuts_111 : decode cX10_cuts 111 = .ok (.ireturn, 1) := by decide +kernel
theorem dX10_cuts_112 : decode cX10_cuts 112 = .ok (.aload_n 0, 1) := by decide +kernel
theorem dX10_cuts_113 : decode cX10_cuts 113 = .ok (.iload_n 3, 1) := by decide +kernel
theorem dX10_cuts_114 : decode cX10_cuts 114 = .ok (.putfield 337, 3) := by decide +kernel
theorem dX10_cuts_117 : decode cX10_cuts 117 = .ok (.aload_n 0, 1) := by decide +kernel
theorem dX10_cuts_118 : decode cX10_cuts 118 = .ok (.getfield 337, 3) := by decide +kernel
theorem dX10_cuts_121 : decode cX10_cuts 121 = .ok (.iload 4, 2) := by decide +kernel
theorem dX10_cuts_123 : decode cX10_cuts 123 = .ok (.if_icmp .ge 31, 3) := by decide +kernel
theorem dX10_cuts_126 : decode cX10_cuts 126 = .ok (.aload_n 0, 1) := by decide +kernel
theorem dX10_cuts_127 : decode cX10_cuts 127 = .ok (.iload_n 3, 1) := by decide +kernel
theorem dX10_cuts_128 : decode cX10_cuts 128 = .ok (.aload_n 0, 1) := by decide +kernel
theorem dX10_cuts_129 : decode cX10_cuts 129 = .ok (.getfield 337, 3) := by decide +kernel
theorem dX10_cuts_132 : decode cX10_cuts 132 = .ok (.iconst 1, 1) := by decide +kernel
theorem dX10_cuts_133 : decode cX10_cuts 133 = .ok (.iadd, 1) := by decide +kernel
theorem dX10_cuts_134 : decode cX10_cuts 134 = .ok (.invokevirtual 303, 3) := by decide +kernel
theorem dX10_cuts_137 : decode cX10_cuts 137 = .ok (.iload_n 2, 1) := by decide +kernel
theorem dX10_cuts_138 : decode cX10_cuts 138 = .ok (.if_icmp .gt 16, 3) := by decide +kernel
theorem dX10_cuts_141 : decode cX10_cuts 141 = .ok (.aload_n 0, 1) := by decide +kernel
theorem dX10_cuts_142 : decode cX10_cuts 142 = .ok (.dup, 1) := by decide +kernel
theorem dX10_cuts_143 : decode cX10_cuts 143 = .ok (.getfield 337, 3) := by decide +kernel
theorem dX10_cuts_146 : decode cX10_cuts 146 = .ok (.iconst 1, 1) := by decide +kernel
theorem dX10_cuts_147 : decode cX10_cuts 147 = .ok (.iadd, 1) := by decide +kernel
theorem dX10_cuts_148 : decode cX10_cuts 148 = .ok (.putfield 337, 3) := by decide +kernel
theorem dX10_cuts_151 : decode cX10_cuts 151 = .ok (.goto (-34), 3) := by decide +kernel
theorem dX10_cuts_154 : decode cX10_cuts 154 = .ok (.aload_n 0, 1) := by decide +kernel
theorem dX10_cuts_155 : decode cX10_cuts 155 = .ok (.iload_n 3, 1) := by decide +kernel
theorem dX10_cuts_156 : decode cX10_cuts 156 = .ok (.aload_n 0, 1) := by decide +kernel
theorem dX10_cuts_157 : decode cX10_cuts 157 = .ok (.getfield 337, 3) := by decide +kernel
theorem dX10_cuts_160 : decode cX10_cuts 160 = .ok (.invokevirtual 303, 3) := by decide +kernel
theorem dX10_cuts_163 : decode cX10_cuts 163 = .ok (.iload_n 2, 1) := by decide +kernel
theorem dX10_cuts_164 : decode cX10_cuts 164 = .ok (.if_icmp .gt 7, 3) := by decide +kernel
theorem dX10_cuts_167 : decode cX10_cuts 167 = .ok (.iconst 1, 1) := by decide +kernel
theorem dX10_cuts_168 : decode cX10_cuts 168 = .ok (.goto 4, 3) := by decide +kernel
theorem dX10_cuts_171 : decode cX10_cuts 171 = .ok (.iconst 0, 1) := by decide +kernel
theorem dX10_cuts_172 : decode cX10_cuts 172 = .ok (.ireturn, 1) := by decide +kernel
theorem dX10_noSentence_0 : decode cX10_noSentence 0 = .ok (.aload_n 0, 1) := by decide +kernel
theorem dX10_noSentence_1 : decode cX10_noSentence 1 = .ok (.iconst 0, 1) := by decide +kernel
theorem dX10_noSentence_2 : decode cX10_noSentence 2 = .ok (.putfield 142, 3) := by decide +kernel
theorem dX10_noSentence_5 : decode cX10_noSentence 5 = .ok (.aload_n 0, 1) := by decide +kernel
theorem dX10_noSentence_6 : decode cX10_noSentence 6 = .ok (.iload_n 1, 1) := by decide +kernel
theorem dX10_noSentence_7 : decode cX10_noSentence 7 = .ok (.iconst 0, 1) := by decide +kernel
theorem dX10_noSentence_8 : decode cX10_noSentence 8 = .ok (.aload_n 0, 1) := by decide +kernel
theorem dX10_noSentence_9 : decode cX10_noSentence 9 = .ok (.getfield 203, 3) := by decide +kernel
theorem dX10_noSentence_12 : decode cX10_noSentence 12 = .ok (.iconst 1, 1) := by decide +kernel
theorem dX10_noSentence_13 : decode cX10_noSentence 13 = .ok (.isub, 1) := by decide +kernel
theorem dX10_noSentence_14 : decode cX10_noSentence 14 = .ok (.invokestatic 151, 3) := by decide +kernel
theorem dX10_noSentence_17 : decode cX10_noSentence 17 = .ok (.ifCond .ne 7, 3) := by decide +kernel
theorem dX10_noSentence_20 : decode cX10_noSentence 20 = .ok (.iconst 1, 1) := by decide +kernel
theorem dX10_noSentence_21 : decode cX10_noSentence 21 = .ok (.goto 4, 3) := by decide +kernel
theorem dX10_noSentence_24 : decode cX10_noSentence 24 = .ok (.iconst 0, 1) := by decide +kernel
theorem dX10_noSentence_25 : decode cX10_noSentence 25 = .ok (.iconst 1, 1) := by decide +kernel
theorem dX10_noSentence_26 : decode cX10_noSentence 26 = .ok (.invokevirtual 309, 3) := by decide +kernel
theorem dX10_noSentence_29 : decode cX10_noSentence 29 = .ok (.ireturn, 1) := by decide +kernel
theorem dX10_cut_0 : decode cX10_cut 0 = .ok (.aload_n 0, 1) := by decide +kernel
theorem dX10_cut_1 : decode cX10_cut 1 = .ok (.iload_n 1, 1) := by decide +kernel
theorem dX10_cut_2 : decode cX10_cut 2 = .ok (.invokevirtual 340, 3) := by decide +kernel
theorem dX10_cut_5 : decode cX10_cut 5 = .ok (.ifCond .ne 50, 3) := by decide +kernel
theorem dX10_cut_8 : decode cX10_cut 8 = .ok (.aload_n 0, 1) := by decide +kernel
theorem dX10_cut_9 : decode cX10_cut 9 = .ok (.iload_n 3, 1) := by decide +kernel
theorem dX10_cut_10 : decode cX10_cut 10 = .ok (.iconst 0, 1) := by decide +kernel
theorem dX10_cut_11 : decode cX10_cut 11 = .ok (.iconst 2, 1) := by decide +kernel
theorem dX10_cut_12 : decode cX10_cut 12 = .ok (.invokestatic 151, 3) := by decide +kernel
theorem dX10_cut_15 : decode cX10_cut 15 = .ok (.ifCond .ne 7, 3) := by decide +kernel
theorem dX10_cut_18 : decode cX10_cut 18 = .ok (.iconst 1, 1) := by decide +kernel
theorem dX10_cut_19 : decode cX10_cut 19 = .ok (.goto 4, 3) := by decide +kernel
theorem dX10_cut_22 : decode cX10_cut 22 = .ok (.iconst 0, 1) := by decide +kernel
theorem dX10_cut_23 : decode cX10_cut 23 = .ok (.iconst 2, 1) := by decide +kernel
theorem dX10_cut_24 : decode cX10_cut 24 = .ok (.invokevirtual 309, 3) := by decide +kernel
theorem dX10_cut_27 : decode cX10_cut 27 = .ok (.ifCond .ne 28, 3) := by decide +kernel
theorem dX10_cut_30 : decode cX10_cut 30 = .ok (.aload_n 0, 1) := by decide +kernel
theorem dX10_cut_31 : decode cX10_cut 31 = .ok (.iload_n 2, 1) := by decide +kernel
theorem dX10_cut_32 : decode cX10_cut 32 = .ok (.bipush 10, 2) := by decide +kernel
theorem dX10_cut_34 : decode cX10_cut 34 = .ok (.sipush 600, 3) := by decide +kernel
theorem dX10_cut_37 : decode cX10_cut 37 = .ok (.invokestatic 151, 3) := by decide +kernel
theorem dX10_cut_40 : decode cX10_cut 40 = .ok (.ifCond .ne 7, 3) := by decide +kernel
theorem dX10_cut_43 : decode cX10_cut 43 = .ok (.iconst 1, 1) := by decide +kernel
theorem dX10_cut_44 : decode cX10_cut 44 = .ok (.goto 4, 3) := by decide +kernel
theorem dX10_cut_47 : decode cX10_cut 47 = .ok (.iconst 0, 1) := by decide +kernel
theorem dX10_cut_48 : decode cX10_cut 48 = .ok (.iconst 3, 1) := by decide +kernel
theorem dX10_cut_49 : decode cX10_cut 49 = .ok (.invokevirtual 309, 3) := by decide +kernel
theorem dX10_cut_52 : decode cX10_cut 52 = .ok (.ifCond .eq 5, 3) := by decide +kernel
theorem dX10_cut_55 : decode cX10_cut 55 = .ok (.iconst 0, 1) := by decide +kernel
theorem dX10_cut_56 : decode cX10_cut 56 = .ok (.ireturn, 1) := by decide +kernel
theorem dX10_cut_57 : decode cX10_cut 57 = .ok (.aload_n 0, 1) := by decide +kernel
theorem dX10_cut_58 : decode cX10_cut 58 = .ok (.iload_n 1, 1) := by decide +kernel
theorem dX10_cut_59 : decode cX10_cut 59 = .ok (.iload_n 2, 1) := by decide +kernel
theorem dX10_cut_60 : decode cX10_cut 60 = .ok (.invokevirtual 343, 3) := by decide +kernel
theorem dX10_cut_63 : decode cX10_cut 63 = .ok (.istore 4, 2) := by decide +kernel
theorem dX10_cut_65 : decode cX10_cut 65 = .ok (.iload_n 3, 1) := by decide +kernel
theorem dX10_cut_66 : decode cX10_cut 66 = .ok (.iconst 2, 1) := by decide +kernel
theorem dX10_cut_67 : decode cX10_cut 67 = .ok (.if_icmp .ne 21, 3) := by decide +kernel
theorem dX10_cut_70 : decode cX10_cut 70 = .ok (.iload 4, 2) := by decide +kernel
theorem dX10_cut_72 : decode cX10_cut 72 = .ok (.ifCond .eq 14, 3) := by decide +kernel
theorem dX10_cut_75 : decode cX10_cut 75 = .ok (.aload_n 0, 1) := by decide +kernel
theorem dX10_cut_76 : decode cX10_cut 76 = .ok (.getfield 331, 3) := by decide +kernel
theorem dX10_cut_79 : decode cX10_cut 79 = .ok (.ifCond .eq 7, 3) := by decide +kernel
theorem dX10_cut_82 : decode cX10_cut 82 = .ok (.iconst 1, 1) := by decide +kernel
theorem dX10_cut_83 : decode cX10_cut 83 = .ok (.goto 4, 3) := by decide +kernel
theorem dX10_cut_86 : decode cX10_cut 86 = .ok (.iconst 0, 1) := by decide +kernel
theorem dX10_cut_87 : decode cX10_cut 87 = .ok (.ireturn, 1) := by decide +kernel
theorem dX10_cut_88 : decode cX10_cut 88 = .ok (.iload 4, 2) := by decide +kernel
theorem dX10_cut_90 : decode cX10_cut 90 = .ok (.ifCond .ne 7, 3) := by decide +kernel
theorem dX10_cut_93 : decode cX10_cut 93 = .ok (.iconst (-1), 1) := by decide +kernel
theorem dX10_cut_94 : decode cX10_cut 94 = .ok (.goto 18, 3) := by decide +kernel
theorem dX10_cut_97 : decode cX10_cut 97 = .ok (.iload_n 3, 1) := by decide +kernel
theorem dX10_cut_98 : decode cX10_cut 98 = .ok (.ifCond .ne 10, 3) := by decide +kernel
theorem dX10_cut_101 : decode cX10_cut 101 = .ok (.aload_n 0, 1) := by decide +kernel
theorem dX10_cut_102 : decode cX10_cut 102 = .ok (.getfield 334, 3) := by decide +kernel
theorem dX10_cut_105 : decode cX10_cut 105 = .ok (.goto 7, 3) := by decide +kernel
theorem dX10_cut_108 : decode cX10_cut 108 = .ok (.aload_n 0, 1) := by decide +kernel
theorem dX10_cut_109 : decode cX10_cut 109 = .ok (.getfield 337, 3) := by decide +kernel
theorem dX10_cut_112 : decode cX10_cut 112 = .ok (.ireturn, 1) := by decide +kernel
theorem dX10_tell_0 : decode cX10_tell 0 = .ok (.aload_n 0, 1) := by decide +kernel
theorem dX10_tell_1 : decode cX10_tell 1 = .ok (.iconst 0, 1) := by decide +kernel
theorem dX10_tell_2 : decode cX10_tell 2 = .ok (.putfield 142, 3) := by decide +kernel
theorem dX10_tell_5 : decode cX10_tell 5 = .ok (.aload_n 0, 1) := by decide +kernel
theorem dX10_tell_6 : decode cX10_tell 6 = .ok (.iload_n 1, 1) := by decide +kernel
theorem dX10_tell_7 : decode cX10_tell 7 = .ok (.iconst 0, 1) := by decide +kernel
theorem dX10_tell_8 : decode cX10_tell 8 = .ok (.iconst 2, 1) := by decide +kernel
theorem dX10_tell_9 : decode cX10_tell 9 = .ok (.invokestatic 151, 3) := by decide +kernel
theorem dX10_tell_12 : decode cX10_tell 12 = .ok (.ifCond .ne 7, 3) := by decide +kernel
theorem dX10_tell_15 : decode cX10_tell 15 = .ok (.iconst 1, 1) := by decide +kernel
theorem dX10_tell_16 : decode cX10_tell 16 = .ok (.goto 4, 3) := by decide +kernel
theorem dX10_tell_19 : decode cX10_tell 19 = .ok (.iconst 0, 1) := by decide +kernel
theorem dX10_tell_20 : decode cX10_tell 20 = .ok (.iconst 1, 1) := by decide +kernel
theorem dX10_tell_21 : decode cX10_tell 21 = .ok (.invokevirtual 309, 3) := by decide +kernel
theorem dX10_tell_24 : decode cX10_tell 24 = .ok (.ifCond .eq 5, 3) := by decide +kernel
theorem dX10_tell_27 : decode cX10_tell 27 = .ok (.iconst 0, 1) := by decide +kernel
theorem dX10_tell_28 : decode cX10_tell 28 = .ok (.ireturn, 1) := by decide +kernel
theorem dX10_tell_29 : decode cX10_tell 29 = .ok (.aload_n 0, 1) := by decide +kernel
theorem dX10_tell_30 : decode cX10_tell 30 = .ok (.iload_n 1, 1) := by decide +kernel
theorem dX10_tell_31 : decode cX10_tell 31 = .ok (.ifCond .ne 23, 3) := by decide +kernel
theorem dX10_tell_34 : decode cX10_tell 34 = .ok (.iload_n 2, 1) := by decide +kernel
theorem dX10_tell_35 : decode cX10_tell 35 = .ok (.bipush 20, 2) := by decide +kernel
theorem dX10_tell_37 : decode cX10_tell 37 = .ok (.sipush 700, 3) := by decide +kernel
theorem dX10_tell_40 : decode cX10_tell 40 = .ok (.invokestatic 151, 3) := by decide +kernel
theorem dX10_tell_43 : decode cX10_tell 43 = .ok (.ifCond .ne 7, 3) := by decide +kernel
theorem dX10_tell_46 : decode cX10_tell 46 = .ok (.iconst 1, 1) := by decide +kernel
theorem dX10_tell_47 : decode cX10_tell 47 = .ok (.goto 45, 3) := by decide +kernel
theorem dX10_tell_50 : decode cX10_tell 50 = .ok (.iconst 0, 1) := by decide +kernel
theorem dX10_tell_51 : decode cX10_tell 51 = .ok (.goto 41, 3) := by decide +kernel
theorem dX10_tell_54 : decode cX10_tell 54 = .ok (.iload_n 1, 1) := by decide +kernel
theorem dX10_tell_55 : decode cX10_tell 55 = .ok (.iconst 1, 1) := by decide +kernel
theorem dX10_tell_56 : decode cX10_tell 56 = .ok (.if_icmp .ne 21, 3) := by decide +kernel
theorem dX10_tell_59 : decode cX10_tell 59 = .ok (.iload_n 2, 1) := by decide +kernel
theorem dX10_tell_60 : decode cX10_tell 60 = .ok (.iconst 1, 1) := by decide +kernel
theorem dX10_tell_61 : decode cX10_tell 61 = .ok (.bipush 6, 2) := by decide +kernel
theorem dX10_tell_63 : decode cX10_tell 63 = .ok (.invokestatic 151, 3) := by decide +kernel
theorem dX10_tell_66 : decode cX10_tell 66 = .ok (.ifCond .ne 7, 3) := by decide +kernel
theorem dX10_tell_69 : decode cX10_tell 69 = .ok (.iconst 1, 1) := by decide +kernel
theorem dX10_tell_70 : decode cX10_tell 70 = .ok (.goto 22, 3) := by decide +kernel
theorem dX10_tell_73 : decode cX10_tell 73 = .ok (.iconst 0, 1) := by decide +kernel
theorem dX10_tell_74 : decode cX10_tell 74 = .ok (.goto 18, 3) := by decide +kernel
theorem dX10_tell_77 : decode cX10_tell 77 = .ok (.iload_n 2, 1) := by decide +kernel
theorem dX10_tell_78 : decode cX10_tell 78 = .ok (.iconst 0, 1) := by decide +kernel
theorem dX10_tell_79 : decode cX10_tell 79 = .ok (.bipush 100, 2) := by decide +kernel
theorem dX10_tell_81 : decode cX10_tell 81 = .ok (.invokestatic 151, 3) := by decide +kernel
theorem dX10_tell_84 : decode cX10_tell 84 = .ok (.ifCond .ne 7, 3) := by decide +kernel
theorem dX10_tell_87 : decode cX10_tell 87 = .ok (.iconst 1, 1) := by decide +kernel
theorem dX10_tell_88 : decode cX10_tell 88 = .ok (.goto 4, 3) := by decide +kernel
theorem dX10_tell_91 : decode cX10_tell 91 = .ok (.iconst 0, 1) := by decide +kernel
theorem dX10_tell_92 : decode cX10_tell 92 = .ok (.iconst 2, 1) := by decide +kernel
theorem dX10_tell_93 : decode cX10_tell 93 = .ok (.invokevirtual 309, 3) := by decide +kernel
theorem dX10_tell_96 : decode cX10_tell 96 = .ok (.ifCond .eq 5, 3) := by decide +kernel
theorem dX10_tell_99 : decode cX10_tell 99 = .ok (.iconst 0, 1) := by decide +kernel
theorem dX10_tell_100 : decode cX10_tell 100 = .ok (.ireturn, 1) := by decide +kernel
theorem dX10_tell_101 : decode cX10_tell 101 = .ok (.iload_n 1, 1) := by decide +kernel
theorem dX10_tell_102 : decode cX10_tell 102 = .ok (.ifCond .ne 10, 3) := by decide +kernel
theorem dX10_tell_105 : decode cX10_tell 105 = .ok (.aload_n 0, 1) := by decide +kernel
theorem dX10_tell_106 : decode cX10_tell 106 = .ok (.getfield 112, 3) := by decide +kernel
theorem dX10_tell_109 : decode cX10_tell 109 = .ok (.goto 19, 3) := by decide +kernel
theorem dX10_tell_112 : decode cX10_tell 112 = .ok (.iload_n 1, 1) := by decide +kernel
theorem dX10_tell_113 : decode cX10_tell 113 = .ok (.iconst 1, 1) := by decide +kernel
theorem dX10_tell_114 : decode cX10_tell 114 = .ok (.if_icmp .ne 10, 3) := by decide +kernel
theorem dX10_tell_117 : decode cX10_tell 117 = .ok (.aload_n 0, 1) := by decide +kernel
theorem dX10_tell_118 : decode cX10_tell 118 = .ok (.getfield 115, 3) := by decide +kernel
theorem dX10_tell_121 : decode cX10_tell 121 = .ok (.goto 7, 3) := by decide +kernel
theorem dX10_tell_124 : decode cX10_tell 124 = .ok (.aload_n 0, 1) := by decide +kernel
theorem dX10_tell_125 : decode cX10_tell 125 = .ok (.getfield 118, 3) := by decide +kernel
theorem dX10_tell_128 : decode cX10_tell 128 = .ok (.istore_n 3, 1) := by decide +kernel
theorem dX10_tell_129 : decode cX10_tell 129 = .ok (.aload_n 0, 1) := by decide +kernel
theorem dX10_tell_130 : decode cX10_tell 130 = .ok (.iload_n 1, 1) := by decide +kernel
theorem dX10_tell_131 : decode cX10_tell 131 = .ok (.ifCond .ne 7, 3) := by decide +kernel
theorem dX10_tell_134 : decode cX10_tell 134 = .ok (.iload_n 2, 1) := by decide +kernel
theorem dX10_tell_135 : decode cX10_tell 135 = .ok (.goto 7, 3) := by decide +kernel
theorem dX10_tell_138 : decode cX10_tell 138 = .ok (.aload_n 0, 1) := by decide +kernel
theorem dX10_tell_139 : decode cX10_tell 139 = .ok (.getfield 112, 3) := by decide +kernel
theorem dX10_tell_142 : decode cX10_tell 142 = .ok (.putfield 112, 3) := by decide +kernel
theorem dX10_tell_145 : decode cX10_tell 145 = .ok (.aload_n 0, 1) := by decide +kernel
theorem dX10_tell_146 : decode cX10_tell 146 = .ok (.iload_n 1, 1) := by decide +kernel
theorem dX10_tell_147 : decode cX10_tell 147 = .ok (.iconst 1, 1) := by decide +kernel
theorem dX10_tell_148 : decode cX10_tell 148 = .ok (.if_icmp .ne 7, 3) := by decide +kernel
theorem dX10_tell_151 : decode cX10_tell 151 = .ok (.iload_n 2, 1) := by decide +kernel
theorem dX10_tell_152 : decode cX10_tell 152 = .ok (.goto 7, 3) := by decide +kernel
theorem dX10_tell_155 : decode cX10_tell 155 = .ok (.aload_n 0, 1) := by decide +kernel
theorem dX10_tell_156 : decode cX10_tell 156 = .ok (.getfield 115, 3) := by decide +kernel
theorem dX10_tell_159 : decode cX10_tell 159 = .ok (.putfield 115, 3) := by decide +kernel
theorem dX10_tell_162 : decode cX10_tell 162 = .ok (.aload_n 0, 1) := by decide +kernel
theorem dX10_tell_163 : decode cX10_tell 163 = .ok (.iload_n 1, 1) := by decide +kernel
theorem dX10_tell_164 : decode cX10_tell 164 = .ok (.iconst 2, 1) := by decide +kernel
theorem dX10_tell_165 : decode cX10_tell 165 = .ok (.if_icmp .ne 7, 3) := by decide +kernel
theorem dX10_tell_168 : decode cX10_tell 168 = .ok (.iload_n 2, 1) := by decide +kernel
theorem dX10_tell_169 : decode cX10_tell 169 = .ok (.goto 7, 3) := by decide +kernel
theorem dX10_tell_172 : decode cX10_tell 172 = .ok (.aload_n 0, 1) := by decide +kernel
theorem dX10_tell_173 : decode cX10_tell 173 = .ok (.getfield 118, 3) := by decide +kernel
theorem dX10_tell_176 : decode cX10_tell 176 = .ok (.putfield 118, 3) := by decide +kernel
theorem dX10_tell_179 : decode cX10_tell 179 = .ok (.aload_n 0, 1) := by decide +kernel
theorem dX10_tell_180 : decode cX10_tell 180 = .ok (.iconst 0, 1) := by decide +kernel
theorem dX10_tell_181 : decode cX10_tell 181 = .ok (.putfield 287, 3) := by decide +kernel
theorem dX10_tell_184 : decode cX10_tell 184 = .ok (.aload_n 0, 1) := by decide +kernel
theorem dX10_tell_185 : decode cX10_tell 185 = .ok (.iconst 0, 1) := by decide +kernel
theorem dX10_tell_186 : decode cX10_tell 186 = .ok (.putfield 221, 3) := by decide +kernel
theorem dX10_tell_189 : decode cX10_tell 189 = .ok (.iload_n 3, 1) := by decide +kernel
theorem dX10_tell_190 : decode cX10_tell 190 = .ok (.ireturn, 1) := by decide +kernel
theorem dX10_hasLike_0 : decode cX10_hasLike 0 = .ok (.aload_n 0, 1) := by decide +kernel
theorem dX10_hasLike_1 : decode cX10_hasLike 1 = .ok (.getfield 41, 3) := by decide +kernel
theorem dX10_hasLike_4 : decode cX10_hasLike 4 = .ok (.bipush 100, 2) := by decide +kernel
theorem dX10_hasLike_6 : decode cX10_hasLike 6 = .ok (.iload_n 1, 1) := by decide +kernel
theorem dX10_hasLike_7 : decode cX10_hasLike 7 = .ok (.imul, 1) := by decide +kernel
theorem dX10_hasLike_8 : decode cX10_hasLike 8 = .ok (.iload_n 2, 1) := by decide +kernel
theorem dX10_hasLike_9 : decode cX10_hasLike 9 = .ok (.iadd, 1) := by decide +kernel
theorem dX10_hasLike_10 : decode cX10_hasLike 10 = .ok (.baload, 1) := by decide +kernel
theorem dX10_hasLike_11 : decode cX10_hasLike 11 = .ok (.ireturn, 1) := by decide +kernel
theorem dX10_commonOf_0 : decode cX10_commonOf 0 = .ok (.iload_n 1, 1) := by decide +kernel
theorem dX10_commonOf_1 : decode cX10_commonOf 1 = .ok (.iload_n 2, 1) := by decide +kernel
theorem dX10_commonOf_2 : decode cX10_commonOf 2 = .ok (.if_icmp .ne 6, 3) := by decide +kernel
theorem dX10_commonOf_5 : decode cX10_commonOf 5 = .ok (.bipush 100, 2) := by decide +kernel
theorem dX10_commonOf_7 : decode cX10_commonOf 7 = .ok (.ireturn, 1) := by decide +kernel
theorem dX10_commonOf_8 : decode cX10_commonOf 8 = .ok (.iconst 0, 1) := by decide +kernel
theorem dX10_commonOf_9 : decode cX10_commonOf 9 = .ok (.istore_n 3, 1) := by decide +kernel
theorem dX10_commonOf_10 : decode cX10_commonOf 10 = .ok (.iconst 0, 1) := by decide +kernel
theorem dX10_commonOf_11 : decode cX10_commonOf 11 = .ok (.istore 4, 2) := by decide +kernel
theorem dX10_commonOf_13 : decode cX10_commonOf 13 = .ok (.iconst 0, 1) := by decide +kernel
theorem dX10_commonOf_14 : decode cX10_commonOf 14 = .ok (.istore 5, 2) := by decide +kernel
theorem dX10_commonOf_16 : decode cX10_commonOf 16 = .ok (.iload 5, 2) := by decide +kernel
theorem dX10_commonOf_18 : decode cX10_commonOf 18 = .ok (.aload_n 0, 1) := by decide +kernel
theorem dX10_commonOf_19 : decode cX10_commonOf 19 = .ok (.getfield 179, 3) := by decide +kernel
theorem dX10_commonOf_22 : decode cX10_commonOf 22 = .ok (.if_icmp .ge 80, 3) := by decide +kernel
theorem dX10_commonOf_25 : decode cX10_commonOf 25 = .ok (.aload_n 0, 1) := by decide +kernel
theorem dX10_commonOf_26 : decode cX10_commonOf 26 = .ok (.getfield 32, 3) := by decide +kernel
theorem dX10_commonOf_29 : decode cX10_commonOf 29 = .ok (.iload 5, 2) := by decide +kernel
theorem dX10_commonOf_31 : decode cX10_commonOf 31 = .ok (.iaload, 1) := by decide +kernel
theorem dX10_commonOf_32 : decode cX10_commonOf 32 = .ok (.iload 5, 2) := by decide +kernel
theorem dX10_commonOf_34 : decode cX10_commonOf 34 = .ok (.if_icmp .eq 6, 3) := by decide +kernel
theorem dX10_commonOf_37 : decode cX10_commonOf 37 = .ok (.goto 59, 3) := by decide +kernel
theorem dX10_commonOf_40 : decode cX10_commonOf 40 = .ok (.aload_n 0, 1) := by decide +kernel
theorem dX10_commonOf_41 : decode cX10_commonOf 41 = .ok (.iload_n 1, 1) := by decide +kernel
theorem dX10_commonOf_42 : decode cX10_commonOf 42 = .ok (.iload 5, 2) := by decide +kernel
theorem dX10_commonOf_44 : decode cX10_commonOf 44 = .ok (.invokevirtual 346, 3) := by decide +kernel
theorem dX10_commonOf_47 : decode cX10_commonOf 47 = .ok (.istore 6, 2) := by decide +kernel
theorem dX10_commonOf_49 : decode cX10_commonOf 49 = .ok (.aload_n 0, 1) := by decide +kernel
theorem dX10_commonOf_50 : decode cX10_commonOf 50 = .ok (.iload_n 2, 1) := by decide +kernel
theorem dX10_commonOf_51 : decode cX10_commonOf 51 = .ok (.iload 5, 2) := by decide +kernel
theorem dX10_commonOf_53 : decode cX10_commonOf 53 = .ok (.invokevirtual 346, 3) := by decide +kernel
theorem dX10_commonOf_56 : decode cX10_commonOf 56 = .ok (.istore 7, 2) := by decide +kernel
theorem dX10_commonOf_58 : decode cX10_commonOf 58 = .ok (.iload_n 3, 1) := by decide +kernel
theorem dX10_commonOf_59 : decode cX10_commonOf 59 = .ok (.iload 6, 2) := by decide +kernel
theorem dX10_commonOf_61 : decode cX10_commonOf 61 = .ok (.ifCond .eq 12, 3) := by decide +kernel
theorem dX10_commonOf_64 : decode cX10_commonOf 64 = .ok (.iload 7, 2) := by decide +kernel
theorem dX10_commonOf_66 : decode cX10_commonOf 66 = .ok (.ifCond .eq 7, 3) := by decide +kernel
theorem dX10_commonOf_69 : decode cX10_commonOf 69 = .ok (.iconst 1, 1) := by decide +kernel
theorem dX10_commonOf_70 : decode cX10_commonOf 70 = .ok (.goto 4, 3) := by decide +kernel
theorem dX10_commonOf_73 : decode cX10_commonOf 73 = .ok (.iconst 0, 1) := by decide +kernel
theorem dX10_commonOf_74 : decode cX10_commonOf 74 = .ok (.iadd, 1) := by decide +kernel
theorem dX10_commonOf_75 : decode cX10_commonOf 75 = .ok (.istore_n 3, 1) := by decide +kernel
theorem dX10_commonOf_76 : decode cX10_commonOf 76 = .ok (.iload 4, 2) := by decide +kernel
theorem dX10_commonOf_78 : decode cX10_commonOf 78 = .ok (.iload 6, 2) := by decide +kernel
theorem dX10_commonOf_80 : decode cX10_commonOf 80 = .ok (.ifCond .ne 8, 3) := by decide +kernel
theorem dX10_commonOf_83 : decode cX10_commonOf 83 = .ok (.iload 7, 2) := by decide +kernel
theorem dX10_commonOf_85 : decode cX10_commonOf 85 = .ok (.ifCond .eq 7, 3) := by decide +kernel
theorem dX10_commonOf_88 : decode cX10_commonOf 88 = .ok (.iconst 1, 1) := by decide +kernel
theorem dX10_commonOf_89 : decode cX10_commonOf 89 = .ok (.goto 4, 3) := by decide +kernel
theorem dX10_commonOf_92 : decode cX10_commonOf 92 = .ok (.iconst 0, 1) := by decide +kernel
theorem dX10_commonOf_93 : decode cX10_commonOf 93 = .ok (.iadd, 1) := by decide +kernel
theorem dX10_commonOf_94 : decode cX10_commonOf 94 = .ok (.istore 4, 2) := by decide +kernel
theorem dX10_commonOf_96 : decode cX10_commonOf 96 = .ok (.iinc 5 1, 3) := by decide +kernel
theorem dX10_commonOf_99 : decode cX10_commonOf 99 = .ok (.goto (-83), 3) := by decide +kernel
theorem dX10_commonOf_102 : decode cX10_commonOf 102 = .ok (.iload 4, 2) := by decide +kernel
theorem dX10_commonOf_104 : decode cX10_commonOf 104 = .ok (.ifCond .ne 7, 3) := by decide +kernel
theorem dX10_commonOf_107 : decode cX10_commonOf 107 = .ok (.iconst 0, 1) := by decide +kernel
theorem dX10_commonOf_108 : decode cX10_commonOf 108 = .ok (.goto 10, 3) := by decide +kernel
theorem dX10_commonOf_111 : decode cX10_commonOf 111 = .ok (.bipush 100, 2) := by decide +kernel
theorem dX10_commonOf_113 : decode cX10_commonOf 113 = .ok (.iload_n 3, 1) := by decide +kernel
theorem dX10_commonOf_114 : decode cX10_commonOf 114 = .ok (.imul, 1) := by decide +kernel
theorem dX10_commonOf_115 : decode cX10_commonOf 115 = .ok (.iload 4, 2) := by decide +kernel
theorem dX10_commonOf_117 : decode cX10_commonOf 117 = .ok (.idiv, 1) := by decide +kernel
theorem dX10_commonOf_118 : decode cX10_commonOf 118 = .ok (.ireturn, 1) := by decide +kernel
theorem dX10_laysLike_0 : decode cX10_laysLike 0 = .ok (.aload_n 0, 1) := by decide +kernel
theorem dX10_laysLike_1 : decode cX10_laysLike 1 = .ok (.invokevirtual 349, 3) := by decide +kernel
theorem dX10_laysLike_4 : decode cX10_laysLike 4 = .ok (.aload_n 0, 1) := by decide +kernel
theorem dX10_laysLike_5 : decode cX10_laysLike 5 = .ok (.getfield 287, 3) := by decide +kernel
theorem dX10_laysLike_8 : decode cX10_laysLike 8 = .ok (.ifCond .eq 4, 3) := by decide +kernel
theorem dX10_laysLike_11 : decode cX10_laysLike 11 = .ok (.return_, 1) := by decide +kernel
theorem dX10_laysLike_12 : decode cX10_laysLike 12 = .ok (.aload_n 0, 1) := by decide +kernel
theorem dX10_laysLike_13 : decode cX10_laysLike 13 = .ok (.iconst 1, 1) := by decide +kernel
theorem dX10_laysLike_14 : decode cX10_laysLike 14 = .ok (.putfield 287, 3) := by decide +kernel
theorem dX10_laysLike_17 : decode cX10_laysLike 17 = .ok (.iconst 0, 1) := by decide +kernel
theorem dX10_laysLike_18 : decode cX10_laysLike 18 = .ok (.istore_n 1, 1) := by decide +kernel
theorem dX10_laysLike_19 : decode cX10_laysLike 19 = .ok (.iload_n 1, 1) := by decide +kernel
theorem dX10_laysLike_20 : decode cX10_laysLike 20 = .ok (.aload_n 0, 1) := by decide +kernel
theorem dX10_laysLike_21 : decode cX10_laysLike 21 = .ok (.getfield 203, 3) := by decide +kernel
theorem dX10_laysLike_24 : decode cX10_laysLike 24 = .ok (.if_icmp .ge 62, 3) := by decide +kernel
theorem dX10_laysLike_27 : decode cX10_laysLike 27 = .ok (.aload_n 0, 1) := by decide +kernel
theorem dX10_laysLike_28 : decode cX10_laysLike 28 = .ok (.getfield 121, 3) := by decide +kernel
theorem dX10_laysLike_31 : decode cX10_laysLike 31 = .ok (.iload_n 1, 1) := by decide +kernel
theorem dX10_laysLike_32 : decode cX10_laysLike 32 = .ok (.iconst 0, 1) := by decide +kernel
theorem dX10_laysLike_33 : decode cX10_laysLike 33 = .ok (.iastore, 1) := by decide +kernel
theorem dX10_laysLike_34 : decode cX10_laysLike 34 = .ok (.iconst 0, 1) := by decide +kernel
theorem dX10_laysLike_35 : decode cX10_laysLike 35 = .ok (.istore_n 2, 1) := by decide +kernel
theorem dX10_laysLike_36 : decode cX10_laysLike 36 = .ok (.iload_n 2, 1) := by decide +kernel
theorem dX10_laysLike_37 : decode cX10_laysLike 37 = .ok (.aload_n 0, 1) := by decide +kernel
theorem dX10_laysLike_38 : decode cX10_laysLike 38 = .ok (.getfield 203, 3) := by decide +kernel
theorem dX10_laysLike_41 : decode cX10_laysLike 41 = .ok (.if_icmp .ge 39, 3) := by decide +kernel
theorem dX10_laysLike_44 : decode cX10_laysLike 44 = .ok (.iload_n 1, 1) := by decide +kernel
theorem dX10_laysLike_45 : decode cX10_laysLike 45 = .ok (.iload_n 2, 1) := by decide +kernel
theorem dX10_laysLike_46 : decode cX10_laysLike 46 = .ok (.if_icmp .eq 28, 3) := by decide +kernel
theorem dX10_laysLike_49 : decode cX10_laysLike 49 = .ok (.aload_n 0, 1) := by decide +kernel
theorem dX10_laysLike_50 : decode cX10_laysLike 50 = .ok (.iload_n 1, 1) := by decide +kernel
theorem dX10_laysLike_51 : decode cX10_laysLike 51 = .ok (.iload_n 2, 1) := by decide +kernel
theorem dX10_laysLike_52 : decode cX10_laysLike 52 = .ok (.invokevirtual 352, 3) := by decide +kernel
theorem dX10_laysLike_55 : decode cX10_laysLike 55 = .ok (.aload_n 0, 1) := by decide +kernel
theorem dX10_laysLike_56 : decode cX10_laysLike 56 = .ok (.getfield 118, 3) := by decide +kernel
theorem dX10_laysLike_59 : decode cX10_laysLike 59 = .ok (.if_icmp .le 15, 3) := by decide +kernel
theorem dX10_laysLike_62 : decode cX10_laysLike 62 = .ok (.aload_n 0, 1) := by decide +kernel
theorem dX10_laysLike_63 : decode cX10_laysLike 63 = .ok (.getfield 121, 3) := by decide +kernel
theorem dX10_laysLike_66 : decode cX10_laysLike 66 = .ok (.iload_n 1, 1) := by decide +kernel
theorem dX10_laysLike_67 : decode cX10_laysLike 67 = .ok (.dup2, 1) := by decide +kernel
theorem dX10_laysLike_68 : decode cX10_laysLike 68 = .ok (.iaload, 1) := by decide +kernel
theorem dX10_laysLike_69 : decode cX10_laysLike 69 = .ok (.iconst 1, 1) := by decide +kernel
theorem dX10_laysLike_70 : decode cX10_laysLike 70 = .ok (.iload_n 2, 1) := by decide +kernel
theorem dX10_laysLike_71 : decode cX10_laysLike 71 = .ok (.ishl, 1) := by decide +kernel
theorem dX10_laysLike_72 : decode cX10_laysLike 72 = .ok (.ior, 1) := by decide +kernel
theorem dX10_laysLike_73 : decode cX10_laysLike 73 = .ok (.iastore, 1) := by decide +kernel
theorem dX10_laysLike_74 : decode cX10_laysLike 74 = .ok (.iinc 2 1, 3) := by decide +kernel
theorem dX10_laysLike_77 : decode cX10_laysLike 77 = .ok (.goto (-41), 3) := by decide +kernel
theorem dX10_laysLike_80 : decode cX10_laysLike 80 = .ok (.iinc 1 1, 3) := by decide +kernel
theorem dX10_laysLike_83 : decode cX10_laysLike 83 = .ok (.goto (-64), 3) := by decide +kernel
theorem dX10_laysLike_86 : decode cX10_laysLike 86 = .ok (.return_, 1) := by decide +kernel
theorem dX10_areUnlike_0 : decode cX10_areUnlike 0 = .ok (.iconst 0, 1) := by decide +kernel
theorem dX10_areUnlike_1 : decode cX10_areUnlike 1 = .ok (.istore_n 2, 1) := by decide +kernel
theorem dX10_areUnlike_2 : decode cX10_areUnlike 2 = .ok (.iload_n 2, 1) := by decide +kernel
theorem dX10_areUnlike_3 : decode cX10_areUnlike 3 = .ok (.aload_n 0, 1) := by decide +kernel
theorem dX10_areUnlike_4 : decode cX10_areUnlike 4 = .ok (.getfield 203, 3) := by decide +kernel
theorem dX10_areUnlike_7 : decode cX10_areUnlike 7 = .ok (.if_icmp .ge 30, 3) := by decide +kernel
theorem dX10_areUnlike_10 : decode cX10_areUnlike 10 = .ok (.iload_n 1, 1) := by decide +kernel
theorem dX10_areUnlike_11 : decode cX10_areUnlike 11 = .ok (.iload_n 2, 1) := by decide +kernel
theorem dX10_areUnlike_12 : decode cX10_areUnlike 12 = .ok (.invokestatic 294, 3) := by decide +kernel
theorem dX10_areUnlike_15 : decode cX10_areUnlike 15 = .ok (.ifCond .eq 16, 3) := by decide +kernel
theorem dX10_areUnlike_18 : decode cX10_areUnlike 18 = .ok (.aload_n 0, 1) := by decide +kernel
theorem dX10_areUnlike_19 : decode cX10_areUnlike 19 = .ok (.getfield 121, 3) := by decide +kernel
theorem dX10_areUnlike_22 : decode cX10_areUnlike 22 = .ok (.iload_n 2, 1) := by decide +kernel
theorem dX10_areUnlike_23 : decode cX10_areUnlike 23 = .ok (.iaload, 1) := by decide +kernel
theorem dX10_areUnlike_24 : decode cX10_areUnlike 24 = .ok (.iload_n 1, 1) := by decide +kernel
theorem dX10_areUnlike_25 : decode cX10_areUnlike 25 = .ok (.iand, 1) := by decide +kernel
theorem dX10_areUnlike_26 : decode cX10_areUnlike 26 = .ok (.ifCond .eq 5, 3) := by decide +kernel
theorem dX10_areUnlike_29 : decode cX10_areUnlike 29 = .ok (.iconst 0, 1) := by decide +kernel
theorem dX10_areUnlike_30 : decode cX10_areUnlike 30 = .ok (.ireturn, 1) := by decide +kernel
theorem dX10_areUnlike_31 : decode cX10_areUnlike 31 = .ok (.iinc 2 1, 3) := by decide +kernel
theorem dX10_areUnlike_34 : decode cX10_areUnlike 34 = .ok (.goto (-32), 3) := by decide +kernel
theorem dX10_areUnlike_37 : decode cX10_areUnlike 37 = .ok (.iconst 1, 1) := by decide +kernel
theorem dX10_areUnlike_38 : decode cX10_areUnlike 38 = .ok (.ireturn, 1) := by decide +kernel
theorem dX10_mayBe_0 : decode cX10_mayBe 0 = .ok (.aload_n 0, 1) := by decide +kernel
theorem dX10_mayBe_1 : decode cX10_mayBe 1 = .ok (.getfield 100, 3) := by decide +kernel
theorem dX10_mayBe_4 : decode cX10_mayBe 4 = .ok (.iload_n 1, 1) := by decide +kernel
theorem dX10_mayBe_5 : decode cX10_mayBe 5 = .ok (.iaload, 1) := by decide +kernel
theorem dX10_mayBe_6 : decode cX10_mayBe 6 = .ok (.iload_n 2, 1) := by decide +kernel
theorem dX10_mayBe_7 : decode cX10_mayBe 7 = .ok (.if_icmp .gt 26, 3) := by decide +kernel
theorem dX10_mayBe_10 : decode cX10_mayBe 10 = .ok (.iload_n 1, 1) := by decide +kernel
theorem dX10_mayBe_11 : decode cX10_mayBe 11 = .ok (.invokestatic 319, 3) := by decide +kernel
theorem dX10_mayBe_14 : decode cX10_mayBe 14 = .ok (.aload_n 0, 1) := by decide +kernel
theorem dX10_mayBe_15 : decode cX10_mayBe 15 = .ok (.getfield 115, 3) := by decide +kernel
theorem dX10_mayBe_18 : decode cX10_mayBe 18 = .ok (.if_icmp .gt 15, 3) := by decide +kernel
theorem dX10_mayBe_21 : decode cX10_mayBe 21 = .ok (.aload_n 0, 1) := by decide +kernel
theorem dX10_mayBe_22 : decode cX10_mayBe 22 = .ok (.iload_n 1, 1) := by decide +kernel
theorem dX10_mayBe_23 : decode cX10_mayBe 23 = .ok (.invokevirtual 355, 3) := by decide +kernel
theorem dX10_mayBe_26 : decode cX10_mayBe 26 = .ok (.ifCond .eq 7, 3) := by decide +kernel
theorem dX10_mayBe_29 : decode cX10_mayBe 29 = .ok (.iconst 1, 1) := by decide +kernel
theorem dX10_mayBe_30 : decode cX10_mayBe 30 = .ok (.goto 4, 3) := by decide +kernel
theorem dX10_mayBe_33 : decode cX10_mayBe 33 = .ok (.iconst 0, 1) := by decide +kernel
theorem dX10_mayBe_34 : decode cX10_mayBe 34 = .ok (.ireturn, 1) := by decide +kernel
theorem dX10_may_0 : decode cX10_may 0 = .ok (.aload_n 0, 1) := by decide +kernel
theorem dX10_may_1 : decode cX10_may 1 = .ok (.iload_n 1, 1) := by decide +kernel
theorem dX10_may_2 : decode cX10_may 2 = .ok (.aload_n 0, 1) := by decide +kernel
theorem dX10_may_3 : decode cX10_may 3 = .ok (.getfield 112, 3) := by decide +kernel
theorem dX10_may_6 : decode cX10_may 6 = .ok (.invokevirtual 358, 3) := by decide +kernel
theorem dX10_may_9 : decode cX10_may 9 = .ok (.ireturn, 1) := by decide +kernel
theorem dX10_nextStep_0 : decode cX10_nextStep 0 = .ok (.iconst (-1), 1) := by decide +kernel
theorem dX10_nextStep_1 : decode cX10_nextStep 1 = .ok (.istore_n 2, 1) := by decide +kernel
theorem dX10_nextStep_2 : decode cX10_nextStep 2 = .ok (.iconst 0, 1) := by decide +kernel
theorem dX10_nextStep_3 : decode cX10_nextStep 3 = .ok (.istore_n 3, 1) := by decide +kernel
theorem dX10_nextStep_4 : decode cX10_nextStep 4 = .ok (.iload_n 3, 1) := by decide +kernel
theorem dX10_nextStep_5 : decode cX10_nextStep 5 = .ok (.aload_n 0, 1) := by decide +kernel
theorem dX10_nextStep_6 : decode cX10_nextStep 6 = .ok (.getfield 203, 3) := by decide +kernel
theorem dX10_nextStep_9 : decode cX10_nextStep 9 = .ok (.if_icmp .ge 148, 3) := by decide +kernel
theorem dX10_nextStep_12 : decode cX10_nextStep 12 = .ok (.iload_n 1, 1) := by decide +kernel
theorem dX10_nextStep_13 : decode cX10_nextStep 13 = .ok (.iload_n 3, 1) := by decide +kernel
theorem dX10_nextStep_14 : decode cX10_nextStep 14 = .ok (.invokestatic 294, 3) := by decide +kernel
theorem dX10_nextStep_17 : decode cX10_nextStep 17 = .ok (.ifCond .ne 134, 3) := by decide +kernel
theorem dX10_nextStep_20 : decode cX10_nextStep 20 = .ok (.aload_n 0, 1) := by decide +kernel
theorem dX10_nextStep_21 : decode cX10_nextStep 21 = .ok (.iload_n 1, 1) := by decide +kernel
theorem dX10_nextStep_22 : decode cX10_nextStep 22 = .ok (.iconst 1, 1) := by decide +kernel
theorem dX10_nextStep_23 : decode cX10_nextStep 23 = .ok (.iload_n 3, 1) := by decide +kernel
theorem dX10_nextStep_24 : decode cX10_nextStep 24 = .ok (.ishl, 1) := by decide +kernel
theorem dX10_nextStep_25 : decode cX10_nextStep 25 = .ok (.ior, 1) := by decide +kernel
theorem dX10_nextStep_26 : decode cX10_nextStep 26 = .ok (.invokevirtual 361, 3) := by decide +kernel
theorem dX10_nextStep_29 : decode cX10_nextStep 29 = .ok (.ifCond .ne 6, 3) := by decide +kernel
theorem dX10_nextStep_32 : decode cX10_nextStep 32 = .ok (.goto 119, 3) := by decide +kernel
theorem dX10_nextStep_35 : decode cX10_nextStep 35 = .ok (.aload_n 0, 1) := by decide +kernel
theorem dX10_nextStep_36 : decode cX10_nextStep 36 = .ok (.getfield 97, 3) := by decide +kernel
theorem dX10_nextStep_39 : decode cX10_nextStep 39 = .ok (.iload_n 1, 1) := by decide +kernel
theorem dX10_nextStep_40 : decode cX10_nextStep 40 = .ok (.iconst 1, 1) := by decide +kernel
theorem dX10_nextStep_41 : decode cX10_nextStep 41 = .ok (.iload_n 3, 1) := by decide +kernel
theorem dX10_nextStep_42 : decode cX10_nextStep 42 = .ok (.ishl, 1) := by decide +kernel
theorem dX10_nextStep_43 : decode cX10_nextStep 43 = .ok (.ior, 1) := by decide +kernel
theorem dX10_nextStep_44 : decode cX10_nextStep 44 = .ok (.iaload, 1) := by decide +kernel
theorem dX10_nextStep_45 : decode cX10_nextStep 45 = .ok (.aload_n 0, 1) := by decide +kernel
theorem dX10_nextStep_46 : decode cX10_nextStep 46 = .ok (.getfield 97, 3) := by decide +kernel
theorem dX10_nextStep_49 : decode cX10_nextStep 49 = .ok (.iload_n 1, 1) := by decide +kernel
theorem dX10_nextStep_50 : decode cX10_nextStep 50 = .ok (.iaload, 1) := by decide +kernel
theorem dX10_nextStep_51 : decode cX10_nextStep 51 = .ok (.isub, 1) := by decide +kernel
theorem dX10_nextStep_52 : decode cX10_nextStep 52 = .ok (.istore 4, 2) := by decide +kernel
theorem dX10_nextStep_54 : decode cX10_nextStep 54 = .ok (.aload_n 0, 1) := by decide +kernel
theorem dX10_nextStep_55 : decode cX10_nextStep 55 = .ok (.getfield 38, 3) := by decide +kernel
theorem dX10_nextStep_58 : decode cX10_nextStep 58 = .ok (.iload_n 3, 1) := by decide +kernel
theorem dX10_nextStep_59 : decode cX10_nextStep 59 = .ok (.iaload, 1) := by decide +kernel
theorem dX10_nextStep_60 : decode cX10_nextStep 60 = .ok (.aload_n 0, 1) := by decide +kernel
theorem dX10_nextStep_61 : decode cX10_nextStep 61 = .ok (.getfield 35, 3) := by decide +kernel
theorem dX10_nextStep_64 : decode cX10_nextStep 64 = .ok (.iload_n 3, 1) := by decide +kernel
theorem dX10_nextStep_65 : decode cX10_nextStep 65 = .ok (.iaload, 1) := by decide +kernel
theorem dX10_nextStep_66 : decode cX10_nextStep 66 = .ok (.isub, 1) := by decide +kernel
theorem dX10_nextStep_67 : decode cX10_nextStep 67 = .ok (.iconst 4, 1) := by decide +kernel
theorem dX10_nextStep_68 : decode cX10_nextStep 68 = .ok (.iadd, 1) := by decide +kernel
theorem dX10_nextStep_69 : decode cX10_nextStep 69 = .ok (.istore 5, 2) := by decide +kernel
theorem dX10_nextStep_71 : decode cX10_nextStep 71 = .ok (.iload 4, 2) := by decide +kernel
theorem dX10_nextStep_73 : decode cX10_nextStep 73 = .ok (.ifCond .gt 6, 3) := by decide +kernel
theorem dX10_nextStep_76 : decode cX10_nextStep 76 = .ok (.goto 75, 3) := by decide +kernel
theorem dX10_nextStep_79 : decode cX10_nextStep 79 = .ok (.iload_n 2, 1) := by decide +kernel
theorem dX10_nextStep_80 : decode cX10_nextStep 80 = .ok (.iconst (-1), 1) := by decide +kernel
theorem dX10_nextStep_81 : decode cX10_nextStep 81 = .ok (.if_icmp .eq 68, 3) := by decide +kernel
theorem dX10_nextStep_84 : decode cX10_nextStep 84 = .ok (.aload_n 0, 1) := by decide +kernel
theorem dX10_nextStep_85 : decode cX10_nextStep 85 = .ok (.getfield 97, 3) := by decide +kernel
theorem dX10_nextStep_88 : decode cX10_nextStep 88 = .ok (.iload_n 1, 1) := by decide +kernel
theorem dX10_nextStep_89 : decode cX10_nextStep 89 = .ok (.iconst 1, 1) := by decide +kernel
theorem dX10_nextStep_90 : decode cX10_nextStep 90 = .ok (.iload_n 2, 1) := by decide +kernel
theorem dX10_nextStep_91 : decode cX10_nextStep 91 = .ok (.ishl, 1) := by decide +kernel
theorem dX10_nextStep_92 : decode cX10_nextStep 92 = .ok (.ior, 1) := by decide +kernel
theorem dX10_nextStep_93 : decode cX10_nextStep 93 = .ok (.iaload, 1) := by decide +kernel
theorem dX10_nextStep_94 : decode cX10_nextStep 94 = .ok (.aload_n 0, 1) := by decide +kernel
theorem dX10_nextStep_95 : decode cX10_nextStep 95 = .ok (.getfield 97, 3) := by decide +kernel
theorem dX10_nextStep_98 : decode cX10_nextStep 98 = .ok (.iload_n 1, 1) := by decide +kernel
theorem dX10_nextStep_99 : decode cX10_nextStep 99 = .ok (.iaload, 1) := by decide +kernel
theorem dX10_nextStep_100 : decode cX10_nextStep 100 = .ok (.isub, 1) := by decide +kernel
theorem dX10_nextStep_101 : decode cX10_nextStep 101 = .ok (.istore 6, 2) := by decide +kernel
theorem dX10_nextStep_103 : decode cX10_nextStep 103 = .ok (.iload 4, 2) := by decide +kernel
theorem dX10_nextStep_105 : decode cX10_nextStep 105 = .ok (.aload_n 0, 1) := by decide +kernel
theorem dX10_nextStep_106 : decode cX10_nextStep 106 = .ok (.getfield 38, 3) := by decide +kernel
theorem dX10_nextStep_109 : decode cX10_nextStep 109 = .ok (.iload_n 2, 1) := by decide +kernel
theorem dX10_nextStep_110 : decode cX10_nextStep 110 = .ok (.iaload, 1) := by decide +kernel
theorem dX10_nextStep_111 : decode cX10_nextStep 111 = .ok (.aload_n 0, 1) := by decide +kernel
theorem dX10_nextStep_112 : decode cX10_nextStep 112 = .ok (.getfield 35, 3) := by decide +kernel
theorem dX10_nextStep_115 : decode cX10_nextStep 115 = .ok (.iload_n 2, 1) := by decide +kernel
theorem dX10_nextStep_116 : decode cX10_nextStep 116 = .ok (.iaload, 1) := by decide +kernel
theorem dX10_nextStep_117 : decode cX10_nextStep 117 = .ok (.isub, 1) := by decide +kernel
theorem dX10_nextStep_118 : decode cX10_nextStep 118 = .ok (.iconst 4, 1) := by decide +kernel
theorem dX10_nextStep_119 : decode cX10_nextStep 119 = .ok (.iadd, 1) := by decide +kernel
theorem dX10_nextStep_120 : decode cX10_nextStep 120 = .ok (.imul, 1) := by decide +kernel
theorem dX10_nextStep_121 : decode cX10_nextStep 121 = .ok (.iload 6, 2) := by decide +kernel
theorem dX10_nextStep_123 : decode cX10_nextStep 123 = .ok (.iload 5, 2) := by decide +kernel
theorem dX10_nextStep_125 : decode cX10_nextStep 125 = .ok (.imul, 1) := by decide +kernel
theorem dX10_nextStep_126 : decode cX10_nextStep 126 = .ok (.isub, 1) := by decide +kernel
theorem dX10_nextStep_127 : decode cX10_nextStep 127 = .ok (.istore 7, 2) := by decide +kernel
theorem dX10_nextStep_129 : decode cX10_nextStep 129 = .ok (.iload 7, 2) := by decide +kernel
theorem dX10_nextStep_131 : decode cX10_nextStep 131 = .ok (.ifCond .lt 20, 3) := by decide +kernel
theorem dX10_nextStep_134 : decode cX10_nextStep 134 = .ok (.iload 7, 2) := by decide +kernel
theorem dX10_nextStep_136 : decode cX10_nextStep 136 = .ok (.ifCond .ne 13, 3) := by decide +kernel
theorem dX10_nextStep_139 : decode cX10_nextStep 139 = .ok (.iload 4, 2) := by decide +kernel
theorem dX10_nextStep_141 : decode cX10_nextStep 141 = .ok (.iload 6, 2) := by decide +kernel
theorem dX10_nextStep_143 : decode cX10_nextStep 143 = .ok (.if_icmp .gt 6, 3) := by decide +kernel
theorem dX10_nextStep_146 : decode cX10_nextStep 146 = .ok (.goto 5, 3) := by decide +kernel
theorem dX10_nextStep_149 : decode cX10_nextStep 149 = .ok (.iload_n 3, 1) := by decide +kernel
theorem dX10_nextStep_150 : decode cX10_nextStep 150 = .ok (.istore_n 2, 1) := by decide +kernel
theorem dX10_nextStep_151 : decode cX10_nextStep 151 = .ok (.iinc 3 1, 3) := by decide +kernel
theorem dX10_nextStep_154 : decode cX10_nextStep 154 = .ok (.goto (-150), 3) := by decide +kernel
theorem dX10_nextStep_157 : decode cX10_nextStep 157 = .ok (.iload_n 2, 1) := by decide +kernel
theorem dX10_nextStep_158 : decode cX10_nextStep 158 = .ok (.ireturn, 1) := by decide +kernel
theorem dX10_laysSteps_0 : decode cX10_laysSteps 0 = .ok (.aload_n 0, 1) := by decide +kernel
theorem dX10_laysSteps_1 : decode cX10_laysSteps 1 = .ok (.invokevirtual 364, 3) := by decide +kernel
theorem dX10_laysSteps_4 : decode cX10_laysSteps 4 = .ok (.aload_n 0, 1) := by decide +kernel
theorem dX10_laysSteps_5 : decode cX10_laysSteps 5 = .ok (.iconst 0, 1) := by decide +kernel
theorem dX10_laysSteps_6 : decode cX10_laysSteps 6 = .ok (.putfield 367, 3) := by decide +kernel
theorem dX10_laysSteps_9 : decode cX10_laysSteps 9 = .ok (.iconst 0, 1) := by decide +kernel
theorem dX10_laysSteps_10 : decode cX10_laysSteps 10 = .ok (.istore_n 1, 1) := by decide +kernel
theorem dX10_laysSteps_11 : decode cX10_laysSteps 11 = .ok (.aload_n 0, 1) := by decide +kernel
theorem dX10_laysSteps_12 : decode cX10_laysSteps 12 = .ok (.iconst 0, 1) := by decide +kernel
theorem dX10_laysSteps_13 : decode cX10_laysSteps 13 = .ok (.invokevirtual 370, 3) := by decide +kernel
theorem dX10_laysSteps_16 : decode cX10_laysSteps 16 = .ok (.istore_n 2, 1) := by decide +kernel
theorem dX10_laysSteps_17 : decode cX10_laysSteps 17 = .ok (.iload_n 2, 1) := by decide +kernel
theorem dX10_laysSteps_18 : decode cX10_laysSteps 18 = .ok (.iconst (-1), 1) := by decide +kernel
theorem dX10_laysSteps_19 : decode cX10_laysSteps 19 = .ok (.if_icmp .eq 38, 3) := by decide +kernel
theorem dX10_laysSteps_22 : decode cX10_laysSteps 22 = .ok (.aload_n 0, 1) := by decide +kernel
theorem dX10_laysSteps_23 : decode cX10_laysSteps 23 = .ok (.getfield 124, 3) := by decide +kernel
theorem dX10_laysSteps_26 : decode cX10_laysSteps 26 = .ok (.aload_n 0, 1) := by decide +kernel
theorem dX10_laysSteps_27 : decode cX10_laysSteps 27 = .ok (.getfield 367, 3) := by decide +kernel
theorem dX10_laysSteps_30 : decode cX10_laysSteps 30 = .ok (.iload_n 2, 1) := by decide +kernel
theorem dX10_laysSteps_31 : decode cX10_laysSteps 31 = .ok (.iastore, 1) := by decide +kernel
theorem dX10_laysSteps_32 : decode cX10_laysSteps 32 = .ok (.aload_n 0, 1) := by decide +kernel
theorem dX10_laysSteps_33 : decode cX10_laysSteps 33 = .ok (.dup, 1) := by decide +kernel
theorem dX10_laysSteps_34 : decode cX10_laysSteps 34 = .ok (.getfield 367, 3) := by decide +kernel
theorem dX10_laysSteps_37 : decode cX10_laysSteps 37 = .ok (.iconst 1, 1) := by decide +kernel
theorem dX10_laysSteps_38 : decode cX10_laysSteps 38 = .ok (.iadd, 1) := by decide +kernel
theorem dX10_laysSteps_39 : decode cX10_laysSteps 39 = .ok (.putfield 367, 3) := by decide +kernel
theorem dX10_laysSteps_42 : decode cX10_laysSteps 42 = .ok (.iload_n 1, 1) := by decide +kernel
theorem dX10_laysSteps_43 : decode cX10_laysSteps 43 = .ok (.iconst 1, 1) := by decide +kernel
theorem dX10_laysSteps_44 : decode cX10_laysSteps 44 = .ok (.iload_n 2, 1) := by decide +kernel
theorem dX10_laysSteps_45 : decode cX10_laysSteps 45 = .ok (.ishl, 1) := by decide +kernel
theorem dX10_laysSteps_46 : decode cX10_laysSteps 46 = .ok (.ior, 1) := by decide +kernel
theorem dX10_laysSteps_47 : decode cX10_laysSteps 47 = .ok (.istore_n 1, 1) := by decide +kernel
theorem dX10_laysSteps_48 : decode cX10_laysSteps 48 = .ok (.aload_n 0, 1) := by decide +kernel
theorem dX10_laysSteps_49 : decode cX10_laysSteps 49 = .ok (.iload_n 1, 1) := by decide +kernel
theorem dX10_laysSteps_50 : decode cX10_laysSteps 50 = .ok (.invokevirtual 370, 3) := by decide +kernel
theorem dX10_laysSteps_53 : decode cX10_laysSteps 53 = .ok (.istore_n 2, 1) := by decide +kernel
theorem dX10_laysSteps_54 : decode cX10_laysSteps 54 = .ok (.goto (-37), 3) := by decide +kernel
theorem dX10_laysSteps_57 : decode cX10_laysSteps 57 = .ok (.iload_n 1, 1) := by decide +kernel
theorem dX10_laysSteps_58 : decode cX10_laysSteps 58 = .ok (.ireturn, 1) := by decide +kernel
theorem dX10_greedy_0 : decode cX10_greedy 0 = .ok (.aload_n 0, 1) := by decide +kernel
theorem dX10_greedy_1 : decode cX10_greedy 1 = .ok (.invokevirtual 373, 3) := by decide +kernel
theorem dX10_greedy_4 : decode cX10_greedy 4 = .ok (.istore_n 1, 1) := by decide +kernel
theorem dX10_greedy_5 : decode cX10_greedy 5 = .ok (.iconst (-1), 1) := by decide +kernel
theorem dX10_greedy_6 : decode cX10_greedy 6 = .ok (.istore_n 2, 1) := by decide +kernel
theorem dX10_greedy_7 : decode cX10_greedy 7 = .ok (.iconst 0, 1) := by decide +kernel
theorem dX10_greedy_8 : decode cX10_greedy 8 = .ok (.istore_n 3, 1) := by decide +kernel
theorem dX10_greedy_9 : decode cX10_greedy 9 = .ok (.iload_n 3, 1) := by decide +kernel
theorem dX10_greedy_10 : decode cX10_greedy 10 = .ok (.aload_n 0, 1) := by decide +kernel
theorem dX10_greedy_11 : decode cX10_greedy 11 = .ok (.getfield 203, 3) := by decide +kernel
theorem dX10_greedy_14 : decode cX10_greedy 14 = .ok (.if_icmp .ge 45, 3) := by decide +kernel
theorem dX10_greedy_17 : decode cX10_greedy 17 = .ok (.aload_n 0, 1) := by decide +kernel
theorem dX10_greedy_18 : decode cX10_greedy 18 = .ok (.iconst 1, 1) := by decide +kernel
theorem dX10_greedy_19 : decode cX10_greedy 19 = .ok (.iload_n 3, 1) := by decide +kernel
theorem dX10_greedy_20 : decode cX10_greedy 20 = .ok (.ishl, 1) := by decide +kernel
theorem dX10_greedy_21 : decode cX10_greedy 21 = .ok (.invokevirtual 361, 3) := by decide +kernel
theorem dX10_greedy_24 : decode cX10_greedy 24 = .ok (.ifCond .eq 29, 3) := by decide +kernel
theorem dX10_greedy_27 : decode cX10_greedy 27 = .ok (.iload_n 2, 1) := by decide +kernel
theorem dX10_greedy_28 : decode cX10_greedy 28 = .ok (.iconst (-1), 1) := by decide +kernel
theorem dX10_greedy_29 : decode cX10_greedy 29 = .ok (.if_icmp .eq 22, 3) := by decide +kernel
theorem dX10_greedy_32 : decode cX10_greedy 32 = .ok (.aload_n 0, 1) := by decide +kernel
theorem dX10_greedy_33 : decode cX10_greedy 33 = .ok (.getfield 97, 3) := by decide +kernel
theorem dX10_greedy_36 : decode cX10_greedy 36 = .ok (.iconst 1, 1) := by decide +kernel
theorem dX10_greedy_37 : decode cX10_greedy 37 = .ok (.iload_n 3, 1) := by decide +kernel
theorem dX10_greedy_38 : decode cX10_greedy 38 = .ok (.ishl, 1) := by decide +kernel
theorem dX10_greedy_39 : decode cX10_greedy 39 = .ok (.iaload, 1) := by decide +kernel
theorem dX10_greedy_40 : decode cX10_greedy 40 = .ok (.aload_n 0, 1) := by decide +kernel
theorem dX10_greedy_41 : decode cX10_greedy 41 = .ok (.getfield 97, 3) := by decide +kernel
theorem dX10_greedy_44 : decode cX10_greedy 44 = .ok (.iconst 1, 1) := by decide +kernel
theorem dX10_greedy_45 : decode cX10_greedy 45 = .ok (.iload_n 2, 1) := by decide +kernel
theorem dX10_greedy_46 : decode cX10_greedy 46 = .ok (.ishl, 1) := by decide +kernel
theorem dX10_greedy_47 : decode cX10_greedy 47 = .ok (.iaload, 1) := by decide +kernel
theorem dX10_greedy_48 : decode cX10_greedy 48 = .ok (.if_icmp .le 5, 3) := by decide +kernel
theorem dX10_greedy_51 : decode cX10_greedy 51 = .ok (.iload_n 3, 1) := by decide +kernel
theorem dX10_greedy_52 : decode cX10_greedy 52 = .ok (.istore_n 2, 1) := by decide +kernel
theorem dX10_greedy_53 : decode cX10_greedy 53 = .ok (.iinc 3 1, 3) := by decide +kernel
theorem dX10_greedy_56 : decode cX10_greedy 56 = .ok (.goto (-47), 3) := by decide +kernel
theorem dX10_greedy_59 : decode cX10_greedy 59 = .ok (.iload_n 2, 1) := by decide +kernel
theorem dX10_greedy_60 : decode cX10_greedy 60 = .ok (.iconst (-1), 1) := by decide +kernel
theorem dX10_greedy_61 : decode cX10_greedy 61 = .ok (.if_icmp .eq 26, 3) := by decide +kernel
theorem dX10_greedy_64 : decode cX10_greedy 64 = .ok (.aload_n 0, 1) := by decide +kernel
theorem dX10_greedy_65 : decode cX10_greedy 65 = .ok (.getfield 97, 3) := by decide +kernel
theorem dX10_greedy_68 : decode cX10_greedy 68 = .ok (.iconst 1, 1) := by decide +kernel
theorem dX10_greedy_69 : decode cX10_greedy 69 = .ok (.iload_n 2, 1) := by decide +kernel
theorem dX10_greedy_70 : decode cX10_greedy 70 = .ok (.ishl, 1) := by decide +kernel
theorem dX10_greedy_71 : decode cX10_greedy 71 = .ok (.iaload, 1) := by decide +kernel
theorem dX10_greedy_72 : decode cX10_greedy 72 = .ok (.aload_n 0, 1) := by decide +kernel
theorem dX10_greedy_73 : decode cX10_greedy 73 = .ok (.getfield 97, 3) := by decide +kernel
theorem dX10_greedy_76 : decode cX10_greedy 76 = .ok (.iload_n 1, 1) := by decide +kernel
theorem dX10_greedy_77 : decode cX10_greedy 77 = .ok (.iaload, 1) := by decide +kernel
theorem dX10_greedy_78 : decode cX10_greedy 78 = .ok (.if_icmp .le 9, 3) := by decide +kernel
theorem dX10_greedy_81 : decode cX10_greedy 81 = .ok (.iconst 1, 1) := by decide +kernel
theorem dX10_greedy_82 : decode cX10_greedy 82 = .ok (.iload_n 2, 1) := by decide +kernel
theorem dX10_greedy_83 : decode cX10_greedy 83 = .ok (.ishl, 1) := by decide +kernel
theorem dX10_greedy_84 : decode cX10_greedy 84 = .ok (.goto 4, 3) := by decide +kernel
theorem dX10_greedy_87 : decode cX10_greedy 87 = .ok (.iload_n 1, 1) := by decide +kernel
theorem dX10_greedy_88 : decode cX10_greedy 88 = .ok (.ireturn, 1) := by decide +kernel
theorem dX10_bestBut_0 : decode cX10_bestBut 0 = .ok (.aload_n 0, 1) := by decide +kernel
theorem dX10_bestBut_1 : decode cX10_bestBut 1 = .ok (.invokevirtual 364, 3) := by decide +kernel
theorem dX10_bestBut_4 : decode cX10_bestBut 4 = .ok (.iconst 0, 1) := by decide +kernel
theorem dX10_bestBut_5 : decode cX10_bestBut 5 = .ok (.istore_n 2, 1) := by decide +kernel
theorem dX10_bestBut_6 : decode cX10_bestBut 6 = .ok (.iconst 1, 1) := by decide +kernel
theorem dX10_bestBut_7 : decode cX10_bestBut 7 = .ok (.istore_n 3, 1) := by decide +kernel
theorem dX10_bestBut_8 : decode cX10_bestBut 8 = .ok (.iload_n 3, 1) := by decide +kernel
theorem dX10_bestBut_9 : decode cX10_bestBut 9 = .ok (.iconst 1, 1) := by decide +kernel
theorem dX10_bestBut_10 : decode cX10_bestBut 10 = .ok (.aload_n 0, 1) := by decide +kernel
theorem dX10_bestBut_11 : decode cX10_bestBut 11 = .ok (.getfield 203, 3) := by decide +kernel
theorem dX10_bestBut_14 : decode cX10_bestBut 14 = .ok (.ishl, 1) := by decide +kernel
theorem dX10_bestBut_15 : decode cX10_bestBut 15 = .ok (.if_icmp .ge 73, 3) := by decide +kernel
theorem dX10_bestBut_18 : decode cX10_bestBut 18 = .ok (.iload_n 3, 1) := by decide +kernel
theorem dX10_bestBut_19 : decode cX10_bestBut 19 = .ok (.iload_n 1, 1) := by decide +kernel
theorem dX10_bestBut_20 : decode cX10_bestBut 20 = .ok (.iand, 1) := by decide +kernel
theorem dX10_bestBut_21 : decode cX10_bestBut 21 = .ok (.ifCond .ne 61, 3) := by decide +kernel
theorem dX10_bestBut_24 : decode cX10_bestBut 24 = .ok (.aload_n 0, 1) := by decide +kernel
theorem dX10_bestBut_25 : decode cX10_bestBut 25 = .ok (.getfield 97, 3) := by decide +kernel
theorem dX10_bestBut_28 : decode cX10_bestBut 28 = .ok (.iload_n 3, 1) := by decide +kernel
theorem dX10_bestBut_29 : decode cX10_bestBut 29 = .ok (.iaload, 1) := by decide +kernel
theorem dX10_bestBut_30 : decode cX10_bestBut 30 = .ok (.aload_n 0, 1) := by decide +kernel
theorem dX10_bestBut_31 : decode cX10_bestBut 31 = .ok (.getfield 97, 3) := by decide +kernel
theorem dX10_bestBut_34 : decode cX10_bestBut 34 = .ok (.iload_n 2, 1) := by decide +kernel
theorem dX10_bestBut_35 : decode cX10_bestBut 35 = .ok (.iaload, 1) := by decide +kernel
theorem dX10_bestBut_36 : decode cX10_bestBut 36 = .ok (.if_icmp .lt 46, 3) := by decide +kernel
theorem dX10_bestBut_39 : decode cX10_bestBut 39 = .ok (.aload_n 0, 1) := by decide +kernel
theorem dX10_bestBut_40 : decode cX10_bestBut 40 = .ok (.getfield 97, 3) := by decide +kernel
theorem dX10_bestBut_43 : decode cX10_bestBut 43 = .ok (.iload_n 3, 1) := by decide +kernel
theorem dX10_bestBut_44 : decode cX10_bestBut 44 = .ok (.iaload, 1) := by decide +kernel
theorem dX10_bestBut_45 : decode cX10_bestBut 45 = .ok (.aload_n 0, 1) := by decide +kernel
theorem dX10_bestBut_46 : decode cX10_bestBut 46 = .ok (.getfield 97, 3) := by decide +kernel
theorem dX10_bestBut_49 : decode cX10_bestBut 49 = .ok (.iload_n 2, 1) := by decide +kernel
theorem dX10_bestBut_50 : decode cX10_bestBut 50 = .ok (.iaload, 1) := by decide +kernel
theorem dX10_bestBut_51 : decode cX10_bestBut 51 = .ok (.if_icmp .ne 18, 3) := by decide +kernel
theorem dX10_bestBut_54 : decode cX10_bestBut 54 = .ok (.aload_n 0, 1) := by decide +kernel
theorem dX10_bestBut_55 : decode cX10_bestBut 55 = .ok (.getfield 100, 3) := by decide +kernel
theorem dX10_bestBut_58 : decode cX10_bestBut 58 = .ok (.iload_n 3, 1) := by decide +kernel
theorem dX10_bestBut_59 : decode cX10_bestBut 59 = .ok (.iaload, 1) := by decide +kernel
theorem dX10_bestBut_60 : decode cX10_bestBut 60 = .ok (.aload_n 0, 1) := by decide +kernel
theorem dX10_bestBut_61 : decode cX10_bestBut 61 = .ok (.getfield 100, 3) := by decide +kernel
theorem dX10_bestBut_64 : decode cX10_bestBut 64 = .ok (.iload_n 2, 1) := by decide +kernel
theorem dX10_bestBut_65 : decode cX10_bestBut 65 = .ok (.iaload, 1) := by decide +kernel
theorem dX10_bestBut_66 : decode cX10_bestBut 66 = .ok (.if_icmp .ge 16, 3) := by decide +kernel
theorem dX10_bestBut_69 : decode cX10_bestBut 69 = .ok (.aload_n 0, 1) := by decide +kernel
theorem dX10_bestBut_70 : decode cX10_bestBut 70 = .ok (.iload_n 3, 1) := by decide +kernel
theorem dX10_bestBut_71 : decode cX10_bestBut 71 = .ok (.invokevirtual 361, 3) := by decide +kernel
theorem dX10_bestBut_74 : decode cX10_bestBut 74 = .ok (.ifCond .ne 6, 3) := by decide +kernel
theorem dX10_bestBut_77 : decode cX10_bestBut 77 = .ok (.goto 5, 3) := by decide +kernel
theorem dX10_bestBut_80 : decode cX10_bestBut 80 = .ok (.iload_n 3, 1) := by decide +kernel
theorem dX10_bestBut_81 : decode cX10_bestBut 81 = .ok (.istore_n 2, 1) := by decide +kernel
theorem dX10_bestBut_82 : decode cX10_bestBut 82 = .ok (.iinc 3 1, 3) := by decide +kernel
theorem dX10_bestBut_85 : decode cX10_bestBut 85 = .ok (.goto (-77), 3) := by decide +kernel
theorem dX10_bestBut_88 : decode cX10_bestBut 88 = .ok (.iload_n 2, 1) := by decide +kernel
theorem dX10_bestBut_89 : decode cX10_bestBut 89 = .ok (.ireturn, 1) := by decide +kernel
theorem dX10_chooses_0 : decode cX10_chooses 0 = .ok (.iload_n 1, 1) := by decide +kernel
theorem dX10_chooses_1 : decode cX10_chooses 1 = .ok (.ifCond .eq 11, 3) := by decide +kernel
theorem dX10_chooses_4 : decode cX10_chooses 4 = .ok (.aload_n 0, 1) := by decide +kernel
theorem dX10_chooses_5 : decode cX10_chooses 5 = .ok (.iconst 0, 1) := by decide +kernel
theorem dX10_chooses_6 : decode cX10_chooses 6 = .ok (.invokevirtual 376, 3) := by decide +kernel
theorem dX10_chooses_9 : decode cX10_chooses 9 = .ok (.goto 7, 3) := by decide +kernel
theorem dX10_chooses_12 : decode cX10_chooses 12 = .ok (.aload_n 0, 1) := by decide +kernel
theorem dX10_chooses_13 : decode cX10_chooses 13 = .ok (.invokevirtual 379, 3) := by decide +kernel
theorem dX10_chooses_16 : decode cX10_chooses 16 = .ok (.ireturn, 1) := by decide +kernel
theorem dX10_set_0 : decode cX10_set 0 = .ok (.aload_n 0, 1) := by decide +kernel
theorem dX10_set_1 : decode cX10_set 1 = .ok (.iconst 0, 1) := by decide +kernel
theorem dX10_set_2 : decode cX10_set 2 = .ok (.putfield 142, 3) := by decide +kernel
theorem dX10_set_5 : decode cX10_set 5 = .ok (.aload_n 0, 1) := by decide +kernel
theorem dX10_set_6 : decode cX10_set 6 = .ok (.iload_n 2, 1) := by decide +kernel
theorem dX10_set_7 : decode cX10_set 7 = .ok (.iconst 0, 1) := by decide +kernel
theorem dX10_set_8 : decode cX10_set 8 = .ok (.iconst 3, 1) := by decide +kernel
theorem dX10_set_9 : decode cX10_set 9 = .ok (.invokestatic 151, 3) := by decide +kernel
theorem dX10_set_12 : decode cX10_set 12 = .ok (.ifCond .ne 7, 3) := by decide +kernel
theorem dX10_set_15 : decode cX10_set 15 = .ok (.iconst 1, 1) := by decide +kernel
theorem dX10_set_16 : decode cX10_set 16 = .ok (.goto 4, 3) := by decide +kernel
theorem dX10_set_19 : decode cX10_set 19 = .ok (.iconst 0, 1) := by decide +kernel
theorem dX10_set_20 : decode cX10_set 20 = .ok (.iconst 1, 1) := by decide +kernel
theorem dX10_set_21 : decode cX10_set 21 = .ok (.invokevirtual 309, 3) := by decide +kernel
theorem dX10_set_24 : decode cX10_set 24 = .ok (.ifCond .ne 29, 3) := by decide +kernel
theorem dX10_set_27 : decode cX10_set 27 = .ok (.aload_n 0, 1) := by decide +kernel
theorem dX10_set_28 : decode cX10_set 28 = .ok (.iload_n 1, 1) := by decide +kernel
theorem dX10_set_29 : decode cX10_set 29 = .ok (.ifCond .lt 12, 3) := by decide +kernel
theorem dX10_set_32 : decode cX10_set 32 = .ok (.iload_n 1, 1) := by decide +kernel
theorem dX10_set_33 : decode cX10_set 33 = .ok (.aload_n 0, 1) := by decide +kernel
theorem dX10_set_34 : decode cX10_set 34 = .ok (.getfield 203, 3) := by decide +kernel
theorem dX10_set_37 : decode cX10_set 37 = .ok (.ishr, 1) := by decide +kernel
theorem dX10_set_38 : decode cX10_set 38 = .ok (.ifCond .eq 7, 3) := by decide +kernel
theorem dX10_set_41 : decode cX10_set 41 = .ok (.iconst 1, 1) := by decide +kernel
theorem dX10_set_42 : decode cX10_set 42 = .ok (.goto 4, 3) := by decide +kernel
theorem dX10_set_45 : decode cX10_set 45 = .ok (.iconst 0, 1) := by decide +kernel
theorem dX10_set_46 : decode cX10_set 46 = .ok (.iconst 2, 1) := by decide +kernel
theorem dX10_set_47 : decode cX10_set 47 = .ok (.invokevirtual 309, 3) := by decide +kernel
theorem dX10_set_50 : decode cX10_set 50 = .ok (.ifCond .eq 5, 3) := by decide +kernel
theorem dX10_set_53 : decode cX10_set 53 = .ok (.iconst 0, 1) := by decide +kernel
theorem dX10_set_54 : decode cX10_set 54 = .ok (.ireturn, 1) := by decide +kernel
theorem dX10_set_55 : decode cX10_set 55 = .ok (.aload_n 0, 1) := by decide +kernel
theorem dX10_set_56 : decode cX10_set 56 = .ok (.invokevirtual 364, 3) := by decide +kernel
theorem dX10_set_59 : decode cX10_set 59 = .ok (.iconst 0, 1) := by decide +kernel
theorem dX10_set_60 : decode cX10_set 60 = .ok (.istore_n 3, 1) := by decide +kernel
theorem dX10_set_61 : decode cX10_set 61 = .ok (.iconst 0, 1) := by decide +kernel
theorem dX10_set_62 : decode cX10_set 62 = .ok (.istore 4, 2) := by decide +kernel
theorem dX10_set_64 : decode cX10_set 64 = .ok (.iload 4, 2) := by decide +kernel
theorem dX10_set_66 : decode cX10_set 66 = .ok (.aload_n 0, 1) := by decide +kernel
theorem dX10_set_67 : decode cX10_set 67 = .ok (.getfield 277, 3) := by decide +kernel
theorem dX10_set_70 : decode cX10_set 70 = .ok (.if_icmp .ge 44, 3) := by decide +kernel
theorem dX10_set_73 : decode cX10_set 73 = .ok (.iload_n 3, 1) := by decide +kernel
theorem dX10_set_74 : decode cX10_set 74 = .ok (.iload_n 1, 1) := by decide +kernel
theorem dX10_set_75 : decode cX10_set 75 = .ok (.aload_n 0, 1) := by decide +kernel
theorem dX10_set_76 : decode cX10_set 76 = .ok (.getfield 29, 3) := by decide +kernel
theorem dX10_set_79 : decode cX10_set 79 = .ok (.aload_n 0, 1) := by decide +kernel
theorem dX10_set_80 : decode cX10_set 80 = .ok (.getfield 88, 3) := by decide +kernel
theorem dX10_set_83 : decode cX10_set 83 = .ok (.iload 4, 2) := by decide +kernel
theorem dX10_set_85 : decode cX10_set 85 = .ok (.iaload, 1) := by decide +kernel
theorem dX10_set_86 : decode cX10_set 86 = .ok (.iaload, 1) := by decide +kernel
theorem dX10_set_87 : decode cX10_set 87 = .ok (.invokestatic 294, 3) := by decide +kernel
theorem dX10_set_90 : decode cX10_set 90 = .ok (.ifCond .eq 15, 3) := by decide +kernel
theorem dX10_set_93 : decode cX10_set 93 = .ok (.iconst 1, 1) := by decide +kernel
theorem dX10_set_94 : decode cX10_set 94 = .ok (.aload_n 0, 1) := by decide +kernel
theorem dX10_set_95 : decode cX10_set 95 = .ok (.getfield 85, 3) := by decide +kernel
theorem dX10_set_98 : decode cX10_set 98 = .ok (.iload 4, 2) := by decide +kernel
theorem dX10_set_100 : decode cX10_set 100 = .ok (.iaload, 1) := by decide +kernel
theorem dX10_set_101 : decode cX10_set 101 = .ok (.ishl, 1) := by decide +kernel
theorem dX10_set_102 : decode cX10_set 102 = .ok (.goto 4, 3) := by decide +kernel
theorem dX10_set_105 : decode cX10_set 105 = .ok (.iconst 0, 1) := by decide +kernel
theorem dX10_set_106 : decode cX10_set 106 = .ok (.ior, 1) := by decide +kernel
theorem dX10_set_107 : decode cX10_set 107 = .ok (.istore_n 3, 1) := by decide +kernel
theorem dX10_set_108 : decode cX10_set 108 = .ok (.iinc 4 1, 3) := by decide +kernel
theorem dX10_set_111 : decode cX10_set 111 = .ok (.goto (-47), 3) := by decide +kernel
theorem dX10_set_114 : decode cX10_set 114 = .ok (.iload_n 2, 1) := by decide +kernel
theorem dX10_set_115 : decode cX10_set 115 = .ok (.ifCond .ne 12, 3) := by decide +kernel
theorem dX10_set_118 : decode cX10_set 118 = .ok (.aload_n 0, 1) := by decide +kernel
theorem dX10_set_119 : decode cX10_set 119 = .ok (.getfield 97, 3) := by decide +kernel
theorem dX10_set_122 : decode cX10_set 122 = .ok (.iload_n 1, 1) := by decide +kernel
theorem dX10_set_123 : decode cX10_set 123 = .ok (.iaload, 1) := by decide +kernel
theorem dX10_set_124 : decode cX10_set 124 = .ok (.goto 39, 3) := by decide +kernel
theorem dX10_set_127 : decode cX10_set 127 = .ok (.iload_n 2, 1) := by decide +kernel
theorem dX10_set_128 : decode cX10_set 128 = .ok (.iconst 1, 1) := by decide +kernel
theorem dX10_set_129 : decode cX10_set 129 = .ok (.if_icmp .ne 12, 3) := by decide +kernel
theorem dX10_set_132 : decode cX10_set 132 = .ok (.aload_n 0, 1) := by decide +kernel
theorem dX10_set_133 : decode cX10_set 133 = .ok (.getfield 100, 3) := by decide +kernel
theorem dX10_set_136 : decode cX10_set 136 = .ok (.iload_n 1, 1) := by decide +kernel
theorem dX10_set_137 : decode cX10_set 137 = .ok (.iaload, 1) := by decide +kernel
theorem dX10_set_138 : decode cX10_set 138 = .ok (.goto 25, 3) := by decide +kernel
theorem dX10_set_141 : decode cX10_set 141 = .ok (.iload_n 2, 1) := by decide +kernel
theorem dX10_set_142 : decode cX10_set 142 = .ok (.iconst 2, 1) := by decide +kernel
theorem dX10_set_143 : decode cX10_set 143 = .ok (.if_icmp .ne 19, 3) := by decide +kernel
theorem dX10_set_146 : decode cX10_set 146 = .ok (.aload_n 0, 1) := by decide +kernel
theorem dX10_set_147 : decode cX10_set 147 = .ok (.iload_n 1, 1) := by decide +kernel
theorem dX10_set_148 : decode cX10_set 148 = .ok (.invokevirtual 361, 3) := by decide +kernel
theorem dX10_set_151 : decode cX10_set 151 = .ok (.ifCond .eq 7, 3) := by decide +kernel
theorem dX10_set_154 : decode cX10_set 154 = .ok (.iconst 1, 1) := by decide +kernel
theorem dX10_set_155 : decode cX10_set 155 = .ok (.goto 8, 3) := by decide +kernel
theorem dX10_set_158 : decode cX10_set 158 = .ok (.iconst 0, 1) := by decide +kernel
theorem dX10_set_159 : decode cX10_set 159 = .ok (.goto 4, 3) := by decide +kernel
theorem dX10_set_162 : decode cX10_set 162 = .ok (.iload_n 3, 1) := by decide +kernel
theorem dX10_set_163 : decode cX10_set 163 = .ok (.ireturn, 1) := by decide +kernel
theorem dX10_common_0 : decode cX10_common 0 = .ok (.aload_n 0, 1) := by decide +kernel
theorem dX10_common_1 : decode cX10_common 1 = .ok (.iload_n 1, 1) := by decide +kernel
theorem dX10_common_2 : decode cX10_common 2 = .ok (.invokevirtual 340, 3) := by decide +kernel
theorem dX10_common_5 : decode cX10_common 5 = .ok (.ifCond .ne 11, 3) := by decide +kernel
theorem dX10_common_8 : decode cX10_common 8 = .ok (.aload_n 0, 1) := by decide +kernel
theorem dX10_common_9 : decode cX10_common 9 = .ok (.iload_n 2, 1) := by decide +kernel
theorem dX10_common_10 : decode cX10_common 10 = .ok (.invokevirtual 340, 3) := by decide +kernel
theorem dX10_common_13 : decode cX10_common 13 = .ok (.ifCond .eq 7, 3) := by decide +kernel
theorem dX10_common_16 : decode cX10_common 16 = .ok (.iconst 0, 1) := by decide +kernel
theorem dX10_common_17 : decode cX10_common 17 = .ok (.goto 9, 3) := by decide +kernel
theorem dX10_common_20 : decode cX10_common 20 = .ok (.aload_n 0, 1) := by decide +kernel
theorem dX10_common_21 : decode cX10_common 21 = .ok (.iload_n 1, 1) := by decide +kernel
theorem dX10_common_22 : decode cX10_common 22 = .ok (.iload_n 2, 1) := by decide +kernel
theorem dX10_common_23 : decode cX10_common 23 = .ok (.invokevirtual 352, 3) := by decide +kernel
theorem dX10_common_26 : decode cX10_common 26 = .ok (.ireturn, 1) := by decide +kernel
theorem dX10_step_0 : decode cX10_step 0 = .ok (.aload_n 0, 1) := by decide +kernel
theorem dX10_step_1 : decode cX10_step 1 = .ok (.iconst 0, 1) := by decide +kernel
theorem dX10_step_2 : decode cX10_step 2 = .ok (.putfield 142, 3) := by decide +kernel
theorem dX10_step_5 : decode cX10_step 5 = .ok (.aload_n 0, 1) := by decide +kernel
theorem dX10_step_6 : decode cX10_step 6 = .ok (.invokevirtual 373, 3) := by decide +kernel
theorem dX10_step_9 : decode cX10_step 9 = .ok (.pop, 1) := by decide +kernel
theorem dX10_step_10 : decode cX10_step 10 = .ok (.iload_n 1, 1) := by decide +kernel
theorem dX10_step_11 : decode cX10_step 11 = .ok (.iconst 0, 1) := by decide +kernel
theorem dX10_step_12 : decode cX10_step 12 = .ok (.aload_n 0, 1) := by decide +kernel
theorem dX10_step_13 : decode cX10_step 13 = .ok (.getfield 367, 3) := by decide +kernel
theorem dX10_step_16 : decode cX10_step 16 = .ok (.iconst 1, 1) := by decide +kernel
theorem dX10_step_17 : decode cX10_step 17 = .ok (.isub, 1) := by decide +kernel
theorem dX10_step_18 : decode cX10_step 18 = .ok (.invokestatic 151, 3) := by decide +kernel
theorem dX10_step_21 : decode cX10_step 21 = .ok (.ifCond .eq 12, 3) := by decide +kernel
theorem dX10_step_24 : decode cX10_step 24 = .ok (.aload_n 0, 1) := by decide +kernel
theorem dX10_step_25 : decode cX10_step 25 = .ok (.getfield 124, 3) := by decide +kernel
theorem dX10_step_28 : decode cX10_step 28 = .ok (.iload_n 1, 1) := by decide +kernel
theorem dX10_step_29 : decode cX10_step 29 = .ok (.iaload, 1) := by decide +kernel
theorem dX10_step_30 : decode cX10_step 30 = .ok (.goto 4, 3) := by decide +kernel
theorem dX10_step_33 : decode cX10_step 33 = .ok (.iconst (-1), 1) := by decide +kernel
theorem dX10_step_34 : decode cX10_step 34 = .ok (.ireturn, 1) := by decide +kernel
theorem dX10_choice_0 : decode cX10_choice 0 = .ok (.aload_n 0, 1) := by decide +kernel
theorem dX10_choice_1 : decode cX10_choice 1 = .ok (.iconst 0, 1) := by decide +kernel
theorem dX10_choice_2 : decode cX10_choice 2 = .ok (.putfield 142, 3) := by decide +kernel
theorem dX10_choice_5 : decode cX10_choice 5 = .ok (.aload_n 0, 1) := by decide +kernel
theorem dX10_choice_6 : decode cX10_choice 6 = .ok (.iload_n 1, 1) := by decide +kernel
theorem dX10_choice_7 : decode cX10_choice 7 = .ok (.invokevirtual 382, 3) := by decide +kernel
theorem dX10_choice_10 : decode cX10_choice 10 = .ok (.ireturn, 1) := by decide +kernel
theorem dX10_take_0 : decode cX10_take 0 = .ok (.aload_n 0, 1) := by decide +kernel
theorem dX10_take_1 : decode cX10_take 1 = .ok (.iconst 0, 1) := by decide +kernel
theorem dX10_take_2 : decode cX10_take 2 = .ok (.putfield 142, 3) := by decide +kernel
theorem dX10_take_5 : decode cX10_take 5 = .ok (.aload_n 0, 1) := by decide +kernel
theorem dX10_take_6 : decode cX10_take 6 = .ok (.aload_n 0, 1) := by decide +kernel
theorem dX10_take_7 : decode cX10_take 7 = .ok (.iload_n 1, 1) := by decide +kernel
theorem dX10_take_8 : decode cX10_take 8 = .ok (.invokevirtual 382, 3) := by decide +kernel
theorem dX10_take_11 : decode cX10_take 11 = .ok (.putfield 221, 3) := by decide +kernel
theorem dX10_take_14 : decode cX10_take 14 = .ok (.aload_n 0, 1) := by decide +kernel
theorem dX10_take_15 : decode cX10_take 15 = .ok (.getfield 97, 3) := by decide +kernel
theorem dX10_take_18 : decode cX10_take 18 = .ok (.aload_n 0, 1) := by decide +kernel
theorem dX10_take_19 : decode cX10_take 19 = .ok (.getfield 221, 3) := by decide +kernel
theorem dX10_take_22 : decode cX10_take 22 = .ok (.iaload, 1) := by decide +kernel
theorem dX10_take_23 : decode cX10_take 23 = .ok (.ireturn, 1) := by decide +kernel
theorem dX10_choose_0 : decode cX10_choose 0 = .ok (.aload_n 0, 1) := by decide +kernel
theorem dX10_choose_1 : decode cX10_choose 1 = .ok (.iload_n 1, 1) := by decide +kernel
theorem dX10_choose_2 : decode cX10_choose 2 = .ok (.invokevirtual 340, 3) := by decide +kernel
theorem dX10_choose_5 : decode cX10_choose 5 = .ok (.ifCond .eq 5, 3) := by decide +kernel
theorem dX10_choose_8 : decode cX10_choose 8 = .ok (.iconst 0, 1) := by decide +kernel
theorem dX10_choose_9 : decode cX10_choose 9 = .ok (.ireturn, 1) := by decide +kernel
theorem dX10_choose_10 : decode cX10_choose 10 = .ok (.aload_n 0, 1) := by decide +kernel
theorem dX10_choose_11 : decode cX10_choose 11 = .ok (.invokevirtual 364, 3) := by decide +kernel
theorem dX10_choose_14 : decode cX10_choose 14 = .ok (.aload_n 0, 1) := by decide +kernel
theorem dX10_choose_15 : decode cX10_choose 15 = .ok (.aload_n 0, 1) := by decide +kernel
theorem dX10_choose_16 : decode cX10_choose 16 = .ok (.getfield 221, 3) := by decide +kernel
theorem dX10_choose_19 : decode cX10_choose 19 = .ok (.iload_n 1, 1) := by decide +kernel
theorem dX10_choose_20 : decode cX10_choose 20 = .ok (.invokestatic 294, 3) := by decide +kernel
theorem dX10_choose_23 : decode cX10_choose 23 = .ok (.ifCond .ne 18, 3) := by decide +kernel
theorem dX10_choose_26 : decode cX10_choose 26 = .ok (.aload_n 0, 1) := by decide +kernel
theorem dX10_choose_27 : decode cX10_choose 27 = .ok (.aload_n 0, 1) := by decide +kernel
theorem dX10_choose_28 : decode cX10_choose 28 = .ok (.getfield 221, 3) := by decide +kernel
theorem dX10_choose_31 : decode cX10_choose 31 = .ok (.iconst 1, 1) := by decide +kernel
theorem dX10_choose_32 : decode cX10_choose 32 = .ok (.iload_n 1, 1) := by decide +kernel
theorem dX10_choose_33 : decode cX10_choose 33 = .ok (.ishl, 1) := by decide +kernel
theorem dX10_choose_34 : decode cX10_choose 34 = .ok (.ior, 1) := by decide +kernel
theorem dX10_choose_35 : decode cX10_choose 35 = .ok (.invokevirtual 361, 3) := by decide +kernel
theorem dX10_choose_38 : decode cX10_choose 38 = .ok (.ifCond .ne 7, 3) := by decide +kernel
theorem dX10_choose_41 : decode cX10_choose 41 = .ok (.iconst 1, 1) := by decide +kernel
theorem dX10_choose_42 : decode cX10_choose 42 = .ok (.goto 4, 3) := by decide +kernel
theorem dX10_choose_45 : decode cX10_choose 45 = .ok (.iconst 0, 1) := by decide +kernel
theorem dX10_choose_46 : decode cX10_choose 46 = .ok (.iconst 2, 1) := by decide +kernel
theorem dX10_choose_47 : decode cX10_choose 47 = .ok (.invokevirtual 309, 3) := by decide +kernel
theorem dX10_choose_50 : decode cX10_choose 50 = .ok (.ifCond .eq 5, 3) := by decide +kernel
theorem dX10_choose_53 : decode cX10_choose 53 = .ok (.iconst 0, 1) := by decide +kernel
theorem dX10_choose_54 : decode cX10_choose 54 = .ok (.ireturn, 1) := by decide +kernel
theorem dX10_choose_55 : decode cX10_choose 55 = .ok (.aload_n 0, 1) := by decide +kernel
theorem dX10_choose_56 : decode cX10_choose 56 = .ok (.dup, 1) := by decide +kernel
theorem dX10_choose_57 : decode cX10_choose 57 = .ok (.getfield 221, 3) := by decide +kernel
theorem dX10_choose_60 : decode cX10_choose 60 = .ok (.iconst 1, 1) := by decide +kernel
theorem dX10_choose_61 : decode cX10_choose 61 = .ok (.iload_n 1, 1) := by decide +kernel
theorem dX10_choose_62 : decode cX10_choose 62 = .ok (.ishl, 1) := by decide +kernel
theorem dX10_choose_63 : decode cX10_choose 63 = .ok (.ior, 1) := by decide +kernel
theorem dX10_choose_64 : decode cX10_choose 64 = .ok (.putfield 221, 3) := by decide +kernel
theorem dX10_choose_67 : decode cX10_choose 67 = .ok (.aload_n 0, 1) := by decide +kernel
theorem dX10_choose_68 : decode cX10_choose 68 = .ok (.getfield 97, 3) := by decide +kernel
theorem dX10_choose_71 : decode cX10_choose 71 = .ok (.aload_n 0, 1) := by decide +kernel
theorem dX10_choose_72 : decode cX10_choose 72 = .ok (.getfield 221, 3) := by decide +kernel
theorem dX10_choose_75 : decode cX10_choose 75 = .ok (.iaload, 1) := by decide +kernel
theorem dX10_choose_76 : decode cX10_choose 76 = .ok (.ireturn, 1) := by decide +kernel
theorem dX10_drop_0 : decode cX10_drop 0 = .ok (.aload_n 0, 1) := by decide +kernel
theorem dX10_drop_1 : decode cX10_drop 1 = .ok (.iload_n 1, 1) := by decide +kernel
theorem dX10_drop_2 : decode cX10_drop 2 = .ok (.invokevirtual 340, 3) := by decide +kernel
theorem dX10_drop_5 : decode cX10_drop 5 = .ok (.ifCond .ne 27, 3) := by decide +kernel
theorem dX10_drop_8 : decode cX10_drop 8 = .ok (.aload_n 0, 1) := by decide +kernel
theorem dX10_drop_9 : decode cX10_drop 9 = .ok (.aload_n 0, 1) := by decide +kernel
theorem dX10_drop_10 : decode cX10_drop 10 = .ok (.getfield 221, 3) := by decide +kernel
theorem dX10_drop_13 : decode cX10_drop 13 = .ok (.iload_n 1, 1) := by decide +kernel
theorem dX10_drop_14 : decode cX10_drop 14 = .ok (.invokestatic 294, 3) := by decide +kernel
theorem dX10_drop_17 : decode cX10_drop 17 = .ok (.ifCond .ne 7, 3) := by decide +kernel
theorem dX10_drop_20 : decode cX10_drop 20 = .ok (.iconst 1, 1) := by decide +kernel
theorem dX10_drop_21 : decode cX10_drop 21 = .ok (.goto 4, 3) := by decide +kernel
theorem dX10_drop_24 : decode cX10_drop 24 = .ok (.iconst 0, 1) := by decide +kernel
theorem dX10_drop_25 : decode cX10_drop 25 = .ok (.iconst 2, 1) := by decide +kernel
theorem dX10_drop_26 : decode cX10_drop 26 = .ok (.invokevirtual 309, 3) := by decide +kernel
theorem dX10_drop_29 : decode cX10_drop 29 = .ok (.ifCond .eq 5, 3) := by decide +kernel
theorem dX10_drop_32 : decode cX10_drop 32 = .ok (.iconst 0, 1) := by decide +kernel
theorem dX10_drop_33 : decode cX10_drop 33 = .ok (.ireturn, 1) := by decide +kernel
theorem dX10_drop_34 : decode cX10_drop 34 = .ok (.aload_n 0, 1) := by decide +kernel
theorem dX10_drop_35 : decode cX10_drop 35 = .ok (.invokevirtual 364, 3) := by decide +kernel
theorem dX10_drop_38 : decode cX10_drop 38 = .ok (.aload_n 0, 1) := by decide +kernel
theorem dX10_drop_39 : decode cX10_drop 39 = .ok (.dup, 1) := by decide +kernel
theorem dX10_drop_40 : decode cX10_drop 40 = .ok (.getfield 221, 3) := by decide +kernel
theorem dX10_drop_43 : decode cX10_drop 43 = .ok (.iconst 1, 1) := by decide +kernel
theorem dX10_drop_44 : decode cX10_drop 44 = .ok (.iload_n 1, 1) := by decide +kernel
theorem dX10_drop_45 : decode cX10_drop 45 = .ok (.ishl, 1) := by decide +kernel
theorem dX10_drop_46 : decode cX10_drop 46 = .ok (.iconst (-1), 1) := by decide +kernel
theorem dX10_drop_47 : decode cX10_drop 47 = .ok (.ixor, 1) := by decide +kernel
theorem dX10_drop_48 : decode cX10_drop 48 = .ok (.iand, 1) := by decide +kernel
theorem dX10_drop_49 : decode cX10_drop 49 = .ok (.putfield 221, 3) := by decide +kernel
theorem dX10_drop_52 : decode cX10_drop 52 = .ok (.aload_n 0, 1) := by decide +kernel
theorem dX10_drop_53 : decode cX10_drop 53 = .ok (.getfield 97, 3) := by decide +kernel
theorem dX10_drop_56 : decode cX10_drop 56 = .ok (.aload_n 0, 1) := by decide +kernel
theorem dX10_drop_57 : decode cX10_drop 57 = .ok (.getfield 221, 3) := by decide +kernel
theorem dX10_drop_60 : decode cX10_drop 60 = .ok (.iaload, 1) := by decide +kernel
theorem dX10_drop_61 : decode cX10_drop 61 = .ok (.ireturn, 1) := by decide +kernel
theorem dX10_trades_0 : decode cX10_trades 0 = .ok (.aload_n 0, 1) := by decide +kernel
theorem dX10_trades_1 : decode cX10_trades 1 = .ok (.invokevirtual 364, 3) := by decide +kernel
theorem dX10_trades_4 : decode cX10_trades 4 = .ok (.aload_n 0, 1) := by decide +kernel
theorem dX10_trades_5 : decode cX10_trades 5 = .ok (.iconst (-1), 1) := by decide +kernel
theorem dX10_trades_6 : decode cX10_trades 6 = .ok (.putfield 386, 3) := by decide +kernel
theorem dX10_trades_9 : decode cX10_trades 9 = .ok (.aload_n 0, 1) := by decide +kernel
theorem dX10_trades_10 : decode cX10_trades 10 = .ok (.iconst (-1), 1) := by decide +kernel
theorem dX10_trades_11 : decode cX10_trades 11 = .ok (.putfield 389, 3) := by decide +kernel
theorem dX10_trades_14 : decode cX10_trades 14 = .ok (.iconst 0, 1) := by decide +kernel
theorem dX10_trades_15 : decode cX10_trades 15 = .ok (.istore_n 1, 1) := by decide +kernel
theorem dX10_trades_16 : decode cX10_trades 16 = .ok (.iconst 0, 1) := by decide +kernel
theorem dX10_trades_17 : decode cX10_trades 17 = .ok (.istore_n 2, 1) := by decide +kernel
theorem dX10_trades_18 : decode cX10_trades 18 = .ok (.iload_n 2, 1) := by decide +kernel
theorem dX10_trades_19 : decode cX10_trades 19 = .ok (.aload_n 0, 1) := by decide +kernel
theorem dX10_trades_20 : decode cX10_trades 20 = .ok (.getfield 203, 3) := by decide +kernel
theorem dX10_trades_23 : decode cX10_trades 23 = .ok (.if_icmp .ge 127, 3) := by decide +kernel
theorem dX10_trades_26 : decode cX10_trades 26 = .ok (.iconst 0, 1) := by decide +kernel
theorem dX10_trades_27 : decode cX10_trades 27 = .ok (.istore_n 3, 1) := by decide +kernel
theorem dX10_trades_28 : decode cX10_trades 28 = .ok (.iload_n 3, 1) := by decide +kernel
theorem dX10_trades_29 : decode cX10_trades 29 = .ok (.aload_n 0, 1) := by decide +kernel
theorem dX10_trades_30 : decode cX10_trades 30 = .ok (.getfield 203, 3) := by decide +kernel
theorem dX10_trades_33 : decode cX10_trades 33 = .ok (.if_icmp .ge 111, 3) := by decide +kernel
theorem dX10_trades_36 : decode cX10_trades 36 = .ok (.aload_n 0, 1) := by decide +kernel
theorem dX10_trades_37 : decode cX10_trades 37 = .ok (.getfield 221, 3) := by decide +kernel
theorem dX10_trades_40 : decode cX10_trades 40 = .ok (.iload_n 2, 1) := by decide +kernel
theorem dX10_trades_41 : decode cX10_trades 41 = .ok (.invokestatic 294, 3) := by decide +kernel
theorem dX10_trades_44 : decode cX10_trades 44 = .ok (.ifCond .eq 94, 3) := by decide +kernel
theorem dX10_trades_47 : decode cX10_trades 47 = .ok (.aload_n 0, 1) := by decide +kernel
theorem dX10_trades_48 : decode cX10_trades 48 = .ok (.getfield 221, 3) := by decide +kernel
theorem dX10_trades_51 : decode cX10_trades 51 = .ok (.iload_n 3, 1) := by decide +kernel
theorem dX10_trades_52 : decode cX10_trades 52 = .ok (.invokestatic 294, 3) := by decide +kernel
theorem dX10_trades_55 : decode cX10_trades 55 = .ok (.ifCond .eq 6, 3) := by decide +kernel
theorem dX10_trades_58 : decode cX10_trades 58 = .ok (.goto 80, 3) := by decide +kernel
theorem dX10_trades_61 : decode cX10_trades 61 = .ok (.aload_n 0, 1) := by decide +kernel
theorem dX10_trades_62 : decode cX10_trades 62 = .ok (.getfield 221, 3) := by decide +kernel
theorem dX10_trades_65 : decode cX10_trades 65 = .ok (.iconst 1, 1) := by decide +kernel
theorem dX10_trades_66 : decode cX10_trades 66 = .ok (.iload_n 2, 1) := by decide +kernel
theorem dX10_trades_67 : decode cX10_trades 67 = .ok (.ishl, 1) := by decide +kernel
theorem dX10_trades_68 : decode cX10_trades 68 = .ok (.iconst (-1), 1) := by decide +kernel
theorem dX10_trades_69 : decode cX10_trades 69 = .ok (.ixor, 1) := by decide +kernel
theorem dX10_trades_70 : decode cX10_trades 70 = .ok (.iand, 1) := by decide +kernel
theorem dX10_trades_71 : decode cX10_trades 71 = .ok (.iconst 1, 1) := by decide +kernel
theorem dX10_trades_72 : decode cX10_trades 72 = .ok (.iload_n 3, 1) := by decide +kernel
theorem dX10_trades_73 : decode cX10_trades 73 = .ok (.ishl, 1) := by decide +kernel
theorem dX10_trades_74 : decode cX10_trades 74 = .ok (.ior, 1) := by decide +kernel
theorem dX10_trades_75 : decode cX10_trades 75 = .ok (.istore 4, 2) := by decide +kernel
theorem dX10_trades_77 : decode cX10_trades 77 = .ok (.aload_n 0, 1) := by decide +kernel
theorem dX10_trades_78 : decode cX10_trades 78 = .ok (.getfield 97, 3) := by decide +kernel
theorem dX10_trades_81 : decode cX10_trades 81 = .ok (.iload 4, 2) := by decide +kernel
theorem dX10_trades_83 : decode cX10_trades 83 = .ok (.iaload, 1) := by decide +kernel
theorem dX10_trades_84 : decode cX10_trades 84 = .ok (.aload_n 0, 1) := by decide +kernel
theorem dX10_trades_85 : decode cX10_trades 85 = .ok (.getfield 97, 3) := by decide +kernel
theorem dX10_trades_88 : decode cX10_trades 88 = .ok (.aload_n 0, 1) := by decide +kernel
theorem dX10_trades_89 : decode cX10_trades 89 = .ok (.getfield 221, 3) := by decide +kernel
theorem dX10_trades_92 : decode cX10_trades 92 = .ok (.iaload, 1) := by decide +kernel
theorem dX10_trades_93 : decode cX10_trades 93 = .ok (.isub, 1) := by decide +kernel
theorem dX10_trades_94 : decode cX10_trades 94 = .ok (.iload_n 1, 1) := by decide +kernel
theorem dX10_trades_95 : decode cX10_trades 95 = .ok (.if_icmp .le 43, 3) := by decide +kernel
theorem dX10_trades_98 : decode cX10_trades 98 = .ok (.aload_n 0, 1) := by decide +kernel
theorem dX10_trades_99 : decode cX10_trades 99 = .ok (.iload 4, 2) := by decide +kernel
theorem dX10_trades_101 : decode cX10_trades 101 = .ok (.invokevirtual 361, 3) := by decide +kernel
theorem dX10_trades_104 : decode cX10_trades 104 = .ok (.ifCond .ne 6, 3) := by decide +kernel
theorem dX10_trades_107 : decode cX10_trades 107 = .ok (.goto 31, 3) := by decide +kernel
theorem dX10_trades_110 : decode cX10_trades 110 = .ok (.aload_n 0, 1) := by decide +kernel
theorem dX10_trades_111 : decode cX10_trades 111 = .ok (.iload_n 2, 1) := by decide +kernel
theorem dX10_trades_112 : decode cX10_trades 112 = .ok (.putfield 386, 3) := by decide +kernel
theorem dX10_trades_115 : decode cX10_trades 115 = .ok (.aload_n 0, 1) := by decide +kernel
theorem dX10_trades_116 : decode cX10_trades 116 = .ok (.iload_n 3, 1) := by decide +kernel
theorem dX10_trades_117 : decode cX10_trades 117 = .ok (.putfield 389, 3) := by decide +kernel
theorem dX10_trades_120 : decode cX10_trades 120 = .ok (.aload_n 0, 1) := by decide +kernel
theorem dX10_trades_121 : decode cX10_trades 121 = .ok (.getfield 97, 3) := by decide +kernel
theorem dX10_trades_124 : decode cX10_trades 124 = .ok (.iload 4, 2) := by decide +kernel
theorem dX10_trades_126 : decode cX10_trades 126 = .ok (.iaload, 1) := by decide +kernel
theorem dX10_trades_127 : decode cX10_trades 127 = .ok (.aload_n 0, 1) := by decide +kernel
theorem dX10_trades_128 : decode cX10_trades 128 = .ok (.getfield 97, 3) := by decide +kernel
theorem dX10_trades_131 : decode cX10_trades 131 = .ok (.aload_n 0, 1) := by decide +kernel
theorem dX10_trades_132 : decode cX10_trades 132 = .ok (.getfield 221, 3) := by decide +kernel
theorem dX10_trades_135 : decode cX10_trades 135 = .ok (.iaload, 1) := by decide +kernel
theorem dX10_trades_136 : decode cX10_trades 136 = .ok (.isub, 1) := by decide +kernel
theorem dX10_trades_137 : decode cX10_trades 137 = .ok (.istore_n 1, 1) := by decide +kernel
theorem dX10_trades_138 : decode cX10_trades 138 = .ok (.iinc 3 1, 3) := by decide +kernel
theorem dX10_trades_141 : decode cX10_trades 141 = .ok (.goto (-113), 3) := by decide +kernel
theorem dX10_trades_144 : decode cX10_trades 144 = .ok (.iinc 2 1, 3) := by decide +kernel
theorem dX10_trades_147 : decode cX10_trades 147 = .ok (.goto (-129), 3) := by decide +kernel
theorem dX10_trades_150 : decode cX10_trades 150 = .ok (.iload_n 1, 1) := by decide +kernel
theorem dX10_trades_151 : decode cX10_trades 151 = .ok (.ireturn, 1) := by decide +kernel
theorem dX10_exchange_0 : decode cX10_exchange 0 = .ok (.aload_n 0, 1) := by decide +kernel
theorem dX10_exchange_1 : decode cX10_exchange 1 = .ok (.iconst 0, 1) := by decide +kernel
theorem dX10_exchange_2 : decode cX10_exchange 2 = .ok (.putfield 142, 3) := by decide +kernel
theorem dX10_exchange_5 : decode cX10_exchange 5 = .ok (.aload_n 0, 1) := by decide +kernel
theorem dX10_exchange_6 : decode cX10_exchange 6 = .ok (.iload_n 1, 1) := by decide +kernel
theorem dX10_exchange_7 : decode cX10_exchange 7 = .ok (.iconst 0, 1) := by decide +kernel
theorem dX10_exchange_8 : decode cX10_exchange 8 = .ok (.iconst 2, 1) := by decide +kernel
theorem dX10_exchange_9 : decode cX10_exchange 9 = .ok (.invokestatic 151, 3) := by decide +kernel
theorem dX10_exchange_12 : decode cX10_exchange 12 = .ok (.ifCond .ne 7, 3) := by decide +kernel
theorem dX10_exchange_15 : decode cX10_exchange 15 = .ok (.iconst 1, 1) := by decide +kernel
theorem dX10_exchange_16 : decode cX10_exchange 16 = .ok (.goto 4, 3) := by decide +kernel
theorem dX10_exchange_19 : decode cX10_exchange 19 = .ok (.iconst 0, 1) := by decide +kernel
theorem dX10_exchange_20 : decode cX10_exchange 20 = .ok (.iconst 1, 1) := by decide +kernel
theorem dX10_exchange_21 : decode cX10_exchange 21 = .ok (.invokevirtual 309, 3) := by decide +kernel
theorem dX10_exchange_24 : decode cX10_exchange 24 = .ok (.ifCond .eq 5, 3) := by decide +kernel
theorem dX10_exchange_27 : decode cX10_exchange 27 = .ok (.iconst 0, 1) := by decide +kernel
theorem dX10_exchange_28 : decode cX10_exchange 28 = .ok (.ireturn, 1) := by decide +kernel
theorem dX10_exchange_29 : decode cX10_exchange 29 = .ok (.aload_n 0, 1) := by decide +kernel
theorem dX10_exchange_30 : decode cX10_exchange 30 = .ok (.invokevirtual 392, 3) := by decide +kernel
theorem dX10_exchange_33 : decode cX10_exchange 33 = .ok (.istore_n 2, 1) := by decide +kernel
theorem dX10_exchange_34 : decode cX10_exchange 34 = .ok (.iload_n 1, 1) := by decide +kernel
theorem dX10_exchange_35 : decode cX10_exchange 35 = .ok (.ifCond .ne 10, 3) := by decide +kernel
theorem dX10_exchange_38 : decode cX10_exchange 38 = .ok (.aload_n 0, 1) := by decide +kernel
theorem dX10_exchange_39 : decode cX10_exchange 39 = .ok (.getfield 386, 3) := by decide +kernel
theorem dX10_exchange_42 : decode cX10_exchange 42 = .ok (.goto 16, 3) := by decide +kernel
theorem dX10_exchange_45 : decode cX10_exchange 45 = .ok (.iload_n 1, 1) := by decide +kernel
theorem dX10_exchange_46 : decode cX10_exchange 46 = .ok (.iconst 1, 1) := by decide +kernel
theorem dX10_exchange_47 : decode cX10_exchange 47 = .ok (.if_icmp .ne 10, 3) := by decide +kernel
theorem dX10_exchange_50 : decode cX10_exchange 50 = .ok (.aload_n 0, 1) := by decide +kernel
theorem dX10_exchange_51 : decode cX10_exchange 51 = .ok (.getfield 389, 3) := by decide +kernel
theorem dX10_exchange_54 : decode cX10_exchange 54 = .ok (.goto 4, 3) := by decide +kernel
theorem dX10_exchange_57 : decode cX10_exchange 57 = .ok (.iload_n 2, 1) := by decide +kernel
theorem dX10_exchange_58 : decode cX10_exchange 58 = .ok (.ireturn, 1) := by decide +kernel
theorem dX10_trade_0 : decode cX10_trade 0 = .ok (.aload_n 0, 1) := by decide +kernel
theorem dX10_trade_1 : decode cX10_trade 1 = .ok (.iconst 0, 1) := by decide +kernel
theorem dX10_trade_2 : decode cX10_trade 2 = .ok (.putfield 142, 3) := by decide +kernel
theorem dX10_trade_5 : decode cX10_trade 5 = .ok (.aload_n 0, 1) := by decide +kernel
theorem dX10_trade_6 : decode cX10_trade 6 = .ok (.aload_n 0, 1) := by decide +kernel
theorem dX10_trade_7 : decode cX10_trade 7 = .ok (.invokevirtual 392, 3) := by decide +kernel
theorem dX10_trade_10 : decode cX10_trade 10 = .ok (.ifCond .ne 7, 3) := by decide +kernel
theorem dX10_trade_13 : decode cX10_trade 13 = .ok (.iconst 1, 1) := by decide +kernel
theorem dX10_trade_14 : decode cX10_trade 14 = .ok (.goto 4, 3) := by decide +kernel
theorem dX10_trade_17 : decode cX10_trade 17 = .ok (.iconst 0, 1) := by decide +kernel
theorem dX10_trade_18 : decode cX10_trade 18 = .ok (.iconst 1, 1) := by decide +kernel
theorem dX10_trade_19 : decode cX10_trade 19 = .ok (.invokevirtual 309, 3) := by decide +kernel
theorem dX10_trade_22 : decode cX10_trade 22 = .ok (.ifCond .eq 5, 3) := by decide +kernel
theorem dX10_trade_25 : decode cX10_trade 25 = .ok (.iconst 0, 1) := by decide +kernel
theorem dX10_trade_26 : decode cX10_trade 26 = .ok (.ireturn, 1) := by decide +kernel
theorem dX10_trade_27 : decode cX10_trade 27 = .ok (.aload_n 0, 1) := by decide +kernel
theorem dX10_trade_28 : decode cX10_trade 28 = .ok (.aload_n 0, 1) := by decide +kernel
theorem dX10_trade_29 : decode cX10_trade 29 = .ok (.getfield 221, 3) := by decide +kernel
theorem dX10_trade_32 : decode cX10_trade 32 = .ok (.iconst 1, 1) := by decide +kernel
theorem dX10_trade_33 : decode cX10_trade 33 = .ok (.aload_n 0, 1) := by decide +kernel
theorem dX10_trade_34 : decode cX10_trade 34 = .ok (.getfield 386, 3) := by decide +kernel
theorem dX10_trade_37 : decode cX10_trade 37 = .ok (.ishl, 1) := by decide +kernel
theorem dX10_trade_38 : decode cX10_trade 38 = .ok (.iconst (-1), 1) := by decide +kernel
theorem dX10_trade_39 : decode cX10_trade 39 = .ok (.ixor, 1) := by decide +kernel
theorem dX10_trade_40 : decode cX10_trade 40 = .ok (.iand, 1) := by decide +kernel
theorem dX10_trade_41 : decode cX10_trade 41 = .ok (.iconst 1, 1) := by decide +kernel
theorem dX10_trade_42 : decode cX10_trade 42 = .ok (.aload_n 0, 1) := by decide +kernel
theorem dX10_trade_43 : decode cX10_trade 43 = .ok (.getfield 389, 3) := by decide +kernel
theorem dX10_trade_46 : decode cX10_trade 46 = .ok (.ishl, 1) := by decide +kernel
theorem dX10_trade_47 : decode cX10_trade 47 = .ok (.ior, 1) := by decide +kernel
theorem dX10_trade_48 : decode cX10_trade 48 = .ok (.putfield 221, 3) := by decide +kernel
theorem dX10_trade_51 : decode cX10_trade 51 = .ok (.aload_n 0, 1) := by decide +kernel
theorem dX10_trade_52 : decode cX10_trade 52 = .ok (.getfield 97, 3) := by decide +kernel
theorem dX10_trade_55 : decode cX10_trade 55 = .ok (.aload_n 0, 1) := by decide +kernel
theorem dX10_trade_56 : decode cX10_trade 56 = .ok (.getfield 221, 3) := by decide +kernel
theorem dX10_trade_59 : decode cX10_trade 59 = .ok (.iaload, 1) := by decide +kernel
theorem dX10_trade_60 : decode cX10_trade 60 = .ok (.ireturn, 1) := by decide +kernel
theorem dX10_rank_0 : decode cX10_rank 0 = .ok (.aload_n 0, 1) := by decide +kernel
theorem dX10_rank_1 : decode cX10_rank 1 = .ok (.iconst 0, 1) := by decide +kernel
theorem dX10_rank_2 : decode cX10_rank 2 = .ok (.putfield 142, 3) := by decide +kernel
theorem dX10_rank_5 : decode cX10_rank 5 = .ok (.aload_n 0, 1) := by decide +kernel
theorem dX10_rank_6 : decode cX10_rank 6 = .ok (.invokevirtual 349, 3) := by decide +kernel
theorem dX10_rank_9 : decode cX10_rank 9 = .ok (.iconst 0, 1) := by decide +kernel
theorem dX10_rank_10 : decode cX10_rank 10 = .ok (.istore_n 2, 1) := by decide +kernel
theorem dX10_rank_11 : decode cX10_rank 11 = .ok (.iload_n 2, 1) := by decide +kernel
theorem dX10_rank_12 : decode cX10_rank 12 = .ok (.aload_n 0, 1) := by decide +kernel
theorem dX10_rank_13 : decode cX10_rank 13 = .ok (.getfield 203, 3) := by decide +kernel
theorem dX10_rank_16 : decode cX10_rank 16 = .ok (.if_icmp .ge 90, 3) := by decide +kernel
theorem dX10_rank_19 : decode cX10_rank 19 = .ok (.iconst 0, 1) := by decide +kernel
theorem dX10_rank_20 : decode cX10_rank 20 = .ok (.istore_n 3, 1) := by decide +kernel
theorem dX10_rank_21 : decode cX10_rank 21 = .ok (.iconst 0, 1) := by decide +kernel
theorem dX10_rank_22 : decode cX10_rank 22 = .ok (.istore 4, 2) := by decide +kernel
theorem dX10_rank_24 : decode cX10_rank 24 = .ok (.iload 4, 2) := by decide +kernel
theorem dX10_rank_26 : decode cX10_rank 26 = .ok (.aload_n 0, 1) := by decide +kernel
theorem dX10_rank_27 : decode cX10_rank 27 = .ok (.getfield 203, 3) := by decide +kernel
theorem dX10_rank_30 : decode cX10_rank 30 = .ok (.if_icmp .ge 63, 3) := by decide +kernel
theorem dX10_rank_33 : decode cX10_rank 33 = .ok (.iload_n 3, 1) := by decide +kernel
theorem dX10_rank_34 : decode cX10_rank 34 = .ok (.aload_n 0, 1) := by decide +kernel
theorem dX10_rank_35 : decode cX10_rank 35 = .ok (.getfield 97, 3) := by decide +kernel
theorem dX10_rank_38 : decode cX10_rank 38 = .ok (.iconst 1, 1) := by decide +kernel
theorem dX10_rank_39 : decode cX10_rank 39 = .ok (.iload 4, 2) := by decide +kernel
theorem dX10_rank_41 : decode cX10_rank 41 = .ok (.ishl, 1) := by decide +kernel
theorem dX10_rank_42 : decode cX10_rank 42 = .ok (.iaload, 1) := by decide +kernel
theorem dX10_rank_43 : decode cX10_rank 43 = .ok (.aload_n 0, 1) := by decide +kernel
theorem dX10_rank_44 : decode cX10_rank 44 = .ok (.getfield 97, 3) := by decide +kernel
theorem dX10_rank_47 : decode cX10_rank 47 = .ok (.iconst 1, 1) := by decide +kernel
theorem dX10_rank_48 : decode cX10_rank 48 = .ok (.iload_n 2, 1) := by decide +kernel
theorem dX10_rank_49 : decode cX10_rank 49 = .ok (.ishl, 1) := by decide +kernel
theorem dX10_rank_50 : decode cX10_rank 50 = .ok (.iaload, 1) := by decide +kernel
theorem dX10_rank_51 : decode cX10_rank 51 = .ok (.if_icmp .gt 29, 3) := by decide +kernel
theorem dX10_rank_54 : decode cX10_rank 54 = .ok (.aload_n 0, 1) := by decide +kernel
theorem dX10_rank_55 : decode cX10_rank 55 = .ok (.getfield 97, 3) := by decide +kernel
theorem dX10_rank_58 : decode cX10_rank 58 = .ok (.iconst 1, 1) := by decide +kernel
theorem dX10_rank_59 : decode cX10_rank 59 = .ok (.iload 4, 2) := by decide +kernel
theorem dX10_rank_61 : decode cX10_rank 61 = .ok (.ishl, 1) := by decide +kernel
theorem dX10_rank_62 : decode cX10_rank 62 = .ok (.iaload, 1) := by decide +kernel
theorem dX10_rank_63 : decode cX10_rank 63 = .ok (.aload_n 0, 1) := by decide +kernel
theorem dX10_rank_64 : decode cX10_rank 64 = .ok (.getfield 97, 3) := by decide +kernel
theorem dX10_rank_67 : decode cX10_rank 67 = .ok (.iconst 1, 1) := by decide +kernel
theorem dX10_rank_68 : decode cX10_rank 68 = .ok (.iload_n 2, 1) := by decide +kernel
theorem dX10_rank_69 : decode cX10_rank 69 = .ok (.ishl, 1) := by decide +kernel
theorem dX10_rank_70 : decode cX10_rank 70 = .ok (.iaload, 1) := by decide +kernel
theorem dX10_rank_71 : decode cX10_rank 71 = .ok (.if_icmp .ne 13, 3) := by decide +kernel
theorem dX10_rank_74 : decode cX10_rank 74 = .ok (.iload 4, 2) := by decide +kernel
theorem dX10_rank_76 : decode cX10_rank 76 = .ok (.iload_n 2, 1) := by decide +kernel
theorem dX10_rank_77 : decode cX10_rank 77 = .ok (.if_icmp .ge 7, 3) := by decide +kernel
theorem dX10_rank_80 : decode cX10_rank 80 = .ok (.iconst 1, 1) := by decide +kernel
theorem dX10_rank_81 : decode cX10_rank 81 = .ok (.goto 4, 3) := by decide +kernel
theorem dX10_rank_84 : decode cX10_rank 84 = .ok (.iconst 0, 1) := by decide +kernel
theorem dX10_rank_85 : decode cX10_rank 85 = .ok (.iadd, 1) := by decide +kernel
theorem dX10_rank_86 : decode cX10_rank 86 = .ok (.istore_n 3, 1) := by decide +kernel
theorem dX10_rank_87 : decode cX10_rank 87 = .ok (.iinc 4 1, 3) := by decide +kernel
theorem dX10_rank_90 : decode cX10_rank 90 = .ok (.goto (-66), 3) := by decide +kernel
theorem dX10_rank_93 : decode cX10_rank 93 = .ok (.iload_n 3, 1) := by decide +kernel
theorem dX10_rank_94 : decode cX10_rank 94 = .ok (.iload_n 1, 1) := by decide +kernel
theorem dX10_rank_95 : decode cX10_rank 95 = .ok (.if_icmp .ne 5, 3) := by decide +kernel
theorem dX10_rank_98 : decode cX10_rank 98 = .ok (.iload_n 2, 1) := by decide +kernel
theorem dX10_rank_99 : decode cX10_rank 99 = .ok (.ireturn, 1) := by decide +kernel
theorem dX10_rank_100 : decode cX10_rank 100 = .ok (.iinc 2 1, 3) := by decide +kernel
theorem dX10_rank_103 : decode cX10_rank 103 = .ok (.goto (-92), 3) := by decide +kernel
theorem dX10_rank_106 : decode cX10_rank 106 = .ok (.iconst (-1), 1) := by decide +kernel
theorem dX10_rank_107 : decode cX10_rank 107 = .ok (.ireturn, 1) := by decide +kernel
theorem dX10_need_0 : decode cX10_need 0 = .ok (.aload_n 0, 1) := by decide +kernel
theorem dX10_need_1 : decode cX10_need 1 = .ok (.iconst 0, 1) := by decide +kernel
theorem dX10_need_2 : decode cX10_need 2 = .ok (.putfield 142, 3) := by decide +kernel
theorem dX10_need_5 : decode cX10_need 5 = .ok (.aload_n 0, 1) := by decide +kernel
theorem dX10_need_6 : decode cX10_need 6 = .ok (.iload_n 1, 1) := by decide +kernel
theorem dX10_need_7 : decode cX10_need 7 = .ok (.iconst 1, 1) := by decide +kernel
theorem dX10_need_8 : decode cX10_need 8 = .ok (.sipush 1008, 3) := by decide +kernel
theorem dX10_need_11 : decode cX10_need 11 = .ok (.invokestatic 151, 3) := by decide +kernel
theorem dX10_need_14 : decode cX10_need 14 = .ok (.ifCond .ne 7, 3) := by decide +kernel
theorem dX10_need_17 : decode cX10_need 17 = .ok (.iconst 1, 1) := by decide +kernel
theorem dX10_need_18 : decode cX10_need 18 = .ok (.goto 4, 3) := by decide +kernel
theorem dX10_need_21 : decode cX10_need 21 = .ok (.iconst 0, 1) := by decide +kernel
theorem dX10_need_22 : decode cX10_need 22 = .ok (.iconst 1, 1) := by decide +kernel
theorem dX10_need_23 : decode cX10_need 23 = .ok (.invokevirtual 309, 3) := by decide +kernel
theorem dX10_need_26 : decode cX10_need 26 = .ok (.ifCond .eq 5, 3) := by decide +kernel
theorem dX10_need_29 : decode cX10_need 29 = .ok (.iconst 0, 1) := by decide +kernel
theorem dX10_need_30 : decode cX10_need 30 = .ok (.ireturn, 1) := by decide +kernel
theorem dX10_need_31 : decode cX10_need 31 = .ok (.aload_n 0, 1) := by decide +kernel
theorem dX10_need_32 : decode cX10_need 32 = .ok (.invokevirtual 364, 3) := by decide +kernel
theorem dX10_need_35 : decode cX10_need 35 = .ok (.ldc_w 395, 3) := by decide +kernel
theorem dX10_need_38 : decode cX10_need 38 = .ok (.istore_n 2, 1) := by decide +kernel
theorem dX10_need_39 : decode cX10_need 39 = .ok (.iconst 1, 1) := by decide +kernel
theorem dX10_need_40 : decode cX10_need 40 = .ok (.istore_n 3, 1) := by decide +kernel
theorem dX10_need_41 : decode cX10_need 41 = .ok (.iload_n 3, 1) := by decide +kernel
theorem dX10_need_42 : decode cX10_need 42 = .ok (.iconst 1, 1) := by decide +kernel
theorem dX10_need_43 : decode cX10_need 43 = .ok (.aload_n 0, 1) := by decide +kernel
theorem dX10_need_44 : decode cX10_need 44 = .ok (.getfield 203, 3) := by decide +kernel
theorem dX10_need_47 : decode cX10_need 47 = .ok (.ishl, 1) := by decide +kernel
theorem dX10_need_48 : decode cX10_need 48 = .ok (.if_icmp .ge 47, 3) := by decide +kernel
theorem dX10_need_51 : decode cX10_need 51 = .ok (.aload_n 0, 1) := by decide +kernel
theorem dX10_need_52 : decode cX10_need 52 = .ok (.getfield 97, 3) := by decide +kernel
theorem dX10_need_55 : decode cX10_need 55 = .ok (.iload_n 3, 1) := by decide +kernel
theorem dX10_need_56 : decode cX10_need 56 = .ok (.iaload, 1) := by decide +kernel
theorem dX10_need_57 : decode cX10_need 57 = .ok (.iload_n 1, 1) := by decide +kernel
theorem dX10_need_58 : decode cX10_need 58 = .ok (.if_icmp .lt 31, 3) := by decide +kernel
theorem dX10_need_61 : decode cX10_need 61 = .ok (.aload_n 0, 1) := by decide +kernel
theorem dX10_need_62 : decode cX10_need 62 = .ok (.getfield 100, 3) := by decide +kernel
theorem dX10_need_65 : decode cX10_need 65 = .ok (.iload_n 3, 1) := by decide +kernel
theorem dX10_need_66 : decode cX10_need 66 = .ok (.iaload, 1) := by decide +kernel
theorem dX10_need_67 : decode cX10_need 67 = .ok (.iload_n 2, 1) := by decide +kernel
theorem dX10_need_68 : decode cX10_need 68 = .ok (.if_icmp .ge 21, 3) := by decide +kernel
theorem dX10_need_71 : decode cX10_need 71 = .ok (.aload_n 0, 1) := by decide +kernel
theorem dX10_need_72 : decode cX10_need 72 = .ok (.iload_n 3, 1) := by decide +kernel
theorem dX10_need_73 : decode cX10_need 73 = .ok (.sipush 700, 3) := by decide +kernel
theorem dX10_need_76 : decode cX10_need 76 = .ok (.invokevirtual 358, 3) := by decide +kernel
theorem dX10_need_79 : decode cX10_need 79 = .ok (.ifCond .eq 10, 3) := by decide +kernel
theorem dX10_need_82 : decode cX10_need 82 = .ok (.aload_n 0, 1) := by decide +kernel
theorem dX10_need_83 : decode cX10_need 83 = .ok (.getfield 100, 3) := by decide +kernel
theorem dX10_need_86 : decode cX10_need 86 = .ok (.iload_n 3, 1) := by decide +kernel
theorem dX10_need_87 : decode cX10_need 87 = .ok (.iaload, 1) := by decide +kernel
theorem dX10_need_88 : decode cX10_need 88 = .ok (.istore_n 2, 1) := by decide +kernel
theorem dX10_need_89 : decode cX10_need 89 = .ok (.iinc 3 1, 3) := by decide +kernel
theorem dX10_need_92 : decode cX10_need 92 = .ok (.goto (-51), 3) := by decide +kernel
theorem dX10_need_95 : decode cX10_need 95 = .ok (.iload_n 2, 1) := by decide +kernel
theorem dX10_need_96 : decode cX10_need 96 = .ok (.ldc_w 395, 3) := by decide +kernel
theorem dX10_need_99 : decode cX10_need 99 = .ok (.if_icmp .ne 7, 3) := by decide +kernel
theorem dX10_need_102 : decode cX10_need 102 = .ok (.iconst (-1), 1) := by decide +kernel
theorem dX10_need_103 : decode cX10_need 103 = .ok (.goto 15, 3) := by decide +kernel
theorem dX10_need_106 : decode cX10_need 106 = .ok (.iload_n 2, 1) := by decide +kernel
theorem dX10_need_107 : decode cX10_need 107 = .ok (.bipush 20, 2) := by decide +kernel
theorem dX10_need_109 : decode cX10_need 109 = .ok (.if_icmp .ge 8, 3) := by decide +kernel
theorem dX10_need_112 : decode cX10_need 112 = .ok (.bipush 20, 2) := by decide +kernel
theorem dX10_need_114 : decode cX10_need 114 = .ok (.goto 4, 3) := by decide +kernel
theorem dX10_need_117 : decode cX10_need 117 = .ok (.iload_n 2, 1) := by decide +kernel
theorem dX10_need_118 : decode cX10_need 118 = .ok (.ireturn, 1) := by decide +kernel
theorem dX10_loss_0 : decode cX10_loss 0 = .ok (.aload_n 0, 1) := by decide +kernel
theorem dX10_loss_1 : decode cX10_loss 1 = .ok (.iload_n 1, 1) := by decide +kernel
theorem dX10_loss_2 : decode cX10_loss 2 = .ok (.invokevirtual 340, 3) := by decide +kernel
theorem dX10_loss_5 : decode cX10_loss 5 = .ok (.ifCond .eq 5, 3) := by decide +kernel
theorem dX10_loss_8 : decode cX10_loss 8 = .ok (.iconst 0, 1) := by decide +kernel
theorem dX10_loss_9 : decode cX10_loss 9 = .ok (.ireturn, 1) := by decide +kernel
theorem dX10_loss_10 : decode cX10_loss 10 = .ok (.aload_n 0, 1) := by decide +kernel
theorem dX10_loss_11 : decode cX10_loss 11 = .ok (.getfield 97, 3) := by decide +kernel
theorem dX10_loss_14 : decode cX10_loss 14 = .ok (.aload_n 0, 1) := by decide +kernel
theorem dX10_loss_15 : decode cX10_loss 15 = .ok (.iconst 1, 1) := by decide +kernel
theorem dX10_loss_16 : decode cX10_loss 16 = .ok (.iload_n 1, 1) := by decide +kernel
theorem dX10_loss_17 : decode cX10_loss 17 = .ok (.ishl, 1) := by decide +kernel
theorem dX10_loss_18 : decode cX10_loss 18 = .ok (.invokevirtual 376, 3) := by decide +kernel
theorem dX10_loss_21 : decode cX10_loss 21 = .ok (.iaload, 1) := by decide +kernel
theorem dX10_loss_22 : decode cX10_loss 22 = .ok (.istore_n 2, 1) := by decide +kernel
theorem dX10_loss_23 : decode cX10_loss 23 = .ok (.aload_n 0, 1) := by decide +kernel
theorem dX10_loss_24 : decode cX10_loss 24 = .ok (.getfield 97, 3) := by decide +kernel
theorem dX10_loss_27 : decode cX10_loss 27 = .ok (.aload_n 0, 1) := by decide +kernel
theorem dX10_loss_28 : decode cX10_loss 28 = .ok (.iconst 0, 1) := by decide +kernel
theorem dX10_loss_29 : decode cX10_loss 29 = .ok (.invokevirtual 376, 3) := by decide +kernel
theorem dX10_loss_32 : decode cX10_loss 32 = .ok (.iaload, 1) := by decide +kernel
theorem dX10_loss_33 : decode cX10_loss 33 = .ok (.iload_n 2, 1) := by decide +kernel
theorem dX10_loss_34 : decode cX10_loss 34 = .ok (.isub, 1) := by decide +kernel
theorem dX10_loss_35 : decode cX10_loss 35 = .ok (.ireturn, 1) := by decide +kernel
theorem dX10_variety_0 : decode cX10_variety 0 = .ok (.aload_n 0, 1) := by decide +kernel
theorem dX10_variety_1 : decode cX10_variety 1 = .ok (.invokevirtual 364, 3) := by decide +kernel
theorem dX10_variety_4 : decode cX10_variety 4 = .ok (.iconst 0, 1) := by decide +kernel
theorem dX10_variety_5 : decode cX10_variety 5 = .ok (.istore_n 1, 1) := by decide +kernel
theorem dX10_variety_6 : decode cX10_variety 6 = .ok (.iconst 1, 1) := by decide +kernel
theorem dX10_variety_7 : decode cX10_variety 7 = .ok (.istore_n 2, 1) := by decide +kernel
theorem dX10_variety_8 : decode cX10_variety 8 = .ok (.iload_n 2, 1) := by decide +kernel
theorem dX10_variety_9 : decode cX10_variety 9 = .ok (.iconst 1, 1) := by decide +kernel
theorem dX10_variety_10 : decode cX10_variety 10 = .ok (.aload_n 0, 1) := by decide +kernel
theorem dX10_variety_11 : decode cX10_variety 11 = .ok (.getfield 203, 3) := by decide +kernel
theorem dX10_variety_14 : decode cX10_variety 14 = .ok (.ishl, 1) := by decide +kernel
theorem dX10_variety_15 : decode cX10_variety 15 = .ok (.if_icmp .ge 30, 3) := by decide +kernel
theorem dX10_variety_18 : decode cX10_variety 18 = .ok (.iload_n 2, 1) := by decide +kernel
theorem dX10_variety_19 : decode cX10_variety 19 = .ok (.invokestatic 319, 3) := by decide +kernel
theorem dX10_variety_22 : decode cX10_variety 22 = .ok (.iload_n 1, 1) := by decide +kernel
theorem dX10_variety_23 : decode cX10_variety 23 = .ok (.invokestatic 319, 3) := by decide +kernel
theorem dX10_variety_26 : decode cX10_variety 26 = .ok (.if_icmp .le 13, 3) := by decide +kernel
theorem dX10_variety_29 : decode cX10_variety 29 = .ok (.aload_n 0, 1) := by decide +kernel
theorem dX10_variety_30 : decode cX10_variety 30 = .ok (.iload_n 2, 1) := by decide +kernel
theorem dX10_variety_31 : decode cX10_variety 31 = .ok (.invokevirtual 355, 3) := by decide +kernel
theorem dX10_variety_34 : decode cX10_variety 34 = .ok (.ifCond .eq 5, 3) := by decide +kernel
theorem dX10_variety_37 : decode cX10_variety 37 = .ok (.iload_n 2, 1) := by decide +kernel
theorem dX10_variety_38 : decode cX10_variety 38 = .ok (.istore_n 1, 1) := by decide +kernel
theorem dX10_variety_39 : decode cX10_variety 39 = .ok (.iinc 2 1, 3) := by decide +kernel
theorem dX10_variety_42 : decode cX10_variety 42 = .ok (.goto (-34), 3) := by decide +kernel
theorem dX10_variety_45 : decode cX10_variety 45 = .ok (.iload_n 1, 1) := by decide +kernel
theorem dX10_variety_46 : decode cX10_variety 46 = .ok (.ireturn, 1) := by decide +kernel
theorem dX10_merit_0 : decode cX10_merit 0 = .ok (.aload_n 0, 1) := by decide +kernel
theorem dX10_merit_1 : decode cX10_merit 1 = .ok (.getfield 97, 3) := by decide +kernel
theorem dX10_merit_4 : decode cX10_merit 4 = .ok (.aload_n 0, 1) := by decide +kernel
theorem dX10_merit_5 : decode cX10_merit 5 = .ok (.iconst 0, 1) := by decide +kernel
theorem dX10_merit_6 : decode cX10_merit 6 = .ok (.invokevirtual 376, 3) := by decide +kernel
theorem dX10_merit_9 : decode cX10_merit 9 = .ok (.iaload, 1) := by decide +kernel
theorem dX10_merit_10 : decode cX10_merit 10 = .ok (.istore_n 1, 1) := by decide +kernel
theorem dX10_merit_11 : decode cX10_merit 11 = .ok (.iload_n 1, 1) := by decide +kernel
theorem dX10_merit_12 : decode cX10_merit 12 = .ok (.ifCond .ne 8, 3) := by decide +kernel
theorem dX10_merit_15 : decode cX10_merit 15 = .ok (.bipush 100, 2) := by decide +kernel
theorem dX10_merit_17 : decode cX10_merit 17 = .ok (.goto 17, 3) := by decide +kernel
theorem dX10_merit_20 : decode cX10_merit 20 = .ok (.bipush 100, 2) := by decide +kernel
theorem dX10_merit_22 : decode cX10_merit 22 = .ok (.aload_n 0, 1) := by decide +kernel
theorem dX10_merit_23 : decode cX10_merit 23 = .ok (.getfield 97, 3) := by decide +kernel
theorem dX10_merit_26 : decode cX10_merit 26 = .ok (.aload_n 0, 1) := by decide +kernel
theorem dX10_merit_27 : decode cX10_merit 27 = .ok (.invokevirtual 379, 3) := by decide +kernel
theorem dX10_merit_30 : decode cX10_merit 30 = .ok (.iaload, 1) := by decide +kernel
theorem dX10_merit_31 : decode cX10_merit 31 = .ok (.imul, 1) := by decide +kernel
theorem dX10_merit_32 : decode cX10_merit 32 = .ok (.iload_n 1, 1) := by decide +kernel
theorem dX10_merit_33 : decode cX10_merit 33 = .ok (.idiv, 1) := by decide +kernel
theorem dX10_merit_34 : decode cX10_merit 34 = .ok (.ireturn, 1) := by decide +kernel
theorem dX10_puts_0 : decode cX10_puts 0 = .ok (.aload_n 0, 1) := by decide +kernel
theorem dX10_puts_1 : decode cX10_puts 1 = .ok (.getfield 127, 3) := by decide +kernel
theorem dX10_puts_4 : decode cX10_puts 4 = .ok (.aload_n 0, 1) := by decide +kernel
theorem dX10_puts_5 : decode cX10_puts 5 = .ok (.getfield 396, 3) := by decide +kernel
theorem dX10_puts_8 : decode cX10_puts 8 = .ok (.iload_n 1, 1) := by decide +kernel
theorem dX10_puts_9 : decode cX10_puts 9 = .ok (.i2b, 1) := by decide +kernel
theorem dX10_puts_10 : decode cX10_puts 10 = .ok (.bastore, 1) := by decide +kernel
theorem dX10_puts_11 : decode cX10_puts 11 = .ok (.aload_n 0, 1) := by decide +kernel
theorem dX10_puts_12 : decode cX10_puts 12 = .ok (.dup, 1) := by decide +kernel
theorem dX10_puts_13 : decode cX10_puts 13 = .ok (.getfield 396, 3) := by decide +kernel
theorem dX10_puts_16 : decode cX10_puts 16 = .ok (.iconst 1, 1) := by decide +kernel
theorem dX10_puts_17 : decode cX10_puts 17 = .ok (.iadd, 1) := by decide +kernel
theorem dX10_puts_18 : decode cX10_puts 18 = .ok (.putfield 396, 3) := by decide +kernel
theorem dX10_puts_21 : decode cX10_puts 21 = .ok (.return_, 1) := by decide +kernel
theorem dX10_says_0 : decode cX10_says 0 = .ok (.iconst 0, 1) := by decide +kernel
theorem dX10_says_1 : decode cX10_says 1 = .ok (.istore_n 2, 1) := by decide +kernel
theorem dX10_says_2 : decode cX10_says 2 = .ok (.iload_n 2, 1) := by decide +kernel
theorem dX10_says_3 : decode cX10_says 3 = .ok (.aload_n 1, 1) := by decide +kernel
theorem dX10_says_4 : decode cX10_says 4 = .ok (.invokevirtual 239, 3) := by decide +kernel
theorem dX10_says_7 : decode cX10_says 7 = .ok (.if_icmp .ge 18, 3) := by decide +kernel
theorem dX10_says_10 : decode cX10_says 10 = .ok (.aload_n 0, 1) := by decide +kernel
theorem dX10_says_11 : decode cX10_says 11 = .ok (.aload_n 1, 1) := by decide +kernel
theorem dX10_says_12 : decode cX10_says 12 = .ok (.iload_n 2, 1) := by decide +kernel
theorem dX10_says_13 : decode cX10_says 13 = .ok (.invokevirtual 244, 3) := by decide +kernel
theorem dX10_says_16 : decode cX10_says 16 = .ok (.invokevirtual 399, 3) := by decide +kernel
theorem dX10_says_19 : decode cX10_says 19 = .ok (.iinc 2 1, 3) := by decide +kernel
theorem dX10_says_22 : decode cX10_says 22 = .ok (.goto (-20), 3) := by decide +kernel
theorem dX10_says_25 : decode cX10_says 25 = .ok (.return_, 1) := by decide +kernel
theorem dX10_spells_0 : decode cX10_spells 0 = .ok (.aload_n 0, 1) := by decide +kernel
theorem dX10_spells_1 : decode cX10_spells 1 = .ok (.iload_n 1, 1) := by decide +kernel
theorem dX10_spells_2 : decode cX10_spells 2 = .ok (.invokevirtual 166, 3) := by decide +kernel
theorem dX10_spells_5 : decode cX10_spells 5 = .ok (.istore_n 2, 1) := by decide +kernel
theorem dX10_spells_6 : decode cX10_spells 6 = .ok (.iload_n 2, 1) := by decide +kernel
theorem dX10_spells_7 : decode cX10_spells 7 = .ok (.bipush 60, 2) := by decide +kernel
theorem dX10_spells_9 : decode cX10_spells 9 = .ok (.if_icmp .ne 13, 3) := by decide +kernel
theorem dX10_spells_12 : decode cX10_spells 12 = .ok (.aload_n 0, 1) := by decide +kernel
theorem dX10_spells_13 : decode cX10_spells 13 = .ok (.ldc_w 403, 3) := by decide +kernel
theorem dX10_spells_16 : decode cX10_spells 16 = .ok (.invokevirtual 405, 3) := by decide +kernel
theorem dX10_spells_19 : decode cX10_spells 19 = .ok (.goto 86, 3) := by decide +kernel
theorem dX10_spells_22 : decode cX10_spells 22 = .ok (.iload_n 2, 1) := by decide +kernel
theorem dX10_spells_23 : decode cX10_spells 23 = .ok (.bipush 62, 2) := by decide +kernel
theorem dX10_spells_25 : decode cX10_spells 25 = .ok (.if_icmp .ne 13, 3) := by decide +kernel
theorem dX10_spells_28 : decode cX10_spells 28 = .ok (.aload_n 0, 1) := by decide +kernel
theorem dX10_spells_29 : decode cX10_spells 29 = .ok (.ldc_w 409, 3) := by decide +kernel
theorem dX10_spells_32 : decode cX10_spells 32 = .ok (.invokevirtual 405, 3) := by decide +kernel
theorem dX10_spells_35 : decode cX10_spells 35 = .ok (.goto 70, 3) := by decide +kernel
theorem dX10_spells_38 : decode cX10_spells 38 = .ok (.iload_n 2, 1) := by decide +kernel
theorem dX10_spells_39 : decode cX10_spells 39 = .ok (.bipush 38, 2) := by decide +kernel
theorem dX10_spells_41 : decode cX10_spells 41 = .ok (.if_icmp .ne 13, 3) := by decide +kernel
theorem dX10_spells_44 : decode cX10_spells 44 = .ok (.aload_n 0, 1) := by decide +kernel
theorem dX10_spells_45 : decode cX10_spells 45 = .ok (.ldc_w 411, 3) := by decide +kernel
theorem dX10_spells_48 : decode cX10_spells 48 = .ok (.invokevirtual 405, 3) := by decide +kernel
theorem dX10_spells_51 : decode cX10_spells 51 = .ok (.goto 54, 3) := by decide +kernel
theorem dX10_spells_54 : decode cX10_spells 54 = .ok (.iload_n 2, 1) := by decide +kernel
theorem dX10_spells_55 : decode cX10_spells 55 = .ok (.bipush 34, 2) := by decide +kernel
theorem dX10_spells_57 : decode cX10_spells 57 = .ok (.if_icmp .ne 13, 3) := by decide +kernel
theorem dX10_spells_60 : decode cX10_spells 60 = .ok (.aload_n 0, 1) := by decide +kernel
theorem dX10_spells_61 : decode cX10_spells 61 = .ok (.ldc_w 413, 3) := by decide +kernel
theorem dX10_spells_64 : decode cX10_spells 64 = .ok (.invokevirtual 405, 3) := by decide +kernel
theorem dX10_spells_67 : decode cX10_spells 67 = .ok (.goto 38, 3) := by decide +kernel
theorem dX10_spells_70 : decode cX10_spells 70 = .ok (.aload_n 0, 1) := by decide +kernel
theorem dX10_spells_71 : decode cX10_spells 71 = .ok (.getfield 20, 3) := by decide +kernel
theorem dX10_spells_74 : decode cX10_spells 74 = .ok (.iload_n 1, 1) := by decide +kernel
theorem dX10_spells_75 : decode cX10_spells 75 = .ok (.iaload, 1) := by decide +kernel
theorem dX10_spells_76 : decode cX10_spells 76 = .ok (.istore_n 3, 1) := by decide +kernel
theorem dX10_spells_77 : decode cX10_spells 77 = .ok (.iload_n 3, 1) := by decide +kernel
theorem dX10_spells_78 : decode cX10_spells 78 = .ok (.aload_n 0, 1) := by decide +kernel
theorem dX10_spells_79 : decode cX10_spells 79 = .ok (.getfield 20, 3) := by decide +kernel
theorem dX10_spells_82 : decode cX10_spells 82 = .ok (.iload_n 1, 1) := by decide +kernel
theorem dX10_spells_83 : decode cX10_spells 83 = .ok (.iconst 1, 1) := by decide +kernel
theorem dX10_spells_84 : decode cX10_spells 84 = .ok (.iadd, 1) := by decide +kernel
theorem dX10_spells_85 : decode cX10_spells 85 = .ok (.iaload, 1) := by decide +kernel
theorem dX10_spells_86 : decode cX10_spells 86 = .ok (.if_icmp .ge 19, 3) := by decide +kernel
theorem dX10_spells_89 : decode cX10_spells 89 = .ok (.aload_n 0, 1) := by decide +kernel
theorem dX10_spells_90 : decode cX10_spells 90 = .ok (.aload_n 0, 1) := by decide +kernel
theorem dX10_spells_91 : decode cX10_spells 91 = .ok (.getfield 17, 3) := by decide +kernel
theorem dX10_spells_94 : decode cX10_spells 94 = .ok (.iload_n 3, 1) := by decide +kernel
theorem dX10_spells_95 : decode cX10_spells 95 = .ok (.iaload, 1) := by decide +kernel
theorem dX10_spells_96 : decode cX10_spells 96 = .ok (.invokevirtual 399, 3) := by decide +kernel
theorem dX10_spells_99 : decode cX10_spells 99 = .ok (.iinc 3 1, 3) := by decide +kernel
theorem dX10_spells_102 : decode cX10_spells 102 = .ok (.goto (-25), 3) := by decide +kernel
theorem dX10_spells_105 : decode cX10_spells 105 = .ok (.return_, 1) := by decide +kernel
theorem dX10_closesSoft_0 : decode cX10_closesSoft 0 = .ok (.aload_n 0, 1) := by decide +kernel
theorem dX10_closesSoft_1 : decode cX10_closesSoft 1 = .ok (.getfield 415, 3) := by decide +kernel
theorem dX10_closesSoft_4 : decode cX10_closesSoft 4 = .ok (.ifCond .eq 10, 3) := by decide +kernel
theorem dX10_closesSoft_7 : decode cX10_closesSoft 7 = .ok (.aload_n 0, 1) := by decide +kernel
theorem dX10_closesSoft_8 : decode cX10_closesSoft 8 = .ok (.ldc_w 418, 3) := by decide +kernel
theorem dX10_closesSoft_11 : decode cX10_closesSoft 11 = .ok (.invokevirtual 405, 3) := by decide +kernel
theorem dX10_closesSoft_14 : decode cX10_closesSoft 14 = .ok (.aload_n 0, 1) := by decide +kernel
theorem dX10_closesSoft_15 : decode cX10_closesSoft 15 = .ok (.iconst 0, 1) := by decide +kernel
theorem dX10_closesSoft_16 : decode cX10_closesSoft 16 = .ok (.putfield 415, 3) := by decide +kernel
theorem dX10_closesSoft_19 : decode cX10_closesSoft 19 = .ok (.return_, 1) := by decide +kernel
theorem dX10_closesStrong_0 : decode cX10_closesStrong 0 = .ok (.aload_n 0, 1) := by decide +kernel
theorem dX10_closesStrong_1 : decode cX10_closesStrong 1 = .ok (.getfield 420, 3) := by decide +kernel
theorem dX10_closesStrong_4 : decode cX10_closesStrong 4 = .ok (.ifCond .eq 10, 3) := by decide +kernel
theorem dX10_closesStrong_7 : decode cX10_closesStrong 7 = .ok (.aload_n 0, 1) := by decide +kernel
theorem dX10_closesStrong_8 : decode cX10_closesStrong 8 = .ok (.ldc_w 423, 3) := by decide +kernel
theorem dX10_closesStrong_11 : decode cX10_closesStrong 11 = .ok (.invokevirtual 405, 3) := by decide +kernel
theorem dX10_closesStrong_14 : decode cX10_closesStrong 14 = .ok (.aload_n 0, 1) := by decide +kernel
theorem dX10_closesStrong_15 : decode cX10_closesStrong 15 = .ok (.iconst 0, 1) := by decide +kernel
theorem dX10_closesStrong_16 : decode cX10_closesStrong 16 = .ok (.putfield 420, 3) := by decide +kernel
theorem dX10_closesStrong_19 : decode cX10_closesStrong 19 = .ok (.return_, 1) := by decide +kernel
theorem dX10_laysMarks_0 : decode cX10_laysMarks 0 = .ok (.iconst 0, 1) := by decide +kernel
theorem dX10_laysMarks_1 : decode cX10_laysMarks 1 = .ok (.istore 6, 2) := by decide +kernel
theorem dX10_laysMarks_3 : decode cX10_laysMarks 3 = .ok (.iload 6, 2) := by decide +kernel
theorem dX10_laysMarks_5 : decode cX10_laysMarks 5 = .ok (.aload_n 0, 1) := by decide +kernel
theorem dX10_laysMarks_6 : decode cX10_laysMarks 6 = .ok (.getfield 277, 3) := by decide +kernel
theorem dX10_laysMarks_9 : decode cX10_laysMarks 9 = .ok (.if_icmp .ge 124, 3) := by decide +kernel
theorem dX10_laysMarks_12 : decode cX10_laysMarks 12 = .ok (.aload_n 0, 1) := by decide +kernel
theorem dX10_laysMarks_13 : decode cX10_laysMarks 13 = .ok (.getfield 54, 3) := by decide +kernel
theorem dX10_laysMarks_16 : decode cX10_laysMarks 16 = .ok (.aload_n 0, 1) := by decide +kernel
theorem dX10_laysMarks_17 : decode cX10_laysMarks 17 = .ok (.getfield 85, 3) := by decide +kernel
theorem dX10_laysMarks_20 : decode cX10_laysMarks 20 = .ok (.iload 6, 2) := by decide +kernel
theorem dX10_laysMarks_22 : decode cX10_laysMarks 22 = .ok (.iaload, 1) := by decide +kernel
theorem dX10_laysMarks_23 : decode cX10_laysMarks 23 = .ok (.baload, 1) := by decide +kernel
theorem dX10_laysMarks_24 : decode cX10_laysMarks 24 = .ok (.iload_n 1, 1) := by decide +kernel
theorem dX10_laysMarks_25 : decode cX10_laysMarks 25 = .ok (.if_icmp .ne 102, 3) := by decide +kernel
theorem dX10_laysMarks_28 : decode cX10_laysMarks 28 = .ok (.aload_n 0, 1) := by decide +kernel
theorem dX10_laysMarks_29 : decode cX10_laysMarks 29 = .ok (.getfield 88, 3) := by decide +kernel
theorem dX10_laysMarks_32 : decode cX10_laysMarks 32 = .ok (.iload 6, 2) := by decide +kernel
theorem dX10_laysMarks_34 : decode cX10_laysMarks 34 = .ok (.iaload, 1) := by decide +kernel
theorem dX10_laysMarks_35 : decode cX10_laysMarks 35 = .ok (.iload_n 2, 1) := by decide +kernel
theorem dX10_laysMarks_36 : decode cX10_laysMarks 36 = .ok (.if_icmp .lt 91, 3) := by decide +kernel
theorem dX10_laysMarks_39 : decode cX10_laysMarks 39 = .ok (.aload_n 0, 1) := by decide +kernel
theorem dX10_laysMarks_40 : decode cX10_laysMarks 40 = .ok (.getfield 91, 3) := by decide +kernel
theorem dX10_laysMarks_43 : decode cX10_laysMarks 43 = .ok (.iload 6, 2) := by decide +kernel
theorem dX10_laysMarks_45 : decode cX10_laysMarks 45 = .ok (.iaload, 1) := by decide +kernel
theorem dX10_laysMarks_46 : decode cX10_laysMarks 46 = .ok (.iload_n 3, 1) := by decide +kernel
theorem dX10_laysMarks_47 : decode cX10_laysMarks 47 = .ok (.if_icmp .le 6, 3) := by decide +kernel
theorem dX10_laysMarks_50 : decode cX10_laysMarks 50 = .ok (.goto 77, 3) := by decide +kernel
theorem dX10_laysMarks_53 : decode cX10_laysMarks 53 = .ok (.aload_n 0, 1) := by decide +kernel
theorem dX10_laysMarks_54 : decode cX10_laysMarks 54 = .ok (.getfield 26, 3) := by decide +kernel
theorem dX10_laysMarks_57 : decode cX10_laysMarks 57 = .ok (.aload_n 0, 1) := by decide +kernel
theorem dX10_laysMarks_58 : decode cX10_laysMarks 58 = .ok (.getfield 91, 3) := by decide +kernel
theorem dX10_laysMarks_61 : decode cX10_laysMarks 61 = .ok (.iload 6, 2) := by decide +kernel
theorem dX10_laysMarks_63 : decode cX10_laysMarks 63 = .ok (.iaload, 1) := by decide +kernel
theorem dX10_laysMarks_64 : decode cX10_laysMarks 64 = .ok (.iaload, 1) := by decide +kernel
theorem dX10_laysMarks_65 : decode cX10_laysMarks 65 = .ok (.istore 7, 2) := by decide +kernel
theorem dX10_laysMarks_67 : decode cX10_laysMarks 67 = .ok (.aload_n 0, 1) := by decide +kernel
theorem dX10_laysMarks_68 : decode cX10_laysMarks 68 = .ok (.getfield 23, 3) := by decide +kernel
theorem dX10_laysMarks_71 : decode cX10_laysMarks 71 = .ok (.aload_n 0, 1) := by decide +kernel
theorem dX10_laysMarks_72 : decode cX10_laysMarks 72 = .ok (.getfield 88, 3) := by decide +kernel
theorem dX10_laysMarks_75 : decode cX10_laysMarks 75 = .ok (.iload 6, 2) := by decide +kernel
theorem dX10_laysMarks_77 : decode cX10_laysMarks 77 = .ok (.iaload, 1) := by decide +kernel
theorem dX10_laysMarks_78 : decode cX10_laysMarks 78 = .ok (.iaload, 1) := by decide +kernel
theorem dX10_laysMarks_79 : decode cX10_laysMarks 79 = .ok (.istore 8, 2) := by decide +kernel
theorem dX10_laysMarks_81 : decode cX10_laysMarks 81 = .ok (.iload 8, 2) := by decide +kernel
theorem dX10_laysMarks_83 : decode cX10_laysMarks 83 = .ok (.iload 7, 2) := by decide +kernel
theorem dX10_laysMarks_85 : decode cX10_laysMarks 85 = .ok (.if_icmp .ge 42, 3) := by decide +kernel
theorem dX10_laysMarks_88 : decode cX10_laysMarks 88 = .ok (.aload 4, 2) := by decide +kernel
theorem dX10_laysMarks_90 : decode cX10_laysMarks 90 = .ok (.iload 8, 2) := by decide +kernel
theorem dX10_laysMarks_92 : decode cX10_laysMarks 92 = .ok (.iconst 1, 1) := by decide +kernel
theorem dX10_laysMarks_93 : decode cX10_laysMarks 93 = .ok (.bastore, 1) := by decide +kernel
theorem dX10_laysMarks_94 : decode cX10_laysMarks 94 = .ok (.aload 5, 2) := by decide +kernel
theorem dX10_laysMarks_96 : decode cX10_laysMarks 96 = .ok (.iload 8, 2) := by decide +kernel
theorem dX10_laysMarks_98 : decode cX10_laysMarks 98 = .ok (.aload 5, 2) := by decide +kernel
theorem dX10_laysMarks_100 : decode cX10_laysMarks 100 = .ok (.iload 8, 2) := by decide +kernel
theorem dX10_laysMarks_102 : decode cX10_laysMarks 102 = .ok (.baload, 1) := by decide +kernel
theorem dX10_laysMarks_103 : decode cX10_laysMarks 103 = .ok (.ifCond .ne 12, 3) := by decide +kernel
theorem dX10_laysMarks_106 : decode cX10_laysMarks 106 = .ok (.iload 8, 2) := by decide +kernel
theorem dX10_laysMarks_108 : decode cX10_laysMarks 108 = .ok (.iconst 1, 1) := by decide +kernel
theorem dX10_laysMarks_109 : decode cX10_laysMarks 109 = .ok (.iadd, 1) := by decide +kernel
theorem dX10_laysMarks_110 : decode cX10_laysMarks 110 = .ok (.iload 7, 2) := by decide +kernel
theorem dX10_laysMarks_112 : decode cX10_laysMarks 112 = .ok (.if_icmp .ge 7, 3) := by decide +kernel
theorem dX10_laysMarks_115 : decode cX10_laysMarks 115 = .ok (.iconst 1, 1) := by decide +kernel
theorem dX10_laysMarks_116 : decode cX10_laysMarks 116 = .ok (.goto 4, 3) := by decide +kernel
theorem dX10_laysMarks_119 : decode cX10_laysMarks 119 = .ok (.iconst 0, 1) := by decide +kernel
theorem dX10_laysMarks_120 : decode cX10_laysMarks 120 = .ok (.bastore, 1) := by decide +kernel
theorem dX10_laysMarks_121 : decode cX10_laysMarks 121 = .ok (.iinc 8 1, 3) := by decide +kernel
theorem dX10_laysMarks_124 : decode cX10_laysMarks 124 = .ok (.goto (-43), 3) := by decide +kernel
theorem dX10_laysMarks_127 : decode cX10_laysMarks 127 = .ok (.iinc 6 1, 3) := by decide +kernel
theorem dX10_laysMarks_130 : decode cX10_laysMarks 130 = .ok (.goto (-127), 3) := by decide +kernel
theorem dX10_laysMarks_133 : decode cX10_laysMarks 133 = .ok (.return_, 1) := by decide +kernel
theorem dX10_merges_0 : decode cX10_merges 0 = .ok (.iload_n 1, 1) := by decide +kernel
theorem dX10_merges_1 : decode cX10_merges 1 = .ok (.istore 5, 2) := by decide +kernel
theorem dX10_merges_3 : decode cX10_merges 3 = .ok (.iload 5, 2) := by decide +kernel
theorem dX10_merges_5 : decode cX10_merges 5 = .ok (.iload_n 2, 1) := by decide +kernel
theorem dX10_merges_6 : decode cX10_merges 6 = .ok (.if_icmp .ge 105, 3) := by decide +kernel
theorem dX10_merges_9 : decode cX10_merges 9 = .ok (.aload_n 3, 1) := by decide +kernel
theorem dX10_merges_10 : decode cX10_merges 10 = .ok (.iload 5, 2) := by decide +kernel
theorem dX10_merges_12 : decode cX10_merges 12 = .ok (.baload, 1) := by decide +kernel
theorem dX10_merges_13 : decode cX10_merges 13 = .ok (.ifCond .eq 92, 3) := by decide +kernel
theorem dX10_merges_16 : decode cX10_merges 16 = .ok (.aload 4, 2) := by decide +kernel
theorem dX10_merges_18 : decode cX10_merges 18 = .ok (.iload 5, 2) := by decide +kernel
theorem dX10_merges_20 : decode cX10_merges 20 = .ok (.baload, 1) := by decide +kernel
theorem dX10_merges_21 : decode cX10_merges 21 = .ok (.ifCond .eq 6, 3) := by decide +kernel
theorem dX10_merges_24 : decode cX10_merges 24 = .ok (.goto 81, 3) := by decide +kernel
theorem dX10_merges_27 : decode cX10_merges 27 = .ok (.iload 5, 2) := by decide +kernel
theorem dX10_merges_29 : decode cX10_merges 29 = .ok (.iconst 1, 1) := by decide +kernel
theorem dX10_merges_30 : decode cX10_merges 30 = .ok (.iadd, 1) := by decide +kernel
theorem dX10_merges_31 : decode cX10_merges 31 = .ok (.istore 6, 2) := by decide +kernel
theorem dX10_merges_33 : decode cX10_merges 33 = .ok (.iload 6, 2) := by decide +kernel
theorem dX10_merges_35 : decode cX10_merges 35 = .ok (.iload_n 2, 1) := by decide +kernel
theorem dX10_merges_36 : decode cX10_merges 36 = .ok (.if_icmp .ge 25, 3) := by decide +kernel
theorem dX10_merges_39 : decode cX10_merges 39 = .ok (.aload_n 0, 1) := by decide +kernel
theorem dX10_merges_40 : decode cX10_merges 40 = .ok (.iload 6, 2) := by decide +kernel
theorem dX10_merges_42 : decode cX10_merges 42 = .ok (.invokevirtual 200, 3) := by decide +kernel
theorem dX10_merges_45 : decode cX10_merges 45 = .ok (.ifCond .eq 16, 3) := by decide +kernel
theorem dX10_merges_48 : decode cX10_merges 48 = .ok (.aload_n 3, 1) := by decide +kernel
theorem dX10_merges_49 : decode cX10_merges 49 = .ok (.iload 6, 2) := by decide +kernel
theorem dX10_merges_51 : decode cX10_merges 51 = .ok (.baload, 1) := by decide +kernel
theorem dX10_merges_52 : decode cX10_merges 52 = .ok (.ifCond .ne 9, 3) := by decide +kernel
theorem dX10_merges_55 : decode cX10_merges 55 = .ok (.iinc 6 1, 3) := by decide +kernel
theorem dX10_merges_58 : decode cX10_merges 58 = .ok (.goto (-25), 3) := by decide +kernel
theorem dX10_merges_61 : decode cX10_merges 61 = .ok (.iload 6, 2) := by decide +kernel
theorem dX10_merges_63 : decode cX10_merges 63 = .ok (.iload_n 2, 1) := by decide +kernel
theorem dX10_merges_64 : decode cX10_merges 64 = .ok (.if_icmp .ge 41, 3) := by decide +kernel
theorem dX10_merges_67 : decode cX10_merges 67 = .ok (.aload_n 3, 1) := by decide +kernel
theorem dX10_merges_68 : decode cX10_merges 68 = .ok (.iload 6, 2) := by decide +kernel
theorem dX10_merges_70 : decode cX10_merges 70 = .ok (.baload, 1) := by decide +kernel
theorem dX10_merges_71 : decode cX10_merges 71 = .ok (.ifCond .ne 6, 3) := by decide +kernel
theorem dX10_merges_74 : decode cX10_merges 74 = .ok (.goto 31, 3) := by decide +kernel
theorem dX10_merges_77 : decode cX10_merges 77 = .ok (.iload 5, 2) := by decide +kernel
theorem dX10_merges_79 : decode cX10_merges 79 = .ok (.istore 7, 2) := by decide +kernel
theorem dX10_merges_81 : decode cX10_merges 81 = .ok (.iload 7, 2) := by decide +kernel
theorem dX10_merges_83 : decode cX10_merges 83 = .ok (.iload 6, 2) := by decide +kernel
theorem dX10_merges_85 : decode cX10_merges 85 = .ok (.if_icmp .ge 20, 3) := by decide +kernel
theorem dX10_merges_88 : decode cX10_merges 88 = .ok (.aload_n 3, 1) := by decide +kernel
theorem dX10_merges_89 : decode cX10_merges 89 = .ok (.iload 7, 2) := by decide +kernel
theorem dX10_merges_91 : decode cX10_merges 91 = .ok (.iconst 1, 1) := by decide +kernel
theorem dX10_merges_92 : decode cX10_merges 92 = .ok (.bastore, 1) := by decide +kernel
theorem dX10_merges_93 : decode cX10_merges 93 = .ok (.aload 4, 2) := by decide +kernel
theorem dX10_merges_95 : decode cX10_merges 95 = .ok (.iload 7, 2) := by decide +kernel
theorem dX10_merges_97 : decode cX10_merges 97 = .ok (.iconst 1, 1) := by decide +kernel
theorem dX10_merges_98 : decode cX10_merges 98 = .ok (.bastore, 1) := by decide +kernel
theorem dX10_merges_99 : decode cX10_merges 99 = .ok (.iinc 7 1, 3) := by decide +kernel
theorem dX10_merges_102 : decode cX10_merges 102 = .ok (.goto (-21), 3) := by decide +kernel
theorem dX10_merges_105 : decode cX10_merges 105 = .ok (.iinc 5 1, 3) := by decide +kernel
theorem dX10_merges_108 : decode cX10_merges 108 = .ok (.goto (-105), 3) := by decide +kernel
theorem dX10_merges_111 : decode cX10_merges 111 = .ok (.return_, 1) := by decide +kernel
theorem dX10_writes_0 : decode cX10_writes 0 = .ok (.iload_n 1, 1) := by decide +kernel
theorem dX10_writes_1 : decode cX10_writes 1 = .ok (.istore 5, 2) := by decide +kernel
theorem dX10_writes_3 : decode cX10_writes 3 = .ok (.iload 5, 2) := by decide +kernel
theorem dX10_writes_5 : decode cX10_writes 5 = .ok (.iload_n 2, 1) := by decide +kernel
theorem dX10_writes_6 : decode cX10_writes 6 = .ok (.if_icmp .ge 41, 3) := by decide +kernel
theorem dX10_writes_9 : decode cX10_writes 9 = .ok (.aload_n 0, 1) := by decide +kernel
theorem dX10_writes_10 : decode cX10_writes 10 = .ok (.getfield 130, 3) := by decide +kernel
theorem dX10_writes_13 : decode cX10_writes 13 = .ok (.iload 5, 2) := by decide +kernel
theorem dX10_writes_15 : decode cX10_writes 15 = .ok (.iconst 0, 1) := by decide +kernel
theorem dX10_writes_16 : decode cX10_writes 16 = .ok (.bastore, 1) := by decide +kernel
theorem dX10_writes_17 : decode cX10_writes 17 = .ok (.aload_n 0, 1) := by decide +kernel
theorem dX10_writes_18 : decode cX10_writes 18 = .ok (.getfield 136, 3) := by decide +kernel
theorem dX10_writes_21 : decode cX10_writes 21 = .ok (.iload 5, 2) := by decide +kernel
theorem dX10_writes_23 : decode cX10_writes 23 = .ok (.iconst 0, 1) := by decide +kernel
theorem dX10_writes_24 : decode cX10_writes 24 = .ok (.bastore, 1) := by decide +kernel
theorem dX10_writes_25 : decode cX10_writes 25 = .ok (.aload_n 0, 1) := by decide +kernel
theorem dX10_writes_26 : decode cX10_writes 26 = .ok (.getfield 133, 3) := by decide +kernel
theorem dX10_writes_29 : decode cX10_writes 29 = .ok (.iload 5, 2) := by decide +kernel
theorem dX10_writes_31 : decode cX10_writes 31 = .ok (.iconst 0, 1) := by decide +kernel
theorem dX10_writes_32 : decode cX10_writes 32 = .ok (.bastore, 1) := by decide +kernel
theorem dX10_writes_33 : decode cX10_writes 33 = .ok (.aload_n 0, 1) := by decide +kernel
theorem dX10_writes_34 : decode cX10_writes 34 = .ok (.getfield 139, 3) := by decide +kernel
theorem dX10_writes_37 : decode cX10_writes 37 = .ok (.iload 5, 2) := by decide +kernel
theorem dX10_writes_39 : decode cX10_writes 39 = .ok (.iconst 0, 1) := by decide +kernel
theorem dX10_writes_40 : decode cX10_writes 40 = .ok (.bastore, 1) := by decide +kernel
theorem dX10_writes_41 : decode cX10_writes 41 = .ok (.iinc 5 1, 3) := by decide +kernel
theorem dX10_writes_44 : decode cX10_writes 44 = .ok (.goto (-41), 3) := by decide +kernel
theorem dX10_writes_47 : decode cX10_writes 47 = .ok (.aload_n 0, 1) := by decide +kernel
theorem dX10_writes_48 : decode cX10_writes 48 = .ok (.iconst 0, 1) := by decide +kernel
theorem dX10_writes_49 : decode cX10_writes 49 = .ok (.iload_n 3, 1) := by decide +kernel
theorem dX10_writes_50 : decode cX10_writes 50 = .ok (.iload 4, 2) := by decide +kernel
theorem dX10_writes_52 : decode cX10_writes 52 = .ok (.aload_n 0, 1) := by decide +kernel
theorem dX10_writes_53 : decode cX10_writes 53 = .ok (.getfield 130, 3) := by decide +kernel
theorem dX10_writes_56 : decode cX10_writes 56 = .ok (.aload_n 0, 1) := by decide +kernel
theorem dX10_writes_57 : decode cX10_writes 57 = .ok (.getfield 136, 3) := by decide +kernel
theorem dX10_writes_60 : decode cX10_writes 60 = .ok (.invokevirtual 425, 3) := by decide +kernel
theorem dX10_writes_63 : decode cX10_writes 63 = .ok (.aload_n 0, 1) := by decide +kernel
theorem dX10_writes_64 : decode cX10_writes 64 = .ok (.iconst 1, 1) := by decide +kernel
theorem dX10_writes_65 : decode cX10_writes 65 = .ok (.iload_n 3, 1) := by decide +kernel
theorem dX10_writes_66 : decode cX10_writes 66 = .ok (.iload 4, 2) := by decide +kernel
theorem dX10_writes_68 : decode cX10_writes 68 = .ok (.aload_n 0, 1) := by decide +kernel
theorem dX10_writes_69 : decode cX10_writes 69 = .ok (.getfield 133, 3) := by decide +kernel
theorem dX10_writes_72 : decode cX10_writes 72 = .ok (.aload_n 0, 1) := by decide +kernel
theorem dX10_writes_73 : decode cX10_writes 73 = .ok (.getfield 139, 3) := by decide +kernel
theorem dX10_writes_76 : decode cX10_writes 76 = .ok (.invokevirtual 425, 3) := by decide +kernel
theorem dX10_writes_79 : decode cX10_writes 79 = .ok (.aload_n 0, 1) := by decide +kernel
theorem dX10_writes_80 : decode cX10_writes 80 = .ok (.iload_n 1, 1) := by decide +kernel
theorem dX10_writes_81 : decode cX10_writes 81 = .ok (.iload_n 2, 1) := by decide +kernel
theorem dX10_writes_82 : decode cX10_writes 82 = .ok (.aload_n 0, 1) := by decide +kernel
theorem dX10_writes_83 : decode cX10_writes 83 = .ok (.getfield 130, 3) := by decide +kernel
theorem dX10_writes_86 : decode cX10_writes 86 = .ok (.aload_n 0, 1) := by decide +kernel
theorem dX10_writes_87 : decode cX10_writes 87 = .ok (.getfield 136, 3) := by decide +kernel
theorem dX10_writes_90 : decode cX10_writes 90 = .ok (.invokevirtual 429, 3) := by decide +kernel
theorem dX10_writes_93 : decode cX10_writes 93 = .ok (.aload_n 0, 1) := by decide +kernel
theorem dX10_writes_94 : decode cX10_writes 94 = .ok (.iload_n 1, 1) := by decide +kernel
theorem dX10_writes_95 : decode cX10_writes 95 = .ok (.iload_n 2, 1) := by decide +kernel
theorem dX10_writes_96 : decode cX10_writes 96 = .ok (.aload_n 0, 1) := by decide +kernel
theorem dX10_writes_97 : decode cX10_writes 97 = .ok (.getfield 133, 3) := by decide +kernel
theorem dX10_writes_100 : decode cX10_writes 100 = .ok (.aload_n 0, 1) := by decide +kernel
theorem dX10_writes_101 : decode cX10_writes 101 = .ok (.getfield 139, 3) := by decide +kernel
theorem dX10_writes_104 : decode cX10_writes 104 = .ok (.invokevirtual 429, 3) := by decide +kernel
theorem dX10_writes_107 : decode cX10_writes 107 = .ok (.iload_n 1, 1) := by decide +kernel
theorem dX10_writes_108 : decode cX10_writes 108 = .ok (.istore 5, 2) := by decide +kernel
theorem dX10_writes_110 : decode cX10_writes 110 = .ok (.iload 5, 2) := by decide +kernel
theorem dX10_writes_112 : decode cX10_writes 112 = .ok (.iload_n 2, 1) := by decide +kernel
theorem dX10_writes_113 : decode cX10_writes 113 = .ok (.if_icmp .ge 237, 3) := by decide +kernel
theorem dX10_writes_116 : decode cX10_writes 116 = .ok (.iload 5, 2) := by decide +kernel
theorem dX10_writes_118 : decode cX10_writes 118 = .ok (.iload_n 1, 1) := by decide +kernel
theorem dX10_writes_119 : decode cX10_writes 119 = .ok (.if_icmp .le 31, 3) := by decide +kernel
theorem dX10_writes_122 : decode cX10_writes 122 = .ok (.aload_n 0, 1) := by decide +kernel
theorem dX10_writes_123 : decode cX10_writes 123 = .ok (.getfield 130, 3) := by decide +kernel
theorem dX10_writes_126 : decode cX10_writes 126 = .ok (.iload 5, 2) := by decide +kernel
theorem dX10_writes_128 : decode cX10_writes 128 = .ok (.iconst 1, 1) := by decide +kernel
theorem dX10_writes_129 : decode cX10_writes 129 = .ok (.isub, 1) := by decide +kernel
theorem dX10_writes_130 : decode cX10_writes 130 = .ok (.baload, 1) := by decide +kernel
theorem dX10_writes_131 : decode cX10_writes 131 = .ok (.ifCond .eq 19, 3) := by decide +kernel
theorem dX10_writes_134 : decode cX10_writes 134 = .ok (.aload_n 0, 1) := by decide +kernel
theorem dX10_writes_135 : decode cX10_writes 135 = .ok (.getfield 136, 3) := by decide +kernel
theorem dX10_writes_138 : decode cX10_writes 138 = .ok (.iload 5, 2) := by decide +kernel
theorem dX10_writes_140 : decode cX10_writes 140 = .ok (.iconst 1, 1) := by decide +kernel
theorem dX10_writes_141 : decode cX10_writes 141 = .ok (.isub, 1) := by decide +kernel
theorem dX10_writes_142 : decode cX10_writes 142 = .ok (.baload, 1) := by decide +kernel
theorem dX10_writes_143 : decode cX10_writes 143 = .ok (.ifCond .eq 7, 3) := by decide +kernel
theorem dX10_writes_146 : decode cX10_writes 146 = .ok (.iconst 1, 1) := by decide +kernel
theorem dX10_writes_147 : decode cX10_writes 147 = .ok (.goto 4, 3) := by decide +kernel
theorem dX10_writes_150 : decode cX10_writes 150 = .ok (.iconst 0, 1) := by decide +kernel
theorem dX10_writes_151 : decode cX10_writes 151 = .ok (.istore 6, 2) := by decide +kernel
theorem dX10_writes_153 : decode cX10_writes 153 = .ok (.iload 5, 2) := by decide +kernel
theorem dX10_writes_155 : decode cX10_writes 155 = .ok (.iload_n 1, 1) := by decide +kernel
theorem dX10_writes_156 : decode cX10_writes 156 = .ok (.if_icmp .le 31, 3) := by decide +kernel
theorem dX10_writes_159 : decode cX10_writes 159 = .ok (.aload_n 0, 1) := by decide +kernel
theorem dX10_writes_160 : decode cX10_writes 160 = .ok (.getfield 133, 3) := by decide +kernel
theorem dX10_writes_163 : decode cX10_writes 163 = .ok (.iload 5, 2) := by decide +kernel
theorem dX10_writes_165 : decode cX10_writes 165 = .ok (.iconst 1, 1) := by decide +kernel
theorem dX10_writes_166 : decode cX10_writes 166 = .ok (.isub, 1) := by decide +kernel
theorem dX10_writes_167 : decode cX10_writes 167 = .ok (.baload, 1) := by decide +kernel
theorem dX10_writes_168 : decode cX10_writes 168 = .ok (.ifCond .eq 19, 3) := by decide +kernel
theorem dX10_writes_171 : decode cX10_writes 171 = .ok (.aload_n 0, 1) := by decide +kernel
theorem dX10_writes_172 : decode cX10_writes 172 = .ok (.getfield 139, 3) := by decide +kernel
theorem dX10_writes_175 : decode cX10_writes 175 = .ok (.iload 5, 2) := by decide +kernel
theorem dX10_writes_177 : decode cX10_writes 177 = .ok (.iconst 1, 1) := by decide +kernel
theorem dX10_writes_178 : decode cX10_writes 178 = .ok (.isub, 1) := by decide +kernel
theorem dX10_writes_179 : decode cX10_writes 179 = .ok (.baload, 1) := by decide +kernel
theorem dX10_writes_180 : decode cX10_writes 180 = .ok (.ifCond .eq 7, 3) := by decide +kernel
theorem dX10_writes_183 : decode cX10_writes 183 = .ok (.iconst 1, 1) := by decide +kernel
theorem dX10_writes_184 : decode cX10_writes 184 = .ok (.goto 4, 3) := by decide +kernel
theorem dX10_writes_187 : decode cX10_writes 187 = .ok (.iconst 0, 1) := by decide +kernel
theorem dX10_writes_188 : decode cX10_writes 188 = .ok (.istore 7, 2) := by decide +kernel
theorem dX10_writes_190 : decode cX10_writes 190 = .ok (.aload_n 0, 1) := by decide +kernel
theorem dX10_writes_191 : decode cX10_writes 191 = .ok (.getfield 420, 3) := by decide +kernel
theorem dX10_writes_194 : decode cX10_writes 194 = .ok (.aload_n 0, 1) := by decide +kernel
theorem dX10_writes_195 : decode cX10_writes 195 = .ok (.getfield 130, 3) := by decide +kernel
theorem dX10_writes_198 : decode cX10_writes 198 = .ok (.iload 5, 2) := by decide +kernel
theorem dX10_writes_200 : decode cX10_writes 200 = .ok (.baload, 1) := by decide +kernel
theorem dX10_writes_201 : decode cX10_writes 201 = .ok (.if_icmp .ne 15, 3) := by decide +kernel
theorem dX10_writes_204 : decode cX10_writes 204 = .ok (.aload_n 0, 1) := by decide +kernel
theorem dX10_writes_205 : decode cX10_writes 205 = .ok (.getfield 420, 3) := by decide +kernel
theorem dX10_writes_208 : decode cX10_writes 208 = .ok (.ifCond .eq 12, 3) := by decide +kernel
theorem dX10_writes_211 : decode cX10_writes 211 = .ok (.iload 6, 2) := by decide +kernel
theorem dX10_writes_213 : decode cX10_writes 213 = .ok (.ifCond .ne 7, 3) := by decide +kernel
theorem dX10_writes_216 : decode cX10_writes 216 = .ok (.iconst 1, 1) := by decide +kernel
theorem dX10_writes_217 : decode cX10_writes 217 = .ok (.goto 4, 3) := by decide +kernel
theorem dX10_writes_220 : decode cX10_writes 220 = .ok (.iconst 0, 1) := by decide +kernel
theorem dX10_writes_221 : decode cX10_writes 221 = .ok (.istore 8, 2) := by decide +kernel
theorem dX10_writes_223 : decode cX10_writes 223 = .ok (.aload_n 0, 1) := by decide +kernel
theorem dX10_writes_224 : decode cX10_writes 224 = .ok (.getfield 415, 3) := by decide +kernel
theorem dX10_writes_227 : decode cX10_writes 227 = .ok (.ifCond .eq 17, 3) := by decide +kernel
theorem dX10_writes_230 : decode cX10_writes 230 = .ok (.iload 7, 2) := by decide +kernel
theorem dX10_writes_232 : decode cX10_writes 232 = .ok (.ifCond .eq 8, 3) := by decide +kernel
theorem dX10_writes_235 : decode cX10_writes 235 = .ok (.iload 8, 2) := by decide +kernel
theorem dX10_writes_237 : decode cX10_writes 237 = .ok (.ifCond .eq 7, 3) := by decide +kernel
theorem dX10_writes_240 : decode cX10_writes 240 = .ok (.aload_n 0, 1) := by decide +kernel
theorem dX10_writes_241 : decode cX10_writes 241 = .ok (.invokevirtual 433, 3) := by decide +kernel
theorem dX10_writes_244 : decode cX10_writes 244 = .ok (.aload_n 0, 1) := by decide +kernel
theorem dX10_writes_245 : decode cX10_writes 245 = .ok (.getfield 420, 3) := by decide +kernel
theorem dX10_writes_248 : decode cX10_writes 248 = .ok (.ifCond .eq 12, 3) := by decide +kernel
theorem dX10_writes_251 : decode cX10_writes 251 = .ok (.iload 6, 2) := by decide +kernel
theorem dX10_writes_253 : decode cX10_writes 253 = .ok (.ifCond .ne 7, 3) := by decide +kernel
theorem dX10_writes_256 : decode cX10_writes 256 = .ok (.aload_n 0, 1) := by decide +kernel
theorem dX10_writes_257 : decode cX10_writes 257 = .ok (.invokevirtual 436, 3) := by decide +kernel
theorem dX10_writes_260 : decode cX10_writes 260 = .ok (.aload_n 0, 1) := by decide +kernel
theorem dX10_writes_261 : decode cX10_writes 261 = .ok (.getfield 130, 3) := by decide +kernel
theorem dX10_writes_264 : decode cX10_writes 264 = .ok (.iload 5, 2) := by decide +kernel
theorem dX10_writes_266 : decode cX10_writes 266 = .ok (.baload, 1) := by decide +kernel
theorem dX10_writes_267 : decode cX10_writes 267 = .ok (.ifCond .eq 32, 3) := by decide +kernel
theorem dX10_writes_270 : decode cX10_writes 270 = .ok (.aload_n 0, 1) := by decide +kernel
theorem dX10_writes_271 : decode cX10_writes 271 = .ok (.getfield 420, 3) := by decide +kernel
theorem dX10_writes_274 : decode cX10_writes 274 = .ok (.ifCond .ne 25, 3) := by decide +kernel
theorem dX10_writes_277 : decode cX10_writes 277 = .ok (.aload_n 0, 1) := by decide +kernel
theorem dX10_writes_278 : decode cX10_writes 278 = .ok (.ldc_w 439, 3) := by decide +kernel
theorem dX10_writes_281 : decode cX10_writes 281 = .ok (.invokevirtual 405, 3) := by decide +kernel
theorem dX10_writes_284 : decode cX10_writes 284 = .ok (.aload_n 0, 1) := by decide +kernel
theorem dX10_writes_285 : decode cX10_writes 285 = .ok (.dup, 1) := by decide +kernel
theorem dX10_writes_286 : decode cX10_writes 286 = .ok (.getfield 441, 3) := by decide +kernel
theorem dX10_writes_289 : decode cX10_writes 289 = .ok (.iconst 1, 1) := by decide +kernel
theorem dX10_writes_290 : decode cX10_writes 290 = .ok (.iadd, 1) := by decide +kernel
theorem dX10_writes_291 : decode cX10_writes 291 = .ok (.putfield 441, 3) := by decide +kernel
theorem dX10_writes_294 : decode cX10_writes 294 = .ok (.aload_n 0, 1) := by decide +kernel
theorem dX10_writes_295 : decode cX10_writes 295 = .ok (.iconst 1, 1) := by decide +kernel
theorem dX10_writes_296 : decode cX10_writes 296 = .ok (.putfield 420, 3) := by decide +kernel
theorem dX10_writes_299 : decode cX10_writes 299 = .ok (.aload_n 0, 1) := by decide +kernel
theorem dX10_writes_300 : decode cX10_writes 300 = .ok (.getfield 133, 3) := by decide +kernel
theorem dX10_writes_303 : decode cX10_writes 303 = .ok (.iload 5, 2) := by decide +kernel
theorem dX10_writes_305 : decode cX10_writes 305 = .ok (.baload, 1) := by decide +kernel
theorem dX10_writes_306 : decode cX10_writes 306 = .ok (.ifCond .eq 32, 3) := by decide +kernel
theorem dX10_writes_309 : decode cX10_writes 309 = .ok (.aload_n 0, 1) := by decide +kernel
theorem dX10_writes_310 : decode cX10_writes 310 = .ok (.getfield 415, 3) := by decide +kernel
theorem dX10_writes_313 : decode cX10_writes 313 = .ok (.ifCond .ne 25, 3) := by decide +kernel
theorem dX10_writes_316 : decode cX10_writes 316 = .ok (.aload_n 0, 1) := by decide +kernel
theorem dX10_writes_317 : decode cX10_writes 317 = .ok (.ldc_w 444, 3) := by decide +kernel
theorem dX10_writes_320 : decode cX10_writes 320 = .ok (.invokevirtual 405, 3) := by decide +kernel
theorem dX10_writes_323 : decode cX10_writes 323 = .ok (.aload_n 0, 1) := by decide +kernel
theorem dX10_writes_324 : decode cX10_writes 324 = .ok (.dup, 1) := by decide +kernel
theorem dX10_writes_325 : decode cX10_writes 325 = .ok (.getfield 446, 3) := by decide +kernel
theorem dX10_writes_328 : decode cX10_writes 328 = .ok (.iconst 1, 1) := by decide +kernel
theorem dX10_writes_329 : decode cX10_writes 329 = .ok (.iadd, 1) := by decide +kernel
theorem dX10_writes_330 : decode cX10_writes 330 = .ok (.putfield 446, 3) := by decide +kernel
theorem dX10_writes_333 : decode cX10_writes 333 = .ok (.aload_n 0, 1) := by decide +kernel
theorem dX10_writes_334 : decode cX10_writes 334 = .ok (.iconst 1, 1) := by decide +kernel
theorem dX10_writes_335 : decode cX10_writes 335 = .ok (.putfield 415, 3) := by decide +kernel
theorem dX10_writes_338 : decode cX10_writes 338 = .ok (.aload_n 0, 1) := by decide +kernel
theorem dX10_writes_339 : decode cX10_writes 339 = .ok (.iload 5, 2) := by decide +kernel
theorem dX10_writes_341 : decode cX10_writes 341 = .ok (.invokevirtual 449, 3) := by decide +kernel
theorem dX10_writes_344 : decode cX10_writes 344 = .ok (.iinc 5 1, 3) := by decide +kernel
theorem dX10_writes_347 : decode cX10_writes 347 = .ok (.goto (-237), 3) := by decide +kernel
theorem dX10_writes_350 : decode cX10_writes 350 = .ok (.aload_n 0, 1) := by decide +kernel
theorem dX10_writes_351 : decode cX10_writes 351 = .ok (.invokevirtual 433, 3) := by decide +kernel
theorem dX10_writes_354 : decode cX10_writes 354 = .ok (.aload_n 0, 1) := by decide +kernel
theorem dX10_writes_355 : decode cX10_writes 355 = .ok (.invokevirtual 436, 3) := by decide +kernel
theorem dX10_writes_358 : decode cX10_writes 358 = .ok (.return_, 1) := by decide +kernel
theorem dX10_begins_0 : decode cX10_begins 0 = .ok (.aload_n 0, 1) := by decide +kernel
theorem dX10_begins_1 : decode cX10_begins 1 = .ok (.iconst 0, 1) := by decide +kernel
theorem dX10_begins_2 : decode cX10_begins 2 = .ok (.putfield 396, 3) := by decide +kernel
theorem dX10_begins_5 : decode cX10_begins 5 = .ok (.aload_n 0, 1) := by decide +kernel
theorem dX10_begins_6 : decode cX10_begins 6 = .ok (.iconst 0, 1) := by decide +kernel
theorem dX10_begins_7 : decode cX10_begins 7 = .ok (.putfield 441, 3) := by decide +kernel
theorem dX10_begins_10 : decode cX10_begins 10 = .ok (.aload_n 0, 1) := by decide +kernel
theorem dX10_begins_11 : decode cX10_begins 11 = .ok (.iconst 0, 1) := by decide +kernel
theorem dX10_begins_12 : decode cX10_begins 12 = .ok (.putfield 446, 3) := by decide +kernel
theorem dX10_begins_15 : decode cX10_begins 15 = .ok (.return_, 1) := by decide +kernel
theorem dX10_write_0 : decode cX10_write 0 = .ok (.aload_n 0, 1) := by decide +kernel
theorem dX10_write_1 : decode cX10_write 1 = .ok (.iconst 0, 1) := by decide +kernel
theorem dX10_write_2 : decode cX10_write 2 = .ok (.putfield 142, 3) := by decide +kernel
theorem dX10_write_5 : decode cX10_write 5 = .ok (.aload_n 0, 1) := by decide +kernel
theorem dX10_write_6 : decode cX10_write 6 = .ok (.iload_n 1, 1) := by decide +kernel
theorem dX10_write_7 : decode cX10_write 7 = .ok (.bipush 10, 2) := by decide +kernel
theorem dX10_write_9 : decode cX10_write 9 = .ok (.sipush 600, 3) := by decide +kernel
theorem dX10_write_12 : decode cX10_write 12 = .ok (.invokestatic 151, 3) := by decide +kernel
theorem dX10_write_15 : decode cX10_write 15 = .ok (.ifCond .ne 7, 3) := by decide +kernel
theorem dX10_write_18 : decode cX10_write 18 = .ok (.iconst 1, 1) := by decide +kernel
theorem dX10_write_19 : decode cX10_write 19 = .ok (.goto 4, 3) := by decide +kernel
theorem dX10_write_22 : decode cX10_write 22 = .ok (.iconst 0, 1) := by decide +kernel
theorem dX10_write_23 : decode cX10_write 23 = .ok (.iconst 1, 1) := by decide +kernel
theorem dX10_write_24 : decode cX10_write 24 = .ok (.invokevirtual 309, 3) := by decide +kernel
theorem dX10_write_27 : decode cX10_write 27 = .ok (.ifCond .eq 5, 3) := by decide +kernel
theorem dX10_write_30 : decode cX10_write 30 = .ok (.iconst 0, 1) := by decide +kernel
theorem dX10_write_31 : decode cX10_write 31 = .ok (.ireturn, 1) := by decide +kernel
theorem dX10_write_32 : decode cX10_write 32 = .ok (.aload_n 0, 1) := by decide +kernel
theorem dX10_write_33 : decode cX10_write 33 = .ok (.invokevirtual 452, 3) := by decide +kernel
theorem dX10_write_36 : decode cX10_write 36 = .ok (.iconst (-1), 1) := by decide +kernel
theorem dX10_write_37 : decode cX10_write 37 = .ok (.istore_n 2, 1) := by decide +kernel
theorem dX10_write_38 : decode cX10_write 38 = .ok (.iconst 0, 1) := by decide +kernel
theorem dX10_write_39 : decode cX10_write 39 = .ok (.istore_n 3, 1) := by decide +kernel
theorem dX10_write_40 : decode cX10_write 40 = .ok (.iconst 0, 1) := by decide +kernel
theorem dX10_write_41 : decode cX10_write 41 = .ok (.istore 4, 2) := by decide +kernel
theorem dX10_write_43 : decode cX10_write 43 = .ok (.iload 4, 2) := by decide +kernel
theorem dX10_write_45 : decode cX10_write 45 = .ok (.aload_n 0, 1) := by decide +kernel
theorem dX10_write_46 : decode cX10_write 46 = .ok (.getfield 203, 3) := by decide +kernel
theorem dX10_write_49 : decode cX10_write 49 = .ok (.if_icmp .ge 223, 3) := by decide +kernel
theorem dX10_write_52 : decode cX10_write 52 = .ok (.aload_n 0, 1) := by decide +kernel
theorem dX10_write_53 : decode cX10_write 53 = .ok (.getfield 221, 3) := by decide +kernel
theorem dX10_write_56 : decode cX10_write 56 = .ok (.iload 4, 2) := by decide +kernel
theorem dX10_write_58 : decode cX10_write 58 = .ok (.invokestatic 294, 3) := by decide +kernel
theorem dX10_write_61 : decode cX10_write 61 = .ok (.ifCond .eq 205, 3) := by decide +kernel
theorem dX10_write_64 : decode cX10_write 64 = .ok (.aload_n 0, 1) := by decide +kernel
theorem dX10_write_65 : decode cX10_write 65 = .ok (.iload 4, 2) := by decide +kernel
theorem dX10_write_67 : decode cX10_write 67 = .ok (.iload_n 1, 1) := by decide +kernel
theorem dX10_write_68 : decode cX10_write 68 = .ok (.invokevirtual 343, 3) := by decide +kernel
theorem dX10_write_71 : decode cX10_write 71 = .ok (.ifCond .ne 6, 3) := by decide +kernel
theorem dX10_write_74 : decode cX10_write 74 = .ok (.goto 192, 3) := by decide +kernel
theorem dX10_write_77 : decode cX10_write 77 = .ok (.aload_n 0, 1) := by decide +kernel
theorem dX10_write_78 : decode cX10_write 78 = .ok (.iload 4, 2) := by decide +kernel
theorem dX10_write_80 : decode cX10_write 80 = .ok (.invokevirtual 325, 3) := by decide +kernel
theorem dX10_write_83 : decode cX10_write 83 = .ok (.istore 5, 2) := by decide +kernel
theorem dX10_write_85 : decode cX10_write 85 = .ok (.iload 5, 2) := by decide +kernel
theorem dX10_write_87 : decode cX10_write 87 = .ok (.aload_n 0, 1) := by decide +kernel
theorem dX10_write_88 : decode cX10_write 88 = .ok (.iload 4, 2) := by decide +kernel
theorem dX10_write_90 : decode cX10_write 90 = .ok (.invokevirtual 328, 3) := by decide +kernel
theorem dX10_write_93 : decode cX10_write 93 = .ok (.iadd, 1) := by decide +kernel
theorem dX10_write_94 : decode cX10_write 94 = .ok (.iconst 1, 1) := by decide +kernel
theorem dX10_write_95 : decode cX10_write 95 = .ok (.isub, 1) := by decide +kernel
theorem dX10_write_96 : decode cX10_write 96 = .ok (.istore 6, 2) := by decide +kernel
theorem dX10_write_98 : decode cX10_write 98 = .ok (.aload_n 0, 1) := by decide +kernel
theorem dX10_write_99 : decode cX10_write 99 = .ok (.getfield 331, 3) := by decide +kernel
theorem dX10_write_102 : decode cX10_write 102 = .ok (.ifCond .ne 16, 3) := by decide +kernel
theorem dX10_write_105 : decode cX10_write 105 = .ok (.aload_n 0, 1) := by decide +kernel
theorem dX10_write_106 : decode cX10_write 106 = .ok (.getfield 334, 3) := by decide +kernel
theorem dX10_write_109 : decode cX10_write 109 = .ok (.iload 5, 2) := by decide +kernel
theorem dX10_write_111 : decode cX10_write 111 = .ok (.if_icmp .le 7, 3) := by decide +kernel
theorem dX10_write_114 : decode cX10_write 114 = .ok (.iconst 1, 1) := by decide +kernel
theorem dX10_write_115 : decode cX10_write 115 = .ok (.goto 4, 3) := by decide +kernel
theorem dX10_write_118 : decode cX10_write 118 = .ok (.iconst 0, 1) := by decide +kernel
theorem dX10_write_119 : decode cX10_write 119 = .ok (.istore 7, 2) := by decide +kernel
theorem dX10_write_121 : decode cX10_write 121 = .ok (.aload_n 0, 1) := by decide +kernel
theorem dX10_write_122 : decode cX10_write 122 = .ok (.getfield 331, 3) := by decide +kernel
theorem dX10_write_125 : decode cX10_write 125 = .ok (.ifCond .ne 16, 3) := by decide +kernel
theorem dX10_write_128 : decode cX10_write 128 = .ok (.aload_n 0, 1) := by decide +kernel
theorem dX10_write_129 : decode cX10_write 129 = .ok (.getfield 337, 3) := by decide +kernel
theorem dX10_write_132 : decode cX10_write 132 = .ok (.iload 6, 2) := by decide +kernel
theorem dX10_write_134 : decode cX10_write 134 = .ok (.if_icmp .ge 7, 3) := by decide +kernel
theorem dX10_write_137 : decode cX10_write 137 = .ok (.iconst 1, 1) := by decide +kernel
theorem dX10_write_138 : decode cX10_write 138 = .ok (.goto 4, 3) := by decide +kernel
theorem dX10_write_141 : decode cX10_write 141 = .ok (.iconst 0, 1) := by decide +kernel
theorem dX10_write_142 : decode cX10_write 142 = .ok (.istore 8, 2) := by decide +kernel
theorem dX10_write_144 : decode cX10_write 144 = .ok (.iload_n 2, 1) := by decide +kernel
theorem dX10_write_145 : decode cX10_write 145 = .ok (.iconst (-1), 1) := by decide +kernel
theorem dX10_write_146 : decode cX10_write 146 = .ok (.if_icmp .ne 24, 3) := by decide +kernel
theorem dX10_write_149 : decode cX10_write 149 = .ok (.aload_n 0, 1) := by decide +kernel
theorem dX10_write_150 : decode cX10_write 150 = .ok (.iload 7, 2) := by decide +kernel
theorem dX10_write_152 : decode cX10_write 152 = .ok (.ifCond .eq 9, 3) := by decide +kernel
theorem dX10_write_155 : decode cX10_write 155 = .ok (.ldc_w 455, 3) := by decide +kernel
theorem dX10_write_158 : decode cX10_write 158 = .ok (.goto 6, 3) := by decide +kernel
theorem dX10_write_161 : decode cX10_write 161 = .ok (.ldc_w 457, 3) := by decide +kernel
theorem dX10_write_164 : decode cX10_write 164 = .ok (.invokevirtual 405, 3) := by decide +kernel
theorem dX10_write_167 : decode cX10_write 167 = .ok (.goto 33, 3) := by decide +kernel
theorem dX10_write_170 : decode cX10_write 170 = .ok (.aload_n 0, 1) := by decide +kernel
theorem dX10_write_171 : decode cX10_write 171 = .ok (.iload 4, 2) := by decide +kernel
theorem dX10_write_173 : decode cX10_write 173 = .ok (.iload_n 2, 1) := by decide +kernel
theorem dX10_write_174 : decode cX10_write 174 = .ok (.iconst 1, 1) := by decide +kernel
theorem dX10_write_175 : decode cX10_write 175 = .ok (.iadd, 1) := by decide +kernel
theorem dX10_write_176 : decode cX10_write 176 = .ok (.if_icmp .ne 18, 3) := by decide +kernel
theorem dX10_write_179 : decode cX10_write 179 = .ok (.iload_n 3, 1) := by decide +kernel
theorem dX10_write_180 : decode cX10_write 180 = .ok (.ifCond .ne 14, 3) := by decide +kernel
theorem dX10_write_183 : decode cX10_write 183 = .ok (.iload 7, 2) := by decide +kernel
theorem dX10_write_185 : decode cX10_write 185 = .ok (.ifCond .ne 9, 3) := by decide +kernel
theorem dX10_write_188 : decode cX10_write 188 = .ok (.ldc_w 459, 3) := by decide +kernel
theorem dX10_write_191 : decode cX10_write 191 = .ok (.goto 6, 3) := by decide +kernel
theorem dX10_write_194 : decode cX10_write 194 = .ok (.ldc_w 461, 3) := by decide +kernel
theorem dX10_write_197 : decode cX10_write 197 = .ok (.invokevirtual 405, 3) := by decide +kernel
theorem dX10_write_200 : decode cX10_write 200 = .ok (.aload_n 0, 1) := by decide +kernel
theorem dX10_write_201 : decode cX10_write 201 = .ok (.iload 7, 2) := by decide +kernel
theorem dX10_write_203 : decode cX10_write 203 = .ok (.ifCond .eq 15, 3) := by decide +kernel
theorem dX10_write_206 : decode cX10_write 206 = .ok (.aload_n 0, 1) := by decide +kernel
theorem dX10_write_207 : decode cX10_write 207 = .ok (.getfield 23, 3) := by decide +kernel
theorem dX10_write_210 : decode cX10_write 210 = .ok (.aload_n 0, 1) := by decide +kernel
theorem dX10_write_211 : decode cX10_write 211 = .ok (.getfield 334, 3) := by decide +kernel
theorem dX10_write_214 : decode cX10_write 214 = .ok (.iaload, 1) := by decide +kernel
theorem dX10_write_215 : decode cX10_write 215 = .ok (.goto 10, 3) := by decide +kernel
theorem dX10_write_218 : decode cX10_write 218 = .ok (.aload_n 0, 1) := by decide +kernel
theorem dX10_write_219 : decode cX10_write 219 = .ok (.getfield 35, 3) := by decide +kernel
theorem dX10_write_222 : decode cX10_write 222 = .ok (.iload 4, 2) := by decide +kernel
theorem dX10_write_224 : decode cX10_write 224 = .ok (.iaload, 1) := by decide +kernel
theorem dX10_write_225 : decode cX10_write 225 = .ok (.iload 8, 2) := by decide +kernel
theorem dX10_write_227 : decode cX10_write 227 = .ok (.ifCond .eq 15, 3) := by decide +kernel
theorem dX10_write_230 : decode cX10_write 230 = .ok (.aload_n 0, 1) := by decide +kernel
theorem dX10_write_231 : decode cX10_write 231 = .ok (.getfield 26, 3) := by decide +kernel
theorem dX10_write_234 : decode cX10_write 234 = .ok (.aload_n 0, 1) := by decide +kernel
theorem dX10_write_235 : decode cX10_write 235 = .ok (.getfield 337, 3) := by decide +kernel
theorem dX10_write_238 : decode cX10_write 238 = .ok (.iaload, 1) := by decide +kernel
theorem dX10_write_239 : decode cX10_write 239 = .ok (.goto 10, 3) := by decide +kernel
theorem dX10_write_242 : decode cX10_write 242 = .ok (.aload_n 0, 1) := by decide +kernel
theorem dX10_write_243 : decode cX10_write 243 = .ok (.getfield 38, 3) := by decide +kernel
theorem dX10_write_246 : decode cX10_write 246 = .ok (.iload 4, 2) := by decide +kernel
theorem dX10_write_248 : decode cX10_write 248 = .ok (.iaload, 1) := by decide +kernel
theorem dX10_write_249 : decode cX10_write 249 = .ok (.aload_n 0, 1) := by decide +kernel
theorem dX10_write_250 : decode cX10_write 250 = .ok (.getfield 334, 3) := by decide +kernel
theorem dX10_write_253 : decode cX10_write 253 = .ok (.aload_n 0, 1) := by decide +kernel
theorem dX10_write_254 : decode cX10_write 254 = .ok (.getfield 337, 3) := by decide +kernel
theorem dX10_write_257 : decode cX10_write 257 = .ok (.invokevirtual 463, 3) := by decide +kernel
theorem dX10_write_260 : decode cX10_write 260 = .ok (.iload 4, 2) := by decide +kernel
theorem dX10_write_262 : decode cX10_write 262 = .ok (.istore_n 2, 1) := by decide +kernel
theorem dX10_write_263 : decode cX10_write 263 = .ok (.iload 8, 2) := by decide +kernel
theorem dX10_write_265 : decode cX10_write 265 = .ok (.istore_n 3, 1) := by decide +kernel
theorem dX10_write_266 : decode cX10_write 266 = .ok (.iinc 4 1, 3) := by decide +kernel
theorem dX10_write_269 : decode cX10_write 269 = .ok (.goto (-226), 3) := by decide +kernel
theorem dX10_write_272 : decode cX10_write 272 = .ok (.iload_n 3, 1) := by decide +kernel
theorem dX10_write_273 : decode cX10_write 273 = .ok (.ifCond .eq 10, 3) := by decide +kernel
theorem dX10_write_276 : decode cX10_write 276 = .ok (.aload_n 0, 1) := by decide +kernel
theorem dX10_write_277 : decode cX10_write 277 = .ok (.ldc_w 455, 3) := by decide +kernel
theorem dX10_write_280 : decode cX10_write 280 = .ok (.invokevirtual 405, 3) := by decide +kernel
theorem dX10_write_283 : decode cX10_write 283 = .ok (.aload_n 0, 1) := by decide +kernel
theorem dX10_write_284 : decode cX10_write 284 = .ok (.getfield 396, 3) := by decide +kernel
theorem dX10_write_287 : decode cX10_write 287 = .ok (.ireturn, 1) := by decide +kernel
theorem dX10_borderBehind_0 : decode cX10_borderBehind 0 = .ok (.iconst 0, 1) := by decide +kernel
theorem dX10_borderBehind_1 : decode cX10_borderBehind 1 = .ok (.istore_n 2, 1) := by decide +kernel
theorem dX10_borderBehind_2 : decode cX10_borderBehind 2 = .ok (.iload_n 2, 1) := by decide +kernel
theorem dX10_borderBehind_3 : decode cX10_borderBehind 3 = .ok (.aload_n 0, 1) := by decide +kernel
theorem dX10_borderBehind_4 : decode cX10_borderBehind 4 = .ok (.getfield 203, 3) := by decide +kernel
theorem dX10_borderBehind_7 : decode cX10_borderBehind 7 = .ok (.if_icmp .ge 43, 3) := by decide +kernel
theorem dX10_borderBehind_10 : decode cX10_borderBehind 10 = .ok (.iload_n 1, 1) := by decide +kernel
theorem dX10_borderBehind_11 : decode cX10_borderBehind 11 = .ok (.aload_n 0, 1) := by decide +kernel
theorem dX10_borderBehind_12 : decode cX10_borderBehind 12 = .ok (.getfield 35, 3) := by decide +kernel
theorem dX10_borderBehind_15 : decode cX10_borderBehind 15 = .ok (.iload_n 2, 1) := by decide +kernel
theorem dX10_borderBehind_16 : decode cX10_borderBehind 16 = .ok (.iaload, 1) := by decide +kernel
theorem dX10_borderBehind_17 : decode cX10_borderBehind 17 = .ok (.if_icmp .ge 10, 3) := by decide +kernel
theorem dX10_borderBehind_20 : decode cX10_borderBehind 20 = .ok (.aload_n 0, 1) := by decide +kernel
theorem dX10_borderBehind_21 : decode cX10_borderBehind 21 = .ok (.getfield 35, 3) := by decide +kernel
theorem dX10_borderBehind_24 : decode cX10_borderBehind 24 = .ok (.iload_n 2, 1) := by decide +kernel
theorem dX10_borderBehind_25 : decode cX10_borderBehind 25 = .ok (.iaload, 1) := by decide +kernel
theorem dX10_borderBehind_26 : decode cX10_borderBehind 26 = .ok (.ireturn, 1) := by decide +kernel
theorem dX10_borderBehind_27 : decode cX10_borderBehind 27 = .ok (.iload_n 1, 1) := by decide +kernel
theorem dX10_borderBehind_28 : decode cX10_borderBehind 28 = .ok (.aload_n 0, 1) := by decide +kernel
theorem dX10_borderBehind_29 : decode cX10_borderBehind 29 = .ok (.getfield 38, 3) := by decide +kernel
theorem dX10_borderBehind_32 : decode cX10_borderBehind 32 = .ok (.iload_n 2, 1) := by decide +kernel
theorem dX10_borderBehind_33 : decode cX10_borderBehind 33 = .ok (.iaload, 1) := by decide +kernel
theorem dX10_borderBehind_34 : decode cX10_borderBehind 34 = .ok (.if_icmp .ge 10, 3) := by decide +kernel
theorem dX10_borderBehind_37 : decode cX10_borderBehind 37 = .ok (.aload_n 0, 1) := by decide +kernel
theorem dX10_borderBehind_38 : decode cX10_borderBehind 38 = .ok (.getfield 38, 3) := by decide +kernel
theorem dX10_borderBehind_41 : decode cX10_borderBehind 41 = .ok (.iload_n 2, 1) := by decide +kernel
theorem dX10_borderBehind_42 : decode cX10_borderBehind 42 = .ok (.iaload, 1) := by decide +kernel
theorem dX10_borderBehind_43 : decode cX10_borderBehind 43 = .ok (.ireturn, 1) := by decide +kernel
theorem dX10_borderBehind_44 : decode cX10_borderBehind 44 = .ok (.iinc 2 1, 3) := by decide +kernel
theorem dX10_borderBehind_47 : decode cX10_borderBehind 47 = .ok (.goto (-45), 3) := by decide +kernel
theorem dX10_borderBehind_50 : decode cX10_borderBehind 50 = .ok (.aload_n 0, 1) := by decide +kernel
theorem dX10_borderBehind_51 : decode cX10_borderBehind 51 = .ok (.getfield 155, 3) := by decide +kernel
theorem dX10_borderBehind_54 : decode cX10_borderBehind 54 = .ok (.ireturn, 1) := by decide +kernel
theorem dX10_quote_0 : decode cX10_quote 0 = .ok (.aload_n 0, 1) := by decide +kernel
theorem dX10_quote_1 : decode cX10_quote 1 = .ok (.iconst 0, 1) := by decide +kernel
theorem dX10_quote_2 : decode cX10_quote 2 = .ok (.putfield 142, 3) := by decide +kernel
theorem dX10_quote_5 : decode cX10_quote 5 = .ok (.aload_n 0, 1) := by decide +kernel
theorem dX10_quote_6 : decode cX10_quote 6 = .ok (.iload_n 1, 1) := by decide +kernel
theorem dX10_quote_7 : decode cX10_quote 7 = .ok (.iconst 1, 1) := by decide +kernel
theorem dX10_quote_8 : decode cX10_quote 8 = .ok (.sipush 600, 3) := by decide +kernel
theorem dX10_quote_11 : decode cX10_quote 11 = .ok (.invokestatic 151, 3) := by decide +kernel
theorem dX10_quote_14 : decode cX10_quote 14 = .ok (.ifCond .ne 7, 3) := by decide +kernel
theorem dX10_quote_17 : decode cX10_quote 17 = .ok (.iconst 1, 1) := by decide +kernel
theorem dX10_quote_18 : decode cX10_quote 18 = .ok (.goto 4, 3) := by decide +kernel
theorem dX10_quote_21 : decode cX10_quote 21 = .ok (.iconst 0, 1) := by decide +kernel
theorem dX10_quote_22 : decode cX10_quote 22 = .ok (.iconst 1, 1) := by decide +kernel
theorem dX10_quote_23 : decode cX10_quote 23 = .ok (.invokevirtual 309, 3) := by decide +kernel
theorem dX10_quote_26 : decode cX10_quote 26 = .ok (.ifCond .eq 5, 3) := by decide +kernel
theorem dX10_quote_29 : decode cX10_quote 29 = .ok (.iconst 0, 1) := by decide +kernel
theorem dX10_quote_30 : decode cX10_quote 30 = .ok (.ireturn, 1) := by decide +kernel
theorem dX10_quote_31 : decode cX10_quote 31 = .ok (.aload_n 0, 1) := by decide +kernel
theorem dX10_quote_32 : decode cX10_quote 32 = .ok (.invokevirtual 452, 3) := by decide +kernel
theorem dX10_quote_35 : decode cX10_quote 35 = .ok (.aload_n 0, 1) := by decide +kernel
theorem dX10_quote_36 : decode cX10_quote 36 = .ok (.iconst 0, 1) := by decide +kernel
theorem dX10_quote_37 : decode cX10_quote 37 = .ok (.aload_n 0, 1) := by decide +kernel
theorem dX10_quote_38 : decode cX10_quote 38 = .ok (.getfield 179, 3) := by decide +kernel
theorem dX10_quote_41 : decode cX10_quote 41 = .ok (.iconst 1, 1) := by decide +kernel
theorem dX10_quote_42 : decode cX10_quote 42 = .ok (.isub, 1) := by decide +kernel
theorem dX10_quote_43 : decode cX10_quote 43 = .ok (.iload_n 1, 1) := by decide +kernel
theorem dX10_quote_44 : decode cX10_quote 44 = .ok (.invokevirtual 322, 3) := by decide +kernel
theorem dX10_quote_47 : decode cX10_quote 47 = .ok (.ifCond .ne 5, 3) := by decide +kernel
theorem dX10_quote_50 : decode cX10_quote 50 = .ok (.iconst 0, 1) := by decide +kernel
theorem dX10_quote_51 : decode cX10_quote 51 = .ok (.ireturn, 1) := by decide +kernel
theorem dX10_quote_52 : decode cX10_quote 52 = .ok (.aload_n 0, 1) := by decide +kernel
theorem dX10_quote_53 : decode cX10_quote 53 = .ok (.getfield 109, 3) := by decide +kernel
theorem dX10_quote_56 : decode cX10_quote 56 = .ok (.iconst 0, 1) := by decide +kernel
theorem dX10_quote_57 : decode cX10_quote 57 = .ok (.iaload, 1) := by decide +kernel
theorem dX10_quote_58 : decode cX10_quote 58 = .ok (.istore_n 2, 1) := by decide +kernel
theorem dX10_quote_59 : decode cX10_quote 59 = .ok (.aload_n 0, 1) := by decide +kernel
theorem dX10_quote_60 : decode cX10_quote 60 = .ok (.getfield 109, 3) := by decide +kernel
theorem dX10_quote_63 : decode cX10_quote 63 = .ok (.iconst 1, 1) := by decide +kernel
theorem dX10_quote_64 : decode cX10_quote 64 = .ok (.iaload, 1) := by decide +kernel
theorem dX10_quote_65 : decode cX10_quote 65 = .ok (.istore_n 3, 1) := by decide +kernel
theorem dX10_quote_66 : decode cX10_quote 66 = .ok (.iload_n 2, 1) := by decide +kernel
theorem dX10_quote_67 : decode cX10_quote 67 = .ok (.ifCond .le 10, 3) := by decide +kernel
theorem dX10_quote_70 : decode cX10_quote 70 = .ok (.aload_n 0, 1) := by decide +kernel
theorem dX10_quote_71 : decode cX10_quote 71 = .ok (.ldc_w 455, 3) := by decide +kernel
theorem dX10_quote_74 : decode cX10_quote 74 = .ok (.invokevirtual 405, 3) := by decide +kernel
theorem dX10_quote_77 : decode cX10_quote 77 = .ok (.aload_n 0, 1) := by decide +kernel
theorem dX10_quote_78 : decode cX10_quote 78 = .ok (.getfield 23, 3) := by decide +kernel
theorem dX10_quote_81 : decode cX10_quote 81 = .ok (.iload_n 2, 1) := by decide +kernel
theorem dX10_quote_82 : decode cX10_quote 82 = .ok (.iaload, 1) := by decide +kernel
theorem dX10_quote_83 : decode cX10_quote 83 = .ok (.istore 4, 2) := by decide +kernel
theorem dX10_quote_85 : decode cX10_quote 85 = .ok (.iload 4, 2) := by decide +kernel
theorem dX10_quote_87 : decode cX10_quote 87 = .ok (.aload_n 0, 1) := by decide +kernel
theorem dX10_quote_88 : decode cX10_quote 88 = .ok (.getfield 26, 3) := by decide +kernel
theorem dX10_quote_91 : decode cX10_quote 91 = .ok (.iload_n 3, 1) := by decide +kernel
theorem dX10_quote_92 : decode cX10_quote 92 = .ok (.iaload, 1) := by decide +kernel
theorem dX10_quote_93 : decode cX10_quote 93 = .ok (.if_icmp .ge 52, 3) := by decide +kernel
theorem dX10_quote_96 : decode cX10_quote 96 = .ok (.aload_n 0, 1) := by decide +kernel
theorem dX10_quote_97 : decode cX10_quote 97 = .ok (.iload 4, 2) := by decide +kernel
theorem dX10_quote_99 : decode cX10_quote 99 = .ok (.invokevirtual 467, 3) := by decide +kernel
theorem dX10_quote_102 : decode cX10_quote 102 = .ok (.istore 5, 2) := by decide +kernel
theorem dX10_quote_104 : decode cX10_quote 104 = .ok (.iload 5, 2) := by decide +kernel
theorem dX10_quote_106 : decode cX10_quote 106 = .ok (.aload_n 0, 1) := by decide +kernel
theorem dX10_quote_107 : decode cX10_quote 107 = .ok (.getfield 26, 3) := by decide +kernel
theorem dX10_quote_110 : decode cX10_quote 110 = .ok (.iload_n 3, 1) := by decide +kernel
theorem dX10_quote_111 : decode cX10_quote 111 = .ok (.iaload, 1) := by decide +kernel
theorem dX10_quote_112 : decode cX10_quote 112 = .ok (.if_icmp .le 12, 3) := by decide +kernel
theorem dX10_quote_115 : decode cX10_quote 115 = .ok (.aload_n 0, 1) := by decide +kernel
theorem dX10_quote_116 : decode cX10_quote 116 = .ok (.getfield 26, 3) := by decide +kernel
theorem dX10_quote_119 : decode cX10_quote 119 = .ok (.iload_n 3, 1) := by decide +kernel
theorem dX10_quote_120 : decode cX10_quote 120 = .ok (.iaload, 1) := by decide +kernel
theorem dX10_quote_121 : decode cX10_quote 121 = .ok (.goto 5, 3) := by decide +kernel
theorem dX10_quote_124 : decode cX10_quote 124 = .ok (.iload 5, 2) := by decide +kernel
theorem dX10_quote_126 : decode cX10_quote 126 = .ok (.istore 5, 2) := by decide +kernel
theorem dX10_quote_128 : decode cX10_quote 128 = .ok (.aload_n 0, 1) := by decide +kernel
theorem dX10_quote_129 : decode cX10_quote 129 = .ok (.iload 4, 2) := by decide +kernel
theorem dX10_quote_131 : decode cX10_quote 131 = .ok (.iload 5, 2) := by decide +kernel
theorem dX10_quote_133 : decode cX10_quote 133 = .ok (.iload_n 2, 1) := by decide +kernel
theorem dX10_quote_134 : decode cX10_quote 134 = .ok (.iload_n 3, 1) := by decide +kernel
theorem dX10_quote_135 : decode cX10_quote 135 = .ok (.invokevirtual 463, 3) := by decide +kernel
theorem dX10_quote_138 : decode cX10_quote 138 = .ok (.iload 5, 2) := by decide +kernel
theorem dX10_quote_140 : decode cX10_quote 140 = .ok (.istore 4, 2) := by decide +kernel
theorem dX10_quote_142 : decode cX10_quote 142 = .ok (.goto (-57), 3) := by decide +kernel
theorem dX10_quote_145 : decode cX10_quote 145 = .ok (.iload_n 3, 1) := by decide +kernel
theorem dX10_quote_146 : decode cX10_quote 146 = .ok (.aload_n 0, 1) := by decide +kernel
theorem dX10_quote_147 : decode cX10_quote 147 = .ok (.getfield 179, 3) := by decide +kernel
theorem dX10_quote_150 : decode cX10_quote 150 = .ok (.iconst 1, 1) := by decide +kernel
theorem dX10_quote_151 : decode cX10_quote 151 = .ok (.isub, 1) := by decide +kernel
theorem dX10_quote_152 : decode cX10_quote 152 = .ok (.if_icmp .ge 10, 3) := by decide +kernel
theorem dX10_quote_155 : decode cX10_quote 155 = .ok (.aload_n 0, 1) := by decide +kernel
theorem dX10_quote_156 : decode cX10_quote 156 = .ok (.ldc_w 455, 3) := by decide +kernel
theorem dX10_quote_159 : decode cX10_quote 159 = .ok (.invokevirtual 405, 3) := by decide +kernel
theorem dX10_quote_162 : decode cX10_quote 162 = .ok (.aload_n 0, 1) := by decide +kernel
theorem dX10_quote_163 : decode cX10_quote 163 = .ok (.getfield 396, 3) := by decide +kernel
theorem dX10_quote_166 : decode cX10_quote 166 = .ok (.ireturn, 1) := by decide +kernel
theorem dX10_octet_0 : decode cX10_octet 0 = .ok (.aload_n 0, 1) := by decide +kernel
theorem dX10_octet_1 : decode cX10_octet 1 = .ok (.iconst 0, 1) := by decide +kernel
theorem dX10_octet_2 : decode cX10_octet 2 = .ok (.putfield 142, 3) := by decide +kernel
theorem dX10_octet_5 : decode cX10_octet 5 = .ok (.iload_n 1, 1) := by decide +kernel
theorem dX10_octet_6 : decode cX10_octet 6 = .ok (.iconst 0, 1) := by decide +kernel
theorem dX10_octet_7 : decode cX10_octet 7 = .ok (.aload_n 0, 1) := by decide +kernel
theorem dX10_octet_8 : decode cX10_octet 8 = .ok (.getfield 396, 3) := by decide +kernel
theorem dX10_octet_11 : decode cX10_octet 11 = .ok (.iconst 1, 1) := by decide +kernel
theorem dX10_octet_12 : decode cX10_octet 12 = .ok (.isub, 1) := by decide +kernel
theorem dX10_octet_13 : decode cX10_octet 13 = .ok (.invokestatic 151, 3) := by decide +kernel
theorem dX10_octet_16 : decode cX10_octet 16 = .ok (.ifCond .eq 16, 3) := by decide +kernel
theorem dX10_octet_19 : decode cX10_octet 19 = .ok (.aload_n 0, 1) := by decide +kernel
theorem dX10_octet_20 : decode cX10_octet 20 = .ok (.getfield 127, 3) := by decide +kernel
theorem dX10_octet_23 : decode cX10_octet 23 = .ok (.iload_n 1, 1) := by decide +kernel
theorem dX10_octet_24 : decode cX10_octet 24 = .ok (.baload, 1) := by decide +kernel
theorem dX10_octet_25 : decode cX10_octet 25 = .ok (.sipush 255, 3) := by decide +kernel
theorem dX10_octet_28 : decode cX10_octet 28 = .ok (.iand, 1) := by decide +kernel
theorem dX10_octet_29 : decode cX10_octet 29 = .ok (.goto 4, 3) := by decide +kernel
theorem dX10_octet_32 : decode cX10_octet 32 = .ok (.iconst (-1), 1) := by decide +kernel
theorem dX10_octet_33 : decode cX10_octet 33 = .ok (.ireturn, 1) := by decide +kernel
theorem dX10_marks_0 : decode cX10_marks 0 = .ok (.aload_n 0, 1) := by decide +kernel
theorem dX10_marks_1 : decode cX10_marks 1 = .ok (.iconst 0, 1) := by decide +kernel
theorem dX10_marks_2 : decode cX10_marks 2 = .ok (.putfield 142, 3) := by decide +kernel
theorem dX10_marks_5 : decode cX10_marks 5 = .ok (.iload_n 1, 1) := by decide +kernel
theorem dX10_marks_6 : decode cX10_marks 6 = .ok (.ifCond .eq 10, 3) := by decide +kernel
theorem dX10_marks_9 : decode cX10_marks 9 = .ok (.aload_n 0, 1) := by decide +kernel
theorem dX10_marks_10 : decode cX10_marks 10 = .ok (.getfield 441, 3) := by decide +kernel
theorem dX10_marks_13 : decode cX10_marks 13 = .ok (.goto 7, 3) := by decide +kernel
theorem dX10_marks_16 : decode cX10_marks 16 = .ok (.aload_n 0, 1) := by decide +kernel
theorem dX10_marks_17 : decode cX10_marks 17 = .ok (.getfield 446, 3) := by decide +kernel
theorem dX10_marks_20 : decode cX10_marks 20 = .ok (.ireturn, 1) := by decide +kernel
theorem dX10_sign_0 : decode cX10_sign 0 = .ok (.aload_n 0, 1) := by decide +kernel
theorem dX10_sign_1 : decode cX10_sign 1 = .ok (.iconst 0, 1) := by decide +kernel
theorem dX10_sign_2 : decode cX10_sign 2 = .ok (.putfield 142, 3) := by decide +kernel
theorem dX10_sign_5 : decode cX10_sign 5 = .ok (.iload_n 1, 1) := by decide +kernel
theorem dX10_sign_6 : decode cX10_sign 6 = .ok (.iconst 0, 1) := by decide +kernel
theorem dX10_sign_7 : decode cX10_sign 7 = .ok (.aload_n 0, 1) := by decide +kernel
theorem dX10_sign_8 : decode cX10_sign 8 = .ok (.getfield 155, 3) := by decide +kernel
theorem dX10_sign_11 : decode cX10_sign 11 = .ok (.iconst 1, 1) := by decide +kernel
theorem dX10_sign_12 : decode cX10_sign 12 = .ok (.isub, 1) := by decide +kernel
theorem dX10_sign_13 : decode cX10_sign 13 = .ok (.invokestatic 151, 3) := by decide +kernel
theorem dX10_sign_16 : decode cX10_sign 16 = .ok (.ifCond .eq 12, 3) := by decide +kernel
theorem dX10_sign_19 : decode cX10_sign 19 = .ok (.aload_n 0, 1) := by decide +kernel
theorem dX10_sign_20 : decode cX10_sign 20 = .ok (.getfield 20, 3) := by decide +kernel
theorem dX10_sign_23 : decode cX10_sign 23 = .ok (.iload_n 1, 1) := by decide +kernel
theorem dX10_sign_24 : decode cX10_sign 24 = .ok (.iaload, 1) := by decide +kernel
theorem dX10_sign_25 : decode cX10_sign 25 = .ok (.goto 4, 3) := by decide +kernel
theorem dX10_sign_28 : decode cX10_sign 28 = .ok (.iconst (-1), 1) := by decide +kernel
theorem dX10_sign_29 : decode cX10_sign 29 = .ok (.ireturn, 1) := by decide +kernel
theorem dX10_signOf_0 : decode cX10_signOf 0 = .ok (.aload_n 0, 1) := by decide +kernel
theorem dX10_signOf_1 : decode cX10_signOf 1 = .ok (.iconst 0, 1) := by decide +kernel
theorem dX10_signOf_2 : decode cX10_signOf 2 = .ok (.putfield 142, 3) := by decide +kernel
theorem dX10_signOf_5 : decode cX10_signOf 5 = .ok (.iconst 0, 1) := by decide +kernel
theorem dX10_signOf_6 : decode cX10_signOf 6 = .ok (.istore_n 2, 1) := by decide +kernel
theorem dX10_signOf_7 : decode cX10_signOf 7 = .ok (.iload_n 2, 1) := by decide +kernel
theorem dX10_signOf_8 : decode cX10_signOf 8 = .ok (.aload_n 0, 1) := by decide +kernel
theorem dX10_signOf_9 : decode cX10_signOf 9 = .ok (.getfield 155, 3) := by decide +kernel
theorem dX10_signOf_12 : decode cX10_signOf 12 = .ok (.if_icmp .ge 33, 3) := by decide +kernel
theorem dX10_signOf_15 : decode cX10_signOf 15 = .ok (.iload_n 1, 1) := by decide +kernel
theorem dX10_signOf_16 : decode cX10_signOf 16 = .ok (.aload_n 0, 1) := by decide +kernel
theorem dX10_signOf_17 : decode cX10_signOf 17 = .ok (.getfield 20, 3) := by decide +kernel
theorem dX10_signOf_20 : decode cX10_signOf 20 = .ok (.iload_n 2, 1) := by decide +kernel
theorem dX10_signOf_21 : decode cX10_signOf 21 = .ok (.iaload, 1) := by decide +kernel
theorem dX10_signOf_22 : decode cX10_signOf 22 = .ok (.if_icmp .lt 17, 3) := by decide +kernel
theorem dX10_signOf_25 : decode cX10_signOf 25 = .ok (.iload_n 1, 1) := by decide +kernel
theorem dX10_signOf_26 : decode cX10_signOf 26 = .ok (.aload_n 0, 1) := by decide +kernel
theorem dX10_signOf_27 : decode cX10_signOf 27 = .ok (.getfield 20, 3) := by decide +kernel
theorem dX10_signOf_30 : decode cX10_signOf 30 = .ok (.iload_n 2, 1) := by decide +kernel
theorem dX10_signOf_31 : decode cX10_signOf 31 = .ok (.iconst 1, 1) := by decide +kernel
theorem dX10_signOf_32 : decode cX10_signOf 32 = .ok (.iadd, 1) := by decide +kernel
theorem dX10_signOf_33 : decode cX10_signOf 33 = .ok (.iaload, 1) := by decide +kernel
theorem dX10_signOf_34 : decode cX10_signOf 34 = .ok (.if_icmp .ge 5, 3) := by decide +kernel
theorem dX10_signOf_37 : decode cX10_signOf 37 = .ok (.iload_n 2, 1) := by decide +kernel
theorem dX10_signOf_38 : decode cX10_signOf 38 = .ok (.ireturn, 1) := by decide +kernel
theorem dX10_signOf_39 : decode cX10_signOf 39 = .ok (.iinc 2 1, 3) := by decide +kernel
theorem dX10_signOf_42 : decode cX10_signOf 42 = .ok (.goto (-35), 3) := by decide +kernel
theorem dX10_signOf_45 : decode cX10_signOf 45 = .ok (.iconst (-1), 1) := by decide +kernel
theorem dX10_signOf_46 : decode cX10_signOf 46 = .ok (.ireturn, 1) := by decide +kernel
theorem dX10_itemsWith_0 : decode cX10_itemsWith 0 = .ok (.iconst 0, 1) := by decide +kernel
theorem dX10_itemsWith_1 : decode cX10_itemsWith 1 = .ok (.istore_n 2, 1) := by decide +kernel
theorem dX10_itemsWith_2 : decode cX10_itemsWith 2 = .ok (.iconst 0, 1) := by decide +kernel
theorem dX10_itemsWith_3 : decode cX10_itemsWith 3 = .ok (.istore_n 3, 1) := by decide +kernel
theorem dX10_itemsWith_4 : decode cX10_itemsWith 4 = .ok (.iload_n 3, 1) := by decide +kernel
theorem dX10_itemsWith_5 : decode cX10_itemsWith 5 = .ok (.aload_n 0, 1) := by decide +kernel
theorem dX10_itemsWith_6 : decode cX10_itemsWith 6 = .ok (.getfield 277, 3) := by decide +kernel
theorem dX10_itemsWith_9 : decode cX10_itemsWith 9 = .ok (.if_icmp .ge 43, 3) := by decide +kernel
theorem dX10_itemsWith_12 : decode cX10_itemsWith 12 = .ok (.iload_n 2, 1) := by decide +kernel
theorem dX10_itemsWith_13 : decode cX10_itemsWith 13 = .ok (.iload_n 1, 1) := by decide +kernel
theorem dX10_itemsWith_14 : decode cX10_itemsWith 14 = .ok (.aload_n 0, 1) := by decide +kernel
theorem dX10_itemsWith_15 : decode cX10_itemsWith 15 = .ok (.getfield 88, 3) := by decide +kernel
theorem dX10_itemsWith_18 : decode cX10_itemsWith 18 = .ok (.iload_n 3, 1) := by decide +kernel
theorem dX10_itemsWith_19 : decode cX10_itemsWith 19 = .ok (.iaload, 1) := by decide +kernel
theorem dX10_itemsWith_20 : decode cX10_itemsWith 20 = .ok (.aload_n 0, 1) := by decide +kernel
theorem dX10_itemsWith_21 : decode cX10_itemsWith 21 = .ok (.getfield 91, 3) := by decide +kernel
theorem dX10_itemsWith_24 : decode cX10_itemsWith 24 = .ok (.iload_n 3, 1) := by decide +kernel
theorem dX10_itemsWith_25 : decode cX10_itemsWith 25 = .ok (.iaload, 1) := by decide +kernel
theorem dX10_itemsWith_26 : decode cX10_itemsWith 26 = .ok (.invokestatic 151, 3) := by decide +kernel
theorem dX10_itemsWith_29 : decode cX10_itemsWith 29 = .ok (.ifCond .eq 14, 3) := by decide +kernel
theorem dX10_itemsWith_32 : decode cX10_itemsWith 32 = .ok (.iconst 1, 1) := by decide +kernel
theorem dX10_itemsWith_33 : decode cX10_itemsWith 33 = .ok (.aload_n 0, 1) := by decide +kernel
theorem dX10_itemsWith_34 : decode cX10_itemsWith 34 = .ok (.getfield 85, 3) := by decide +kernel
theorem dX10_itemsWith_37 : decode cX10_itemsWith 37 = .ok (.iload_n 3, 1) := by decide +kernel
theorem dX10_itemsWith_38 : decode cX10_itemsWith 38 = .ok (.iaload, 1) := by decide +kernel
theorem dX10_itemsWith_39 : decode cX10_itemsWith 39 = .ok (.ishl, 1) := by decide +kernel
theorem dX10_itemsWith_40 : decode cX10_itemsWith 40 = .ok (.goto 4, 3) := by decide +kernel
theorem dX10_itemsWith_43 : decode cX10_itemsWith 43 = .ok (.iconst 0, 1) := by decide +kernel
theorem dX10_itemsWith_44 : decode cX10_itemsWith 44 = .ok (.ior, 1) := by decide +kernel
theorem dX10_itemsWith_45 : decode cX10_itemsWith 45 = .ok (.istore_n 2, 1) := by decide +kernel
theorem dX10_itemsWith_46 : decode cX10_itemsWith 46 = .ok (.iinc 3 1, 3) := by decide +kernel
theorem dX10_itemsWith_49 : decode cX10_itemsWith 49 = .ok (.goto (-45), 3) := by decide +kernel
theorem dX10_itemsWith_52 : decode cX10_itemsWith 52 = .ok (.iload_n 2, 1) := by decide +kernel
theorem dX10_itemsWith_53 : decode cX10_itemsWith 53 = .ok (.ireturn, 1) := by decide +kernel
theorem dX10_word_0 : decode cX10_word 0 = .ok (.aload_n 0, 1) := by decide +kernel
theorem dX10_word_1 : decode cX10_word 1 = .ok (.iconst 0, 1) := by decide +kernel
theorem dX10_word_2 : decode cX10_word 2 = .ok (.putfield 142, 3) := by decide +kernel
theorem dX10_word_5 : decode cX10_word 5 = .ok (.aload_n 0, 1) := by decide +kernel
theorem dX10_word_6 : decode cX10_word 6 = .ok (.iload_n 1, 1) := by decide +kernel
theorem dX10_word_7 : decode cX10_word 7 = .ok (.iconst 0, 1) := by decide +kernel
theorem dX10_word_8 : decode cX10_word 8 = .ok (.aload_n 0, 1) := by decide +kernel
theorem dX10_word_9 : decode cX10_word 9 = .ok (.getfield 179, 3) := by decide +kernel
theorem dX10_word_12 : decode cX10_word 12 = .ok (.iconst 1, 1) := by decide +kernel
theorem dX10_word_13 : decode cX10_word 13 = .ok (.isub, 1) := by decide +kernel
theorem dX10_word_14 : decode cX10_word 14 = .ok (.invokestatic 151, 3) := by decide +kernel
theorem dX10_word_17 : decode cX10_word 17 = .ok (.ifCond .ne 7, 3) := by decide +kernel
theorem dX10_word_20 : decode cX10_word 20 = .ok (.iconst 1, 1) := by decide +kernel
theorem dX10_word_21 : decode cX10_word 21 = .ok (.goto 4, 3) := by decide +kernel
theorem dX10_word_24 : decode cX10_word 24 = .ok (.iconst 0, 1) := by decide +kernel
theorem dX10_word_25 : decode cX10_word 25 = .ok (.iconst 1, 1) := by decide +kernel
theorem dX10_word_26 : decode cX10_word 26 = .ok (.invokevirtual 309, 3) := by decide +kernel
theorem dX10_word_29 : decode cX10_word 29 = .ok (.ifCond .ne 25, 3) := by decide +kernel
theorem dX10_word_32 : decode cX10_word 32 = .ok (.aload_n 0, 1) := by decide +kernel
theorem dX10_word_33 : decode cX10_word 33 = .ok (.iload_n 2, 1) := by decide +kernel
theorem dX10_word_34 : decode cX10_word 34 = .ok (.iconst 0, 1) := by decide +kernel
theorem dX10_word_35 : decode cX10_word 35 = .ok (.iconst 5, 1) := by decide +kernel
theorem dX10_word_36 : decode cX10_word 36 = .ok (.invokestatic 151, 3) := by decide +kernel
theorem dX10_word_39 : decode cX10_word 39 = .ok (.ifCond .ne 7, 3) := by decide +kernel
theorem dX10_word_42 : decode cX10_word 42 = .ok (.iconst 1, 1) := by decide +kernel
theorem dX10_word_43 : decode cX10_word 43 = .ok (.goto 4, 3) := by decide +kernel
theorem dX10_word_46 : decode cX10_word 46 = .ok (.iconst 0, 1) := by decide +kernel
theorem dX10_word_47 : decode cX10_word 47 = .ok (.iconst 2, 1) := by decide +kernel
theorem dX10_word_48 : decode cX10_word 48 = .ok (.invokevirtual 309, 3) := by decide +kernel
theorem dX10_word_51 : decode cX10_word 51 = .ok (.ifCond .eq 5, 3) := by decide +kernel
theorem dX10_word_54 : decode cX10_word 54 = .ok (.iconst 0, 1) := by decide +kernel
theorem dX10_word_55 : decode cX10_word 55 = .ok (.ireturn, 1) := by decide +kernel
theorem dX10_word_56 : decode cX10_word 56 = .ok (.iload_n 2, 1) := by decide +kernel
theorem dX10_word_57 : decode cX10_word 57 = .ok (.tableswitch 98 0 4 #[35, 47, 71, 85, 92], 35) := by decide +kernel
theorem dX10_word_92 : decode cX10_word 92 = .ok (.aload_n 0, 1) := by decide +kernel
theorem dX10_word_93 : decode cX10_word 93 = .ok (.getfield 20, 3) := by decide +kernel
theorem dX10_word_96 : decode cX10_word 96 = .ok (.aload_n 0, 1) := by decide +kernel
theorem dX10_word_97 : decode cX10_word 97 = .ok (.getfield 23, 3) := by decide +kernel
theorem dX10_word_100 : decode cX10_word 100 = .ok (.iload_n 1, 1) := by decide +kernel
theorem dX10_word_101 : decode cX10_word 101 = .ok (.iaload, 1) := by decide +kernel
theorem dX10_word_102 : decode cX10_word 102 = .ok (.iaload, 1) := by decide +kernel
theorem dX10_word_103 : decode cX10_word 103 = .ok (.ireturn, 1) := by decide +kernel
theorem dX10_word_104 : decode cX10_word 104 = .ok (.aload_n 0, 1) := by decide +kernel
theorem dX10_word_105 : decode cX10_word 105 = .ok (.getfield 20, 3) := by decide +kernel
theorem dX10_word_108 : decode cX10_word 108 = .ok (.aload_n 0, 1) := by decide +kernel
theorem dX10_word_109 : decode cX10_word 109 = .ok (.getfield 26, 3) := by decide +kernel
theorem dX10_word_112 : decode cX10_word 112 = .ok (.iload_n 1, 1) := by decide +kernel
theorem dX10_word_113 : decode cX10_word 113 = .ok (.iaload, 1) := by decide +kernel
theorem dX10_word_114 : decode cX10_word 114 = .ok (.iaload, 1) := by decide +kernel
theorem dX10_word_115 : decode cX10_word 115 = .ok (.aload_n 0, 1) := by decide +kernel
theorem dX10_word_116 : decode cX10_word 116 = .ok (.getfield 20, 3) := by decide +kernel
theorem dX10_word_119 : decode cX10_word 119 = .ok (.aload_n 0, 1) := by decide +kernel
theorem dX10_word_120 : decode cX10_word 120 = .ok (.getfield 23, 3) := by decide +kernel
theorem dX10_word_123 : decode cX10_word 123 = .ok (.iload_n 1, 1) := by decide +kernel
theorem dX10_word_124 : decode cX10_word 124 = .ok (.iaload, 1) := by decide +kernel
theorem dX10_word_125 : decode cX10_word 125 = .ok (.iaload, 1) := by decide +kernel
theorem dX10_word_126 : decode cX10_word 126 = .ok (.isub, 1) := by decide +kernel
theorem dX10_word_127 : decode cX10_word 127 = .ok (.ireturn, 1) := by decide +kernel
theorem dX10_word_128 : decode cX10_word 128 = .ok (.aload_n 0, 1) := by decide +kernel
theorem dX10_word_129 : decode cX10_word 129 = .ok (.getfield 26, 3) := by decide +kernel
theorem dX10_word_132 : decode cX10_word 132 = .ok (.iload_n 1, 1) := by decide +kernel
theorem dX10_word_133 : decode cX10_word 133 = .ok (.iaload, 1) := by decide +kernel
theorem dX10_word_134 : decode cX10_word 134 = .ok (.aload_n 0, 1) := by decide +kernel
theorem dX10_word_135 : decode cX10_word 135 = .ok (.getfield 23, 3) := by decide +kernel
theorem dX10_word_138 : decode cX10_word 138 = .ok (.iload_n 1, 1) := by decide +kernel
theorem dX10_word_139 : decode cX10_word 139 = .ok (.iaload, 1) := by decide +kernel
theorem dX10_word_140 : decode cX10_word 140 = .ok (.isub, 1) := by decide +kernel
theorem dX10_word_141 : decode cX10_word 141 = .ok (.ireturn, 1) := by decide +kernel
theorem dX10_word_142 : decode cX10_word 142 = .ok (.aload_n 0, 1) := by decide +kernel
theorem dX10_word_143 : decode cX10_word 143 = .ok (.getfield 29, 3) := by decide +kernel
theorem dX10_word_146 : decode cX10_word 146 = .ok (.iload_n 1, 1) := by decide +kernel
theorem dX10_word_147 : decode cX10_word 147 = .ok (.iaload, 1) := by decide +kernel
theorem dX10_word_148 : decode cX10_word 148 = .ok (.ireturn, 1) := by decide +kernel
theorem dX10_word_149 : decode cX10_word 149 = .ok (.aload_n 0, 1) := by decide +kernel
theorem dX10_word_150 : decode cX10_word 150 = .ok (.iload_n 1, 1) := by decide +kernel
theorem dX10_word_151 : decode cX10_word 151 = .ok (.invokevirtual 470, 3) := by decide +kernel
theorem dX10_word_154 : decode cX10_word 154 = .ok (.ireturn, 1) := by decide +kernel
theorem dX10_word_155 : decode cX10_word 155 = .ok (.aload_n 0, 1) := by decide +kernel
theorem dX10_word_156 : decode cX10_word 156 = .ok (.getfield 32, 3) := by decide +kernel
theorem dX10_word_159 : decode cX10_word 159 = .ok (.iload_n 1, 1) := by decide +kernel
theorem dX10_word_160 : decode cX10_word 160 = .ok (.iaload, 1) := by decide +kernel
theorem dX10_word_161 : decode cX10_word 161 = .ok (.ireturn, 1) := by decide +kernel
theorem dX10_unlikeIn_0 : decode cX10_unlikeIn 0 = .ok (.iconst 0, 1) := by decide +kernel
theorem dX10_unlikeIn_1 : decode cX10_unlikeIn 1 = .ok (.istore_n 2, 1) := by decide +kernel
theorem dX10_unlikeIn_2 : decode cX10_unlikeIn 2 = .ok (.iconst 0, 1) := by decide +kernel
theorem dX10_unlikeIn_3 : decode cX10_unlikeIn 3 = .ok (.istore_n 3, 1) := by decide +kernel
theorem dX10_unlikeIn_4 : decode cX10_unlikeIn 4 = .ok (.iload_n 3, 1) := by decide +kernel
theorem dX10_unlikeIn_5 : decode cX10_unlikeIn 5 = .ok (.aload_n 0, 1) := by decide +kernel
theorem dX10_unlikeIn_6 : decode cX10_unlikeIn 6 = .ok (.getfield 179, 3) := by decide +kernel
theorem dX10_unlikeIn_9 : decode cX10_unlikeIn 9 = .ok (.if_icmp .ge 41, 3) := by decide +kernel
theorem dX10_unlikeIn_12 : decode cX10_unlikeIn 12 = .ok (.iload_n 2, 1) := by decide +kernel
theorem dX10_unlikeIn_13 : decode cX10_unlikeIn 13 = .ok (.aload_n 0, 1) := by decide +kernel
theorem dX10_unlikeIn_14 : decode cX10_unlikeIn 14 = .ok (.getfield 32, 3) := by decide +kernel
theorem dX10_unlikeIn_17 : decode cX10_unlikeIn 17 = .ok (.iload_n 3, 1) := by decide +kernel
theorem dX10_unlikeIn_18 : decode cX10_unlikeIn 18 = .ok (.iaload, 1) := by decide +kernel
theorem dX10_unlikeIn_19 : decode cX10_unlikeIn 19 = .ok (.iload_n 3, 1) := by decide +kernel
theorem dX10_unlikeIn_20 : decode cX10_unlikeIn 20 = .ok (.if_icmp .ne 21, 3) := by decide +kernel
theorem dX10_unlikeIn_23 : decode cX10_unlikeIn 23 = .ok (.iload_n 1, 1) := by decide +kernel
theorem dX10_unlikeIn_24 : decode cX10_unlikeIn 24 = .ok (.iconst (-1), 1) := by decide +kernel
theorem dX10_unlikeIn_25 : decode cX10_unlikeIn 25 = .ok (.if_icmp .eq 12, 3) := by decide +kernel
theorem dX10_unlikeIn_28 : decode cX10_unlikeIn 28 = .ok (.aload_n 0, 1) := by decide +kernel
theorem dX10_unlikeIn_29 : decode cX10_unlikeIn 29 = .ok (.iload_n 1, 1) := by decide +kernel
theorem dX10_unlikeIn_30 : decode cX10_unlikeIn 30 = .ok (.iload_n 3, 1) := by decide +kernel
theorem dX10_unlikeIn_31 : decode cX10_unlikeIn 31 = .ok (.invokevirtual 346, 3) := by decide +kernel
theorem dX10_unlikeIn_34 : decode cX10_unlikeIn 34 = .ok (.ifCond .eq 7, 3) := by decide +kernel
theorem dX10_unlikeIn_37 : decode cX10_unlikeIn 37 = .ok (.iconst 1, 1) := by decide +kernel
theorem dX10_unlikeIn_38 : decode cX10_unlikeIn 38 = .ok (.goto 4, 3) := by decide +kernel
theorem dX10_unlikeIn_41 : decode cX10_unlikeIn 41 = .ok (.iconst 0, 1) := by decide +kernel
theorem dX10_unlikeIn_42 : decode cX10_unlikeIn 42 = .ok (.iadd, 1) := by decide +kernel
theorem dX10_unlikeIn_43 : decode cX10_unlikeIn 43 = .ok (.istore_n 2, 1) := by decide +kernel
theorem dX10_unlikeIn_44 : decode cX10_unlikeIn 44 = .ok (.iinc 3 1, 3) := by decide +kernel
theorem dX10_unlikeIn_47 : decode cX10_unlikeIn 47 = .ok (.goto (-43), 3) := by decide +kernel
theorem dX10_unlikeIn_50 : decode cX10_unlikeIn 50 = .ok (.iload_n 2, 1) := by decide +kernel
theorem dX10_unlikeIn_51 : decode cX10_unlikeIn 51 = .ok (.ireturn, 1) := by decide +kernel
theorem dX10_echoOf_0 : decode cX10_echoOf 0 = .ok (.iconst (-1), 1) := by decide +kernel
theorem dX10_echoOf_1 : decode cX10_echoOf 1 = .ok (.istore_n 2, 1) := by decide +kernel
theorem dX10_echoOf_2 : decode cX10_echoOf 2 = .ok (.iconst 0, 1) := by decide +kernel
theorem dX10_echoOf_3 : decode cX10_echoOf 3 = .ok (.istore_n 3, 1) := by decide +kernel
theorem dX10_echoOf_4 : decode cX10_echoOf 4 = .ok (.iconst 0, 1) := by decide +kernel
theorem dX10_echoOf_5 : decode cX10_echoOf 5 = .ok (.istore 4, 2) := by decide +kernel
theorem dX10_echoOf_7 : decode cX10_echoOf 7 = .ok (.iload 4, 2) := by decide +kernel
theorem dX10_echoOf_9 : decode cX10_echoOf 9 = .ok (.aload_n 0, 1) := by decide +kernel
theorem dX10_echoOf_10 : decode cX10_echoOf 10 = .ok (.getfield 203, 3) := by decide +kernel
theorem dX10_echoOf_13 : decode cX10_echoOf 13 = .ok (.if_icmp .ge 40, 3) := by decide +kernel
theorem dX10_echoOf_16 : decode cX10_echoOf 16 = .ok (.iload 4, 2) := by decide +kernel
theorem dX10_echoOf_18 : decode cX10_echoOf 18 = .ok (.iload_n 1, 1) := by decide +kernel
theorem dX10_echoOf_19 : decode cX10_echoOf 19 = .ok (.if_icmp .eq 28, 3) := by decide +kernel
theorem dX10_echoOf_22 : decode cX10_echoOf 22 = .ok (.aload_n 0, 1) := by decide +kernel
theorem dX10_echoOf_23 : decode cX10_echoOf 23 = .ok (.iload_n 1, 1) := by decide +kernel
theorem dX10_echoOf_24 : decode cX10_echoOf 24 = .ok (.iload 4, 2) := by decide +kernel
theorem dX10_echoOf_26 : decode cX10_echoOf 26 = .ok (.invokevirtual 352, 3) := by decide +kernel
theorem dX10_echoOf_29 : decode cX10_echoOf 29 = .ok (.iload_n 3, 1) := by decide +kernel
theorem dX10_echoOf_30 : decode cX10_echoOf 30 = .ok (.if_icmp .gt 6, 3) := by decide +kernel
theorem dX10_echoOf_33 : decode cX10_echoOf 33 = .ok (.goto 14, 3) := by decide +kernel
theorem dX10_echoOf_36 : decode cX10_echoOf 36 = .ok (.iload 4, 2) := by decide +kernel
theorem dX10_echoOf_38 : decode cX10_echoOf 38 = .ok (.istore_n 2, 1) := by decide +kernel
theorem dX10_echoOf_39 : decode cX10_echoOf 39 = .ok (.aload_n 0, 1) := by decide +kernel
theorem dX10_echoOf_40 : decode cX10_echoOf 40 = .ok (.iload_n 1, 1) := by decide +kernel
theorem dX10_echoOf_41 : decode cX10_echoOf 41 = .ok (.iload 4, 2) := by decide +kernel
theorem dX10_echoOf_43 : decode cX10_echoOf 43 = .ok (.invokevirtual 352, 3) := by decide +kernel
theorem dX10_echoOf_46 : decode cX10_echoOf 46 = .ok (.istore_n 3, 1) := by decide +kernel
theorem dX10_echoOf_47 : decode cX10_echoOf 47 = .ok (.iinc 4 1, 3) := by decide +kernel
theorem dX10_echoOf_50 : decode cX10_echoOf 50 = .ok (.goto (-43), 3) := by decide +kernel
theorem dX10_echoOf_53 : decode cX10_echoOf 53 = .ok (.iload_n 2, 1) := by decide +kernel
theorem dX10_echoOf_54 : decode cX10_echoOf 54 = .ok (.ireturn, 1) := by decide +kernel
theorem dX10_sentence_0 : decode cX10_sentence 0 = .ok (.aload_n 0, 1) := by decide +kernel
theorem dX10_sentence_1 : decode cX10_sentence 1 = .ok (.iload_n 1, 1) := by decide +kernel
theorem dX10_sentence_2 : decode cX10_sentence 2 = .ok (.invokevirtual 340, 3) := by decide +kernel
theorem dX10_sentence_5 : decode cX10_sentence 5 = .ok (.ifCond .ne 26, 3) := by decide +kernel
theorem dX10_sentence_8 : decode cX10_sentence 8 = .ok (.aload_n 0, 1) := by decide +kernel
theorem dX10_sentence_9 : decode cX10_sentence 9 = .ok (.iload_n 2, 1) := by decide +kernel
theorem dX10_sentence_10 : decode cX10_sentence 10 = .ok (.iconst 0, 1) := by decide +kernel
theorem dX10_sentence_11 : decode cX10_sentence 11 = .ok (.bipush 10, 2) := by decide +kernel
theorem dX10_sentence_13 : decode cX10_sentence 13 = .ok (.invokestatic 151, 3) := by decide +kernel
theorem dX10_sentence_16 : decode cX10_sentence 16 = .ok (.ifCond .ne 7, 3) := by decide +kernel
theorem dX10_sentence_19 : decode cX10_sentence 19 = .ok (.iconst 1, 1) := by decide +kernel
theorem dX10_sentence_20 : decode cX10_sentence 20 = .ok (.goto 4, 3) := by decide +kernel
theorem dX10_sentence_23 : decode cX10_sentence 23 = .ok (.iconst 0, 1) := by decide +kernel
theorem dX10_sentence_24 : decode cX10_sentence 24 = .ok (.iconst 2, 1) := by decide +kernel
theorem dX10_sentence_25 : decode cX10_sentence 25 = .ok (.invokevirtual 309, 3) := by decide +kernel
theorem dX10_sentence_28 : decode cX10_sentence 28 = .ok (.ifCond .eq 5, 3) := by decide +kernel
theorem dX10_sentence_31 : decode cX10_sentence 31 = .ok (.iconst 0, 1) := by decide +kernel
theorem dX10_sentence_32 : decode cX10_sentence 32 = .ok (.ireturn, 1) := by decide +kernel
theorem dX10_sentence_33 : decode cX10_sentence 33 = .ok (.aload_n 0, 1) := by decide +kernel
theorem dX10_sentence_34 : decode cX10_sentence 34 = .ok (.invokevirtual 364, 3) := by decide +kernel
theorem dX10_sentence_37 : decode cX10_sentence 37 = .ok (.iconst 1, 1) := by decide +kernel
theorem dX10_sentence_38 : decode cX10_sentence 38 = .ok (.iload_n 1, 1) := by decide +kernel
theorem dX10_sentence_39 : decode cX10_sentence 39 = .ok (.ishl, 1) := by decide +kernel
theorem dX10_sentence_40 : decode cX10_sentence 40 = .ok (.istore_n 3, 1) := by decide +kernel
theorem dX10_sentence_41 : decode cX10_sentence 41 = .ok (.iload_n 2, 1) := by decide +kernel
theorem dX10_sentence_42 : decode cX10_sentence 42 = .ok (.tableswitch 186 0 9 #[54, 66, 90, 104, 110, 116, 122, 129, 136, 158], 54) := by decide +kernel
theorem dX10_sentence_96 : decode cX10_sentence 96 = .ok (.aload_n 0, 1) := by decide +kernel
theorem dX10_sentence_97 : decode cX10_sentence 97 = .ok (.getfield 20, 3) := by decide +kernel
theorem dX10_sentence_100 : decode cX10_sentence 100 = .ok (.aload_n 0, 1) := by decide +kernel
theorem dX10_sentence_101 : decode cX10_sentence 101 = .ok (.getfield 35, 3) := by decide +kernel
theorem dX10_sentence_104 : decode cX10_sentence 104 = .ok (.iload_n 1, 1) := by decide +kernel
theorem dX10_sentence_105 : decode cX10_sentence 105 = .ok (.iaload, 1) := by decide +kernel
theorem dX10_sentence_106 : decode cX10_sentence 106 = .ok (.iaload, 1) := by decide +kernel
theorem dX10_sentence_107 : decode cX10_sentence 107 = .ok (.ireturn, 1) := by decide +kernel
theorem dX10_sentence_108 : decode cX10_sentence 108 = .ok (.aload_n 0, 1) := by decide +kernel
theorem dX10_sentence_109 : decode cX10_sentence 109 = .ok (.getfield 20, 3) := by decide +kernel
theorem dX10_sentence_112 : decode cX10_sentence 112 = .ok (.aload_n 0, 1) := by decide +kernel
theorem dX10_sentence_113 : decode cX10_sentence 113 = .ok (.getfield 38, 3) := by decide +kernel
theorem dX10_sentence_116 : decode cX10_sentence 116 = .ok (.iload_n 1, 1) := by decide +kernel
theorem dX10_sentence_117 : decode cX10_sentence 117 = .ok (.iaload, 1) := by decide +kernel
theorem dX10_sentence_118 : decode cX10_sentence 118 = .ok (.iaload, 1) := by decide +kernel
theorem dX10_sentence_119 : decode cX10_sentence 119 = .ok (.aload_n 0, 1) := by decide +kernel
theorem dX10_sentence_120 : decode cX10_sentence 120 = .ok (.getfield 20, 3) := by decide +kernel
theorem dX10_sentence_123 : decode cX10_sentence 123 = .ok (.aload_n 0, 1) := by decide +kernel
theorem dX10_sentence_124 : decode cX10_sentence 124 = .ok (.getfield 35, 3) := by decide +kernel
theorem dX10_sentence_127 : decode cX10_sentence 127 = .ok (.iload_n 1, 1) := by decide +kernel
theorem dX10_sentence_128 : decode cX10_sentence 128 = .ok (.iaload, 1) := by decide +kernel
theorem dX10_sentence_129 : decode cX10_sentence 129 = .ok (.iaload, 1) := by decide +kernel
theorem dX10_sentence_130 : decode cX10_sentence 130 = .ok (.isub, 1) := by decide +kernel
theorem dX10_sentence_131 : decode cX10_sentence 131 = .ok (.ireturn, 1) := by decide +kernel
theorem dX10_sentence_132 : decode cX10_sentence 132 = .ok (.aload_n 0, 1) := by decide +kernel
theorem dX10_sentence_133 : decode cX10_sentence 133 = .ok (.getfield 38, 3) := by decide +kernel
theorem dX10_sentence_136 : decode cX10_sentence 136 = .ok (.iload_n 1, 1) := by decide +kernel
theorem dX10_sentence_137 : decode cX10_sentence 137 = .ok (.iaload, 1) := by decide +kernel
theorem dX10_sentence_138 : decode cX10_sentence 138 = .ok (.aload_n 0, 1) := by decide +kernel
theorem dX10_sentence_139 : decode cX10_sentence 139 = .ok (.getfield 35, 3) := by decide +kernel
theorem dX10_sentence_142 : decode cX10_sentence 142 = .ok (.iload_n 1, 1) := by decide +kernel
theorem dX10_sentence_143 : decode cX10_sentence 143 = .ok (.iaload, 1) := by decide +kernel
theorem dX10_sentence_144 : decode cX10_sentence 144 = .ok (.isub, 1) := by decide +kernel
theorem dX10_sentence_145 : decode cX10_sentence 145 = .ok (.ireturn, 1) := by decide +kernel
theorem dX10_sentence_146 : decode cX10_sentence 146 = .ok (.aload_n 0, 1) := by decide +kernel
theorem dX10_sentence_147 : decode cX10_sentence 147 = .ok (.iload_n 1, 1) := by decide +kernel
theorem dX10_sentence_148 : decode cX10_sentence 148 = .ok (.invokevirtual 325, 3) := by decide +kernel
theorem dX10_sentence_151 : decode cX10_sentence 151 = .ok (.ireturn, 1) := by decide +kernel
theorem dX10_sentence_152 : decode cX10_sentence 152 = .ok (.aload_n 0, 1) := by decide +kernel
theorem dX10_sentence_153 : decode cX10_sentence 153 = .ok (.iload_n 1, 1) := by decide +kernel
theorem dX10_sentence_154 : decode cX10_sentence 154 = .ok (.invokevirtual 328, 3) := by decide +kernel
theorem dX10_sentence_157 : decode cX10_sentence 157 = .ok (.ireturn, 1) := by decide +kernel
theorem dX10_sentence_158 : decode cX10_sentence 158 = .ok (.aload_n 0, 1) := by decide +kernel
theorem dX10_sentence_159 : decode cX10_sentence 159 = .ok (.iload_n 1, 1) := by decide +kernel
theorem dX10_sentence_160 : decode cX10_sentence 160 = .ok (.invokevirtual 473, 3) := by decide +kernel
theorem dX10_sentence_163 : decode cX10_sentence 163 = .ok (.ireturn, 1) := by decide +kernel
theorem dX10_sentence_164 : decode cX10_sentence 164 = .ok (.aload_n 0, 1) := by decide +kernel
theorem dX10_sentence_165 : decode cX10_sentence 165 = .ok (.iload_n 3, 1) := by decide +kernel
theorem dX10_sentence_166 : decode cX10_sentence 166 = .ok (.iconst 3, 1) := by decide +kernel
theorem dX10_sentence_167 : decode cX10_sentence 167 = .ok (.invokevirtual 476, 3) := by decide +kernel
theorem dX10_sentence_170 : decode cX10_sentence 170 = .ok (.ireturn, 1) := by decide +kernel
theorem dX10_sentence_171 : decode cX10_sentence 171 = .ok (.aload_n 0, 1) := by decide +kernel
theorem dX10_sentence_172 : decode cX10_sentence 172 = .ok (.getfield 97, 3) := by decide +kernel
theorem dX10_sentence_175 : decode cX10_sentence 175 = .ok (.iload_n 3, 1) := by decide +kernel
theorem dX10_sentence_176 : decode cX10_sentence 176 = .ok (.iaload, 1) := by decide +kernel
theorem dX10_sentence_177 : decode cX10_sentence 177 = .ok (.ireturn, 1) := by decide +kernel
theorem dX10_sentence_178 : decode cX10_sentence 178 = .ok (.aload_n 0, 1) := by decide +kernel
theorem dX10_sentence_179 : decode cX10_sentence 179 = .ok (.getfield 97, 3) := by decide +kernel
theorem dX10_sentence_182 : decode cX10_sentence 182 = .ok (.aload_n 0, 1) := by decide +kernel
theorem dX10_sentence_183 : decode cX10_sentence 183 = .ok (.getfield 221, 3) := by decide +kernel
theorem dX10_sentence_186 : decode cX10_sentence 186 = .ok (.iload_n 3, 1) := by decide +kernel
theorem dX10_sentence_187 : decode cX10_sentence 187 = .ok (.ior, 1) := by decide +kernel
theorem dX10_sentence_188 : decode cX10_sentence 188 = .ok (.iaload, 1) := by decide +kernel
theorem dX10_sentence_189 : decode cX10_sentence 189 = .ok (.aload_n 0, 1) := by decide +kernel
theorem dX10_sentence_190 : decode cX10_sentence 190 = .ok (.getfield 97, 3) := by decide +kernel
theorem dX10_sentence_193 : decode cX10_sentence 193 = .ok (.aload_n 0, 1) := by decide +kernel
theorem dX10_sentence_194 : decode cX10_sentence 194 = .ok (.getfield 221, 3) := by decide +kernel
theorem dX10_sentence_197 : decode cX10_sentence 197 = .ok (.iaload, 1) := by decide +kernel
theorem dX10_sentence_198 : decode cX10_sentence 198 = .ok (.isub, 1) := by decide +kernel
theorem dX10_sentence_199 : decode cX10_sentence 199 = .ok (.ireturn, 1) := by decide +kernel
theorem dX10_sentence_200 : decode cX10_sentence 200 = .ok (.aload_n 0, 1) := by decide +kernel
theorem dX10_sentence_201 : decode cX10_sentence 201 = .ok (.getfield 221, 3) := by decide +kernel
theorem dX10_sentence_204 : decode cX10_sentence 204 = .ok (.iload_n 3, 1) := by decide +kernel
theorem dX10_sentence_205 : decode cX10_sentence 205 = .ok (.iand, 1) := by decide +kernel
theorem dX10_sentence_206 : decode cX10_sentence 206 = .ok (.ifCond .ne 20, 3) := by decide +kernel
theorem dX10_sentence_209 : decode cX10_sentence 209 = .ok (.aload_n 0, 1) := by decide +kernel
theorem dX10_sentence_210 : decode cX10_sentence 210 = .ok (.aload_n 0, 1) := by decide +kernel
theorem dX10_sentence_211 : decode cX10_sentence 211 = .ok (.getfield 221, 3) := by decide +kernel
theorem dX10_sentence_214 : decode cX10_sentence 214 = .ok (.iload_n 3, 1) := by decide +kernel
theorem dX10_sentence_215 : decode cX10_sentence 215 = .ok (.ior, 1) := by decide +kernel
theorem dX10_sentence_216 : decode cX10_sentence 216 = .ok (.invokevirtual 361, 3) := by decide +kernel
theorem dX10_sentence_219 : decode cX10_sentence 219 = .ok (.ifCond .eq 7, 3) := by decide +kernel
theorem dX10_sentence_222 : decode cX10_sentence 222 = .ok (.iconst 1, 1) := by decide +kernel
theorem dX10_sentence_223 : decode cX10_sentence 223 = .ok (.goto 4, 3) := by decide +kernel
theorem dX10_sentence_226 : decode cX10_sentence 226 = .ok (.iconst 0, 1) := by decide +kernel
theorem dX10_sentence_227 : decode cX10_sentence 227 = .ok (.ireturn, 1) := by decide +kernel
theorem dX10_sentence_228 : decode cX10_sentence 228 = .ok (.aload_n 0, 1) := by decide +kernel
theorem dX10_sentence_229 : decode cX10_sentence 229 = .ok (.iload_n 1, 1) := by decide +kernel
theorem dX10_sentence_230 : decode cX10_sentence 230 = .ok (.invokevirtual 479, 3) := by decide +kernel
theorem dX10_sentence_233 : decode cX10_sentence 233 = .ok (.ireturn, 1) := by decide +kernel
theorem dX10_noItem_0 : decode cX10_noItem 0 = .ok (.aload_n 0, 1) := by decide +kernel
theorem dX10_noItem_1 : decode cX10_noItem 1 = .ok (.iconst 0, 1) := by decide +kernel
theorem dX10_noItem_2 : decode cX10_noItem 2 = .ok (.putfield 142, 3) := by decide +kernel
theorem dX10_noItem_5 : decode cX10_noItem 5 = .ok (.aload_n 0, 1) := by decide +kernel
theorem dX10_noItem_6 : decode cX10_noItem 6 = .ok (.iload_n 1, 1) := by decide +kernel
theorem dX10_noItem_7 : decode cX10_noItem 7 = .ok (.iconst 0, 1) := by decide +kernel
theorem dX10_noItem_8 : decode cX10_noItem 8 = .ok (.aload_n 0, 1) := by decide +kernel
theorem dX10_noItem_9 : decode cX10_noItem 9 = .ok (.getfield 271, 3) := by decide +kernel
theorem dX10_noItem_12 : decode cX10_noItem 12 = .ok (.iconst 1, 1) := by decide +kernel
theorem dX10_noItem_13 : decode cX10_noItem 13 = .ok (.isub, 1) := by decide +kernel
theorem dX10_noItem_14 : decode cX10_noItem 14 = .ok (.invokestatic 151, 3) := by decide +kernel
theorem dX10_noItem_17 : decode cX10_noItem 17 = .ok (.ifCond .ne 7, 3) := by decide +kernel
theorem dX10_noItem_20 : decode cX10_noItem 20 = .ok (.iconst 1, 1) := by decide +kernel
theorem dX10_noItem_21 : decode cX10_noItem 21 = .ok (.goto 4, 3) := by decide +kernel
theorem dX10_noItem_24 : decode cX10_noItem 24 = .ok (.iconst 0, 1) := by decide +kernel
theorem dX10_noItem_25 : decode cX10_noItem 25 = .ok (.iconst 1, 1) := by decide +kernel
theorem dX10_noItem_26 : decode cX10_noItem 26 = .ok (.invokevirtual 309, 3) := by decide +kernel
theorem dX10_noItem_29 : decode cX10_noItem 29 = .ok (.ireturn, 1) := by decide +kernel
theorem dX10_sentencesWith_0 : decode cX10_sentencesWith 0 = .ok (.iconst 0, 1) := by decide +kernel
theorem dX10_sentencesWith_1 : decode cX10_sentencesWith 1 = .ok (.istore_n 2, 1) := by decide +kernel
theorem dX10_sentencesWith_2 : decode cX10_sentencesWith 2 = .ok (.iconst 0, 1) := by decide +kernel
theorem dX10_sentencesWith_3 : decode cX10_sentencesWith 3 = .ok (.istore_n 3, 1) := by decide +kernel
theorem dX10_sentencesWith_4 : decode cX10_sentencesWith 4 = .ok (.iload_n 3, 1) := by decide +kernel
theorem dX10_sentencesWith_5 : decode cX10_sentencesWith 5 = .ok (.aload_n 0, 1) := by decide +kernel
theorem dX10_sentencesWith_6 : decode cX10_sentencesWith 6 = .ok (.getfield 277, 3) := by decide +kernel
theorem dX10_sentencesWith_9 : decode cX10_sentencesWith 9 = .ok (.if_icmp .ge 39, 3) := by decide +kernel
theorem dX10_sentencesWith_12 : decode cX10_sentencesWith 12 = .ok (.iload_n 2, 1) := by decide +kernel
theorem dX10_sentencesWith_13 : decode cX10_sentencesWith 13 = .ok (.aload_n 0, 1) := by decide +kernel
theorem dX10_sentencesWith_14 : decode cX10_sentencesWith 14 = .ok (.getfield 85, 3) := by decide +kernel
theorem dX10_sentencesWith_17 : decode cX10_sentencesWith 17 = .ok (.iload_n 3, 1) := by decide +kernel
theorem dX10_sentencesWith_18 : decode cX10_sentencesWith 18 = .ok (.iaload, 1) := by decide +kernel
theorem dX10_sentencesWith_19 : decode cX10_sentencesWith 19 = .ok (.iload_n 1, 1) := by decide +kernel
theorem dX10_sentencesWith_20 : decode cX10_sentencesWith 20 = .ok (.if_icmp .ne 19, 3) := by decide +kernel
theorem dX10_sentencesWith_23 : decode cX10_sentencesWith 23 = .ok (.iconst 1, 1) := by decide +kernel
theorem dX10_sentencesWith_24 : decode cX10_sentencesWith 24 = .ok (.aload_n 0, 1) := by decide +kernel
theorem dX10_sentencesWith_25 : decode cX10_sentencesWith 25 = .ok (.getfield 29, 3) := by decide +kernel
theorem dX10_sentencesWith_28 : decode cX10_sentencesWith 28 = .ok (.aload_n 0, 1) := by decide +kernel
theorem dX10_sentencesWith_29 : decode cX10_sentencesWith 29 = .ok (.getfield 88, 3) := by decide +kernel
theorem dX10_sentencesWith_32 : decode cX10_sentencesWith 32 = .ok (.iload_n 3, 1) := by decide +kernel
theorem dX10_sentencesWith_33 : decode cX10_sentencesWith 33 = .ok (.iaload, 1) := by decide +kernel
theorem dX10_sentencesWith_34 : decode cX10_sentencesWith 34 = .ok (.iaload, 1) := by decide +kernel
theorem dX10_sentencesWith_35 : decode cX10_sentencesWith 35 = .ok (.ishl, 1) := by decide +kernel
theorem dX10_sentencesWith_36 : decode cX10_sentencesWith 36 = .ok (.goto 4, 3) := by decide +kernel
theorem dX10_sentencesWith_39 : decode cX10_sentencesWith 39 = .ok (.iconst 0, 1) := by decide +kernel
theorem dX10_sentencesWith_40 : decode cX10_sentencesWith 40 = .ok (.ior, 1) := by decide +kernel
theorem dX10_sentencesWith_41 : decode cX10_sentencesWith 41 = .ok (.istore_n 2, 1) := by decide +kernel
theorem dX10_sentencesWith_42 : decode cX10_sentencesWith 42 = .ok (.iinc 3 1, 3) := by decide +kernel
theorem dX10_sentencesWith_45 : decode cX10_sentencesWith 45 = .ok (.goto (-41), 3) := by decide +kernel
theorem dX10_sentencesWith_48 : decode cX10_sentencesWith 48 = .ok (.iload_n 2, 1) := by decide +kernel
theorem dX10_sentencesWith_49 : decode cX10_sentencesWith 49 = .ok (.ireturn, 1) := by decide +kernel
theorem dX10_matchesOf_0 : decode cX10_matchesOf 0 = .ok (.iconst 0, 1) := by decide +kernel
theorem dX10_matchesOf_1 : decode cX10_matchesOf 1 = .ok (.istore_n 2, 1) := by decide +kernel
theorem dX10_matchesOf_2 : decode cX10_matchesOf 2 = .ok (.iconst 0, 1) := by decide +kernel
theorem dX10_matchesOf_3 : decode cX10_matchesOf 3 = .ok (.istore_n 3, 1) := by decide +kernel
theorem dX10_matchesOf_4 : decode cX10_matchesOf 4 = .ok (.iload_n 3, 1) := by decide +kernel
theorem dX10_matchesOf_5 : decode cX10_matchesOf 5 = .ok (.aload_n 0, 1) := by decide +kernel
theorem dX10_matchesOf_6 : decode cX10_matchesOf 6 = .ok (.getfield 277, 3) := by decide +kernel
theorem dX10_matchesOf_9 : decode cX10_matchesOf 9 = .ok (.if_icmp .ge 27, 3) := by decide +kernel
theorem dX10_matchesOf_12 : decode cX10_matchesOf 12 = .ok (.iload_n 2, 1) := by decide +kernel
theorem dX10_matchesOf_13 : decode cX10_matchesOf 13 = .ok (.aload_n 0, 1) := by decide +kernel
theorem dX10_matchesOf_14 : decode cX10_matchesOf 14 = .ok (.getfield 85, 3) := by decide +kernel
theorem dX10_matchesOf_17 : decode cX10_matchesOf 17 = .ok (.iload_n 3, 1) := by decide +kernel
theorem dX10_matchesOf_18 : decode cX10_matchesOf 18 = .ok (.iaload, 1) := by decide +kernel
theorem dX10_matchesOf_19 : decode cX10_matchesOf 19 = .ok (.iload_n 1, 1) := by decide +kernel
theorem dX10_matchesOf_20 : decode cX10_matchesOf 20 = .ok (.if_icmp .ne 7, 3) := by decide +kernel
theorem dX10_matchesOf_23 : decode cX10_matchesOf 23 = .ok (.iconst 1, 1) := by decide +kernel
theorem dX10_matchesOf_24 : decode cX10_matchesOf 24 = .ok (.goto 4, 3) := by decide +kernel
theorem dX10_matchesOf_27 : decode cX10_matchesOf 27 = .ok (.iconst 0, 1) := by decide +kernel
theorem dX10_matchesOf_28 : decode cX10_matchesOf 28 = .ok (.iadd, 1) := by decide +kernel
theorem dX10_matchesOf_29 : decode cX10_matchesOf 29 = .ok (.istore_n 2, 1) := by decide +kernel
theorem dX10_matchesOf_30 : decode cX10_matchesOf 30 = .ok (.iinc 3 1, 3) := by decide +kernel
theorem dX10_matchesOf_33 : decode cX10_matchesOf 33 = .ok (.goto (-29), 3) := by decide +kernel
theorem dX10_matchesOf_36 : decode cX10_matchesOf 36 = .ok (.iload_n 2, 1) := by decide +kernel
theorem dX10_matchesOf_37 : decode cX10_matchesOf 37 = .ok (.ireturn, 1) := by decide +kernel
theorem dX10_item_0 : decode cX10_item 0 = .ok (.aload_n 0, 1) := by decide +kernel
theorem dX10_item_1 : decode cX10_item 1 = .ok (.iload_n 1, 1) := by decide +kernel
theorem dX10_item_2 : decode cX10_item 2 = .ok (.invokevirtual 482, 3) := by decide +kernel
theorem dX10_item_5 : decode cX10_item 5 = .ok (.ifCond .ne 25, 3) := by decide +kernel
theorem dX10_item_8 : decode cX10_item 8 = .ok (.aload_n 0, 1) := by decide +kernel
theorem dX10_item_9 : decode cX10_item 9 = .ok (.iload_n 2, 1) := by decide +kernel
theorem dX10_item_10 : decode cX10_item 10 = .ok (.iconst 0, 1) := by decide +kernel
theorem dX10_item_11 : decode cX10_item 11 = .ok (.iconst 4, 1) := by decide +kernel
theorem dX10_item_12 : decode cX10_item 12 = .ok (.invokestatic 151, 3) := by decide +kernel
theorem dX10_item_15 : decode cX10_item 15 = .ok (.ifCond .ne 7, 3) := by decide +kernel
theorem dX10_item_18 : decode cX10_item 18 = .ok (.iconst 1, 1) := by decide +kernel
theorem dX10_item_19 : decode cX10_item 19 = .ok (.goto 4, 3) := by decide +kernel
theorem dX10_item_22 : decode cX10_item 22 = .ok (.iconst 0, 1) := by decide +kernel
theorem dX10_item_23 : decode cX10_item 23 = .ok (.iconst 2, 1) := by decide +kernel
theorem dX10_item_24 : decode cX10_item 24 = .ok (.invokevirtual 309, 3) := by decide +kernel
theorem dX10_item_27 : decode cX10_item 27 = .ok (.ifCond .eq 5, 3) := by decide +kernel
theorem dX10_item_30 : decode cX10_item 30 = .ok (.iconst 0, 1) := by decide +kernel
theorem dX10_item_31 : decode cX10_item 31 = .ok (.ireturn, 1) := by decide +kernel
theorem dX10_item_32 : decode cX10_item 32 = .ok (.iload_n 2, 1) := by decide +kernel
theorem dX10_item_33 : decode cX10_item 33 = .ok (.tableswitch 66 0 3 #[31, 38, 53, 60], 31) := by decide +kernel
theorem dX10_item_64 : decode cX10_item 64 = .ok (.aload_n 0, 1) := by decide +kernel
theorem dX10_item_65 : decode cX10_item 65 = .ok (.getfield 45, 3) := by decide +kernel
theorem dX10_item_68 : decode cX10_item 68 = .ok (.iload_n 1, 1) := by decide +kernel
theorem dX10_item_69 : decode cX10_item 69 = .ok (.iaload, 1) := by decide +kernel
theorem dX10_item_70 : decode cX10_item 70 = .ok (.ireturn, 1) := by decide +kernel
theorem dX10_item_71 : decode cX10_item 71 = .ok (.aload_n 0, 1) := by decide +kernel
theorem dX10_item_72 : decode cX10_item 72 = .ok (.getfield 54, 3) := by decide +kernel
theorem dX10_item_75 : decode cX10_item 75 = .ok (.iload_n 1, 1) := by decide +kernel
theorem dX10_item_76 : decode cX10_item 76 = .ok (.baload, 1) := by decide +kernel
theorem dX10_item_77 : decode cX10_item 77 = .ok (.ifCond .eq 7, 3) := by decide +kernel
theorem dX10_item_80 : decode cX10_item 80 = .ok (.iconst 0, 1) := by decide +kernel
theorem dX10_item_81 : decode cX10_item 81 = .ok (.goto 4, 3) := by decide +kernel
theorem dX10_item_84 : decode cX10_item 84 = .ok (.iconst 1, 1) := by decide +kernel
theorem dX10_item_85 : decode cX10_item 85 = .ok (.ireturn, 1) := by decide +kernel
theorem dX10_item_86 : decode cX10_item 86 = .ok (.aload_n 0, 1) := by decide +kernel
theorem dX10_item_87 : decode cX10_item 87 = .ok (.getfield 48, 3) := by decide +kernel
theorem dX10_item_90 : decode cX10_item 90 = .ok (.iload_n 1, 1) := by decide +kernel
theorem dX10_item_91 : decode cX10_item 91 = .ok (.iaload, 1) := by decide +kernel
theorem dX10_item_92 : decode cX10_item 92 = .ok (.ireturn, 1) := by decide +kernel
theorem dX10_item_93 : decode cX10_item 93 = .ok (.aload_n 0, 1) := by decide +kernel
theorem dX10_item_94 : decode cX10_item 94 = .ok (.iload_n 1, 1) := by decide +kernel
theorem dX10_item_95 : decode cX10_item 95 = .ok (.invokevirtual 485, 3) := by decide +kernel
theorem dX10_item_98 : decode cX10_item 98 = .ok (.ireturn, 1) := by decide +kernel
theorem dX10_item_99 : decode cX10_item 99 = .ok (.aload_n 0, 1) := by decide +kernel
theorem dX10_item_100 : decode cX10_item 100 = .ok (.iload_n 1, 1) := by decide +kernel
theorem dX10_item_101 : decode cX10_item 101 = .ok (.invokevirtual 488, 3) := by decide +kernel
theorem dX10_item_104 : decode cX10_item 104 = .ok (.ireturn, 1) := by decide +kernel
theorem dX10_fits_0 : decode cX10_fits 0 = .ok (.aload_n 0, 1) := by decide +kernel
theorem dX10_fits_1 : decode cX10_fits 1 = .ok (.iload_n 1, 1) := by decide +kernel
theorem dX10_fits_2 : decode cX10_fits 2 = .ok (.invokevirtual 482, 3) := by decide +kernel
theorem dX10_fits_5 : decode cX10_fits 5 = .ok (.ifCond .ne 30, 3) := by decide +kernel
theorem dX10_fits_8 : decode cX10_fits 8 = .ok (.aload_n 0, 1) := by decide +kernel
theorem dX10_fits_9 : decode cX10_fits 9 = .ok (.iload_n 3, 1) := by decide +kernel
theorem dX10_fits_10 : decode cX10_fits 10 = .ok (.iconst 0, 1) := by decide +kernel
theorem dX10_fits_11 : decode cX10_fits 11 = .ok (.aload_n 0, 1) := by decide +kernel
theorem dX10_fits_12 : decode cX10_fits 12 = .ok (.getfield 179, 3) := by decide +kernel
theorem dX10_fits_15 : decode cX10_fits 15 = .ok (.iconst 1, 1) := by decide +kernel
theorem dX10_fits_16 : decode cX10_fits 16 = .ok (.isub, 1) := by decide +kernel
theorem dX10_fits_17 : decode cX10_fits 17 = .ok (.invokestatic 151, 3) := by decide +kernel
theorem dX10_fits_20 : decode cX10_fits 20 = .ok (.ifCond .ne 7, 3) := by decide +kernel
theorem dX10_fits_23 : decode cX10_fits 23 = .ok (.iconst 1, 1) := by decide +kernel
theorem dX10_fits_24 : decode cX10_fits 24 = .ok (.goto 4, 3) := by decide +kernel
theorem dX10_fits_27 : decode cX10_fits 27 = .ok (.iconst 0, 1) := by decide +kernel
theorem dX10_fits_28 : decode cX10_fits 28 = .ok (.iconst 1, 1) := by decide +kernel
theorem dX10_fits_29 : decode cX10_fits 29 = .ok (.invokevirtual 309, 3) := by decide +kernel
theorem dX10_fits_32 : decode cX10_fits 32 = .ok (.ifCond .eq 5, 3) := by decide +kernel
theorem dX10_fits_35 : decode cX10_fits 35 = .ok (.iconst 0, 1) := by decide +kernel
theorem dX10_fits_36 : decode cX10_fits 36 = .ok (.ireturn, 1) := by decide +kernel
theorem dX10_fits_37 : decode cX10_fits 37 = .ok (.iload_n 2, 1) := by decide +kernel
theorem dX10_fits_38 : decode cX10_fits 38 = .ok (.iconst 0, 1) := by decide +kernel
theorem dX10_fits_39 : decode cX10_fits 39 = .ok (.aload_n 0, 1) := by decide +kernel
theorem dX10_fits_40 : decode cX10_fits 40 = .ok (.getfield 48, 3) := by decide +kernel
theorem dX10_fits_43 : decode cX10_fits 43 = .ok (.iload_n 1, 1) := by decide +kernel
theorem dX10_fits_44 : decode cX10_fits 44 = .ok (.iaload, 1) := by decide +kernel
theorem dX10_fits_45 : decode cX10_fits 45 = .ok (.iconst 1, 1) := by decide +kernel
theorem dX10_fits_46 : decode cX10_fits 46 = .ok (.isub, 1) := by decide +kernel
theorem dX10_fits_47 : decode cX10_fits 47 = .ok (.invokestatic 151, 3) := by decide +kernel
theorem dX10_fits_50 : decode cX10_fits 50 = .ok (.ifCond .eq 17, 3) := by decide +kernel
theorem dX10_fits_53 : decode cX10_fits 53 = .ok (.aload_n 0, 1) := by decide +kernel
theorem dX10_fits_54 : decode cX10_fits 54 = .ok (.iload_n 1, 1) := by decide +kernel
theorem dX10_fits_55 : decode cX10_fits 55 = .ok (.iload_n 2, 1) := by decide +kernel
theorem dX10_fits_56 : decode cX10_fits 56 = .ok (.iload_n 3, 1) := by decide +kernel
theorem dX10_fits_57 : decode cX10_fits 57 = .ok (.invokevirtual 274, 3) := by decide +kernel
theorem dX10_fits_60 : decode cX10_fits 60 = .ok (.ifCond .eq 7, 3) := by decide +kernel
theorem dX10_fits_63 : decode cX10_fits 63 = .ok (.iconst 1, 1) := by decide +kernel
theorem dX10_fits_64 : decode cX10_fits 64 = .ok (.goto 4, 3) := by decide +kernel
theorem dX10_fits_67 : decode cX10_fits 67 = .ok (.iconst 0, 1) := by decide +kernel
theorem dX10_fits_68 : decode cX10_fits 68 = .ok (.ireturn, 1) := by decide +kernel
theorem dX10_match_0 : decode cX10_match 0 = .ok (.aload_n 0, 1) := by decide +kernel
theorem dX10_match_1 : decode cX10_match 1 = .ok (.iconst 0, 1) := by decide +kernel
theorem dX10_match_2 : decode cX10_match 2 = .ok (.putfield 142, 3) := by decide +kernel
theorem dX10_match_5 : decode cX10_match 5 = .ok (.aload_n 0, 1) := by decide +kernel
theorem dX10_match_6 : decode cX10_match 6 = .ok (.iload_n 1, 1) := by decide +kernel
theorem dX10_match_7 : decode cX10_match 7 = .ok (.iconst 0, 1) := by decide +kernel
theorem dX10_match_8 : decode cX10_match 8 = .ok (.aload_n 0, 1) := by decide +kernel
theorem dX10_match_9 : decode cX10_match 9 = .ok (.getfield 277, 3) := by decide +kernel
theorem dX10_match_12 : decode cX10_match 12 = .ok (.iconst 1, 1) := by decide +kernel
theorem dX10_match_13 : decode cX10_match 13 = .ok (.isub, 1) := by decide +kernel
theorem dX10_match_14 : decode cX10_match 14 = .ok (.invokestatic 151, 3) := by decide +kernel
theorem dX10_match_17 : decode cX10_match 17 = .ok (.ifCond .ne 7, 3) := by decide +kernel
theorem dX10_match_20 : decode cX10_match 20 = .ok (.iconst 1, 1) := by decide +kernel
theorem dX10_match_21 : decode cX10_match 21 = .ok (.goto 4, 3) := by decide +kernel
theorem dX10_match_24 : decode cX10_match 24 = .ok (.iconst 0, 1) := by decide +kernel
theorem dX10_match_25 : decode cX10_match 25 = .ok (.iconst 1, 1) := by decide +kernel
theorem dX10_match_26 : decode cX10_match 26 = .ok (.invokevirtual 309, 3) := by decide +kernel
theorem dX10_match_29 : decode cX10_match 29 = .ok (.ifCond .ne 25, 3) := by decide +kernel
theorem dX10_match_32 : decode cX10_match 32 = .ok (.aload_n 0, 1) := by decide +kernel
theorem dX10_match_33 : decode cX10_match 33 = .ok (.iload_n 2, 1) := by decide +kernel
theorem dX10_match_34 : decode cX10_match 34 = .ok (.iconst 0, 1) := by decide +kernel
theorem dX10_match_35 : decode cX10_match 35 = .ok (.iconst 2, 1) := by decide +kernel
theorem dX10_match_36 : decode cX10_match 36 = .ok (.invokestatic 151, 3) := by decide +kernel
theorem dX10_match_39 : decode cX10_match 39 = .ok (.ifCond .ne 7, 3) := by decide +kernel
theorem dX10_match_42 : decode cX10_match 42 = .ok (.iconst 1, 1) := by decide +kernel
theorem dX10_match_43 : decode cX10_match 43 = .ok (.goto 4, 3) := by decide +kernel
theorem dX10_match_46 : decode cX10_match 46 = .ok (.iconst 0, 1) := by decide +kernel
theorem dX10_match_47 : decode cX10_match 47 = .ok (.iconst 2, 1) := by decide +kernel
theorem dX10_match_48 : decode cX10_match 48 = .ok (.invokevirtual 309, 3) := by decide +kernel
theorem dX10_match_51 : decode cX10_match 51 = .ok (.ifCond .eq 5, 3) := by decide +kernel
theorem dX10_match_54 : decode cX10_match 54 = .ok (.iconst 0, 1) := by decide +kernel
theorem dX10_match_55 : decode cX10_match 55 = .ok (.ireturn, 1) := by decide +kernel
theorem dX10_match_56 : decode cX10_match 56 = .ok (.iload_n 2, 1) := by decide +kernel
theorem dX10_match_57 : decode cX10_match 57 = .ok (.ifCond .ne 12, 3) := by decide +kernel
theorem dX10_match_60 : decode cX10_match 60 = .ok (.aload_n 0, 1) := by decide +kernel
theorem dX10_match_61 : decode cX10_match 61 = .ok (.getfield 85, 3) := by decide +kernel
theorem dX10_match_64 : decode cX10_match 64 = .ok (.iload_n 1, 1) := by decide +kernel
theorem dX10_match_65 : decode cX10_match 65 = .ok (.iaload, 1) := by decide +kernel
theorem dX10_match_66 : decode cX10_match 66 = .ok (.goto 23, 3) := by decide +kernel
theorem dX10_match_69 : decode cX10_match 69 = .ok (.iload_n 2, 1) := by decide +kernel
theorem dX10_match_70 : decode cX10_match 70 = .ok (.iconst 1, 1) := by decide +kernel
theorem dX10_match_71 : decode cX10_match 71 = .ok (.if_icmp .ne 12, 3) := by decide +kernel
theorem dX10_match_74 : decode cX10_match 74 = .ok (.aload_n 0, 1) := by decide +kernel
theorem dX10_match_75 : decode cX10_match 75 = .ok (.getfield 88, 3) := by decide +kernel
theorem dX10_match_78 : decode cX10_match 78 = .ok (.iload_n 1, 1) := by decide +kernel
theorem dX10_match_79 : decode cX10_match 79 = .ok (.iaload, 1) := by decide +kernel
theorem dX10_match_80 : decode cX10_match 80 = .ok (.goto 9, 3) := by decide +kernel
theorem dX10_match_83 : decode cX10_match 83 = .ok (.aload_n 0, 1) := by decide +kernel
theorem dX10_match_84 : decode cX10_match 84 = .ok (.getfield 91, 3) := by decide +kernel
theorem dX10_match_87 : decode cX10_match 87 = .ok (.iload_n 1, 1) := by decide +kernel
theorem dX10_match_88 : decode cX10_match 88 = .ok (.iaload, 1) := by decide +kernel
theorem dX10_match_89 : decode cX10_match 89 = .ok (.ireturn, 1) := by decide +kernel
theorem dX10_count_0 : decode cX10_count 0 = .ok (.aload_n 0, 1) := by decide +kernel
theorem dX10_count_1 : decode cX10_count 1 = .ok (.iconst 0, 1) := by decide +kernel
theorem dX10_count_2 : decode cX10_count 2 = .ok (.putfield 142, 3) := by decide +kernel
theorem dX10_count_5 : decode cX10_count 5 = .ok (.aload_n 0, 1) := by decide +kernel
theorem dX10_count_6 : decode cX10_count 6 = .ok (.invokevirtual 364, 3) := by decide +kernel
theorem dX10_count_9 : decode cX10_count 9 = .ok (.iload_n 1, 1) := by decide +kernel
theorem dX10_count_10 : decode cX10_count 10 = .ok (.tableswitch 159 0 14 #[74, 79, 84, 89, 94, 99, 104, 109, 114, 119, 124, 130, 144, 149, 154], 74) := by decide +kernel
theorem dX10_count_84 : decode cX10_count 84 = .ok (.aload_n 0, 1) := by decide +kernel
theorem dX10_count_85 : decode cX10_count 85 = .ok (.getfield 148, 3) := by decide +kernel
theorem dX10_count_88 : decode cX10_count 88 = .ok (.ireturn, 1) := by decide +kernel
theorem dX10_count_89 : decode cX10_count 89 = .ok (.aload_n 0, 1) := by decide +kernel
theorem dX10_count_90 : decode cX10_count 90 = .ok (.getfield 155, 3) := by decide +kernel
theorem dX10_count_93 : decode cX10_count 93 = .ok (.ireturn, 1) := by decide +kernel
theorem dX10_count_94 : decode cX10_count 94 = .ok (.aload_n 0, 1) := by decide +kernel
theorem dX10_count_95 : decode cX10_count 95 = .ok (.getfield 179, 3) := by decide +kernel
theorem dX10_count_98 : decode cX10_count 98 = .ok (.ireturn, 1) := by decide +kernel
theorem dX10_count_99 : decode cX10_count 99 = .ok (.aload_n 0, 1) := by decide +kernel
theorem dX10_count_100 : decode cX10_count 100 = .ok (.getfield 203, 3) := by decide +kernel
theorem dX10_count_103 : decode cX10_count 103 = .ok (.ireturn, 1) := by decide +kernel
theorem dX10_count_104 : decode cX10_count 104 = .ok (.aload_n 0, 1) := by decide +kernel
theorem dX10_count_105 : decode cX10_count 105 = .ok (.getfield 271, 3) := by decide +kernel
theorem dX10_count_108 : decode cX10_count 108 = .ok (.ireturn, 1) := by decide +kernel
theorem dX10_count_109 : decode cX10_count 109 = .ok (.aload_n 0, 1) := by decide +kernel
theorem dX10_count_110 : decode cX10_count 110 = .ok (.getfield 277, 3) := by decide +kernel
theorem dX10_count_113 : decode cX10_count 113 = .ok (.ireturn, 1) := by decide +kernel
theorem dX10_count_114 : decode cX10_count 114 = .ok (.aload_n 0, 1) := by decide +kernel
theorem dX10_count_115 : decode cX10_count 115 = .ok (.getfield 112, 3) := by decide +kernel
theorem dX10_count_118 : decode cX10_count 118 = .ok (.ireturn, 1) := by decide +kernel
theorem dX10_count_119 : decode cX10_count 119 = .ok (.aload_n 0, 1) := by decide +kernel
theorem dX10_count_120 : decode cX10_count 120 = .ok (.getfield 115, 3) := by decide +kernel
theorem dX10_count_123 : decode cX10_count 123 = .ok (.ireturn, 1) := by decide +kernel
theorem dX10_count_124 : decode cX10_count 124 = .ok (.aload_n 0, 1) := by decide +kernel
theorem dX10_count_125 : decode cX10_count 125 = .ok (.getfield 118, 3) := by decide +kernel
theorem dX10_count_128 : decode cX10_count 128 = .ok (.ireturn, 1) := by decide +kernel
theorem dX10_count_129 : decode cX10_count 129 = .ok (.aload_n 0, 1) := by decide +kernel
theorem dX10_count_130 : decode cX10_count 130 = .ok (.getfield 221, 3) := by decide +kernel
theorem dX10_count_133 : decode cX10_count 133 = .ok (.ireturn, 1) := by decide +kernel
theorem dX10_count_134 : decode cX10_count 134 = .ok (.aload_n 0, 1) := by decide +kernel
theorem dX10_count_135 : decode cX10_count 135 = .ok (.iconst (-1), 1) := by decide +kernel
theorem dX10_count_136 : decode cX10_count 136 = .ok (.invokevirtual 473, 3) := by decide +kernel
theorem dX10_count_139 : decode cX10_count 139 = .ok (.ireturn, 1) := by decide +kernel
theorem dX10_count_140 : decode cX10_count 140 = .ok (.aload_n 0, 1) := by decide +kernel
theorem dX10_count_141 : decode cX10_count 141 = .ok (.getfield 97, 3) := by decide +kernel
theorem dX10_count_144 : decode cX10_count 144 = .ok (.iconst 1, 1) := by decide +kernel
theorem dX10_count_145 : decode cX10_count 145 = .ok (.aload_n 0, 1) := by decide +kernel
theorem dX10_count_146 : decode cX10_count 146 = .ok (.getfield 203, 3) := by decide +kernel
theorem dX10_count_149 : decode cX10_count 149 = .ok (.ishl, 1) := by decide +kernel
theorem dX10_count_150 : decode cX10_count 150 = .ok (.iconst 1, 1) := by decide +kernel
theorem dX10_count_151 : decode cX10_count 151 = .ok (.isub, 1) := by decide +kernel
theorem dX10_count_152 : decode cX10_count 152 = .ok (.iaload, 1) := by decide +kernel
theorem dX10_count_153 : decode cX10_count 153 = .ok (.ireturn, 1) := by decide +kernel
theorem dX10_count_154 : decode cX10_count 154 = .ok (.aload_n 0, 1) := by decide +kernel
theorem dX10_count_155 : decode cX10_count 155 = .ok (.getfield 396, 3) := by decide +kernel
theorem dX10_count_158 : decode cX10_count 158 = .ok (.ireturn, 1) := by decide +kernel
theorem dX10_count_159 : decode cX10_count 159 = .ok (.aload_n 0, 1) := by decide +kernel
theorem dX10_count_160 : decode cX10_count 160 = .ok (.invokevirtual 491, 3) := by decide +kernel
theorem dX10_count_163 : decode cX10_count 163 = .ok (.ireturn, 1) := by decide +kernel
theorem dX10_count_164 : decode cX10_count 164 = .ok (.aload_n 0, 1) := by decide +kernel
theorem dX10_count_165 : decode cX10_count 165 = .ok (.invokevirtual 494, 3) := by decide +kernel
theorem dX10_count_168 : decode cX10_count 168 = .ok (.ireturn, 1) := by decide +kernel
theorem dX10_count_169 : decode cX10_count 169 = .ok (.iconst (-1), 1) := by decide +kernel
theorem dX10_count_170 : decode cX10_count 170 = .ok (.ireturn, 1) := by decide +kernel
