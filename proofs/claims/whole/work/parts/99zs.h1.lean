/-! H1: the helpers: links, codes, decode rows -/
theorem kl_13 : Cond.classLink RL 13 (exN 3) ∈ gw := in_g4 65 (by decide +kernel) rfl
theorem kl_19 : Cond.classLink RL 19 (exN 2) ∈ gw := in_g5 2 (by decide +kernel) rfl
theorem kl_24 : Cond.classLink RL 24 (exN 1) ∈ gw := in_g5 37 (by decide +kernel) rfl
theorem kl_65 : Cond.classLink RL 65 (exN 4) ∈ gw := in_g6 26 (by decide +kernel) rfl
theorem kc_3 : Cond.castable (exN 3) (exN 3) ∈ nw := in_n4 165 (by decide +kernel) rfl
theorem kc_2 : Cond.castable (exN 2) (exN 2) ∈ nw := in_n5 12 (by decide +kernel) rfl
theorem kc_1 : Cond.castable (exN 1) (exN 1) ∈ nw := in_n5 47 (by decide +kernel) rfl
theorem kc_4 : Cond.castable (exN 4) (exN 4) ∈ nw := in_n6 33 (by decide +kernel) rfl
theorem my_X9_query : MY yX9_query cX9_query 1 (some .int) 0 := ⟨in_g1 1 (by decide +kernel) rfl, in_g4 69 (by decide +kernel) rfl, by decide, by decide, by decide +kernel, by decide⟩
theorem mi_X9_query : MI yX9_query := ⟨in_g4 67 (by decide +kernel) rfl, in_g4 68 (by decide +kernel) rfl⟩
theorem myw_query : MYw yL_query cL_query 3 (some .int) [(0, 8, 11, 13)] 2 := ⟨in_g1 0 (by decide +kernel) rfl, in_g4 64 (by decide +kernel) rfl, by decide, by decide, by decide +kernel, by decide⟩
theorem ms_L_query : Cond.static yL_query ∈ gw := in_g4 63 (by decide +kernel) rfl
theorem dL_query_0 : decode cL_query 0 = .ok (.aload_n 1, 1) := by decide +kernel
theorem dL_query_1 : decode cL_query 1 = .ok (.iconst 0, 1) := by decide +kernel
theorem dL_query_2 : decode cL_query 2 = .ok (.aload_n 0, 1) := by decide +kernel
theorem dL_query_3 : decode cL_query 3 = .ok (.invokevirtual 7, 3) := by decide +kernel
theorem ml_RL_7 : Cond.methodLink RL 7 yX9_query ∈ gw := in_g4 66 (by decide +kernel) rfl
theorem dL_query_6 : decode cL_query 6 = .ok (.i2l, 1) := by decide +kernel
theorem dL_query_7 : decode cL_query 7 = .ok (.lastore, 1) := by decide +kernel
theorem dL_query_8 : decode cL_query 8 = .ok (.goto 6, 3) := by decide +kernel
theorem dL_query_11 : decode cL_query 11 = .ok (.astore_n 2, 1) := by decide +kernel
theorem dL_query_12 : decode cL_query 12 = .ok (.iconst 1, 1) := by decide +kernel
theorem dL_query_13 : decode cL_query 13 = .ok (.ireturn, 1) := by decide +kernel
theorem dL_query_14 : decode cL_query 14 = .ok (.iconst 0, 1) := by decide +kernel
theorem dL_query_15 : decode cL_query 15 = .ok (.ireturn, 1) := by decide +kernel
theorem my_X9_tell : MY yX9_tell cX9_tell 4 (some .int) 2 := ⟨in_g1 1 (by decide +kernel) rfl, in_g5 6 (by decide +kernel) rfl, by decide, by decide, by decide +kernel, by decide⟩
theorem mi_X9_tell : MI yX9_tell := ⟨in_g5 4 (by decide +kernel) rfl, in_g5 5 (by decide +kernel) rfl⟩
theorem myw_tell : MYw yL_tell cL_tell 5 (some .int) [(0, 10, 13, 19), (0, 10, 17, 13)] 4 := ⟨in_g1 0 (by decide +kernel) rfl, in_g5 1 (by decide +kernel) rfl, by decide, by decide, by decide +kernel, by decide⟩
theorem ms_L_tell : Cond.static yL_tell ∈ gw := in_g5 0 (by decide +kernel) rfl
theorem dL_tell_0 : decode cL_tell 0 = .ok (.aload_n 3, 1) := by decide +kernel
theorem dL_tell_1 : decode cL_tell 1 = .ok (.iconst 0, 1) := by decide +kernel
theorem dL_tell_2 : decode cL_tell 2 = .ok (.aload_n 0, 1) := by decide +kernel
theorem dL_tell_3 : decode cL_tell 3 = .ok (.iload_n 1, 1) := by decide +kernel
theorem dL_tell_4 : decode cL_tell 4 = .ok (.iload_n 2, 1) := by decide +kernel
theorem dL_tell_5 : decode cL_tell 5 = .ok (.invokevirtual 15, 3) := by decide +kernel
theorem ml_RL_15 : Cond.methodLink RL 15 yX9_tell ∈ gw := in_g5 3 (by decide +kernel) rfl
theorem dL_tell_8 : decode cL_tell 8 = .ok (.i2l, 1) := by decide +kernel
theorem dL_tell_9 : decode cL_tell 9 = .ok (.lastore, 1) := by decide +kernel
theorem dL_tell_10 : decode cL_tell 10 = .ok (.goto 11, 3) := by decide +kernel
theorem dL_tell_13 : decode cL_tell 13 = .ok (.astore 4, 2) := by decide +kernel
theorem dL_tell_15 : decode cL_tell 15 = .ok (.iconst 1, 1) := by decide +kernel
theorem dL_tell_16 : decode cL_tell 16 = .ok (.ireturn, 1) := by decide +kernel
theorem dL_tell_17 : decode cL_tell 17 = .ok (.astore 4, 2) := by decide +kernel
theorem dL_tell_19 : decode cL_tell 19 = .ok (.iconst 2, 1) := by decide +kernel
theorem dL_tell_20 : decode cL_tell 20 = .ok (.ireturn, 1) := by decide +kernel
theorem dL_tell_21 : decode cL_tell 21 = .ok (.iconst 0, 1) := by decide +kernel
theorem dL_tell_22 : decode cL_tell 22 = .ok (.ireturn, 1) := by decide +kernel
theorem my_X9_word : MY yX9_word cX9_word 3 (some .int) 2 := ⟨in_g1 1 (by decide +kernel) rfl, in_g5 41 (by decide +kernel) rfl, by decide, by decide, by decide +kernel, by decide⟩
theorem mi_X9_word : MI yX9_word := ⟨in_g5 39 (by decide +kernel) rfl, in_g5 40 (by decide +kernel) rfl⟩
theorem myw_word : MYw yL_word cL_word 5 (some .int) [(0, 10, 13, 24), (0, 10, 17, 19)] 4 := ⟨in_g1 0 (by decide +kernel) rfl, in_g5 36 (by decide +kernel) rfl, by decide, by decide, by decide +kernel, by decide⟩
theorem ms_L_word : Cond.static yL_word ∈ gw := in_g5 35 (by decide +kernel) rfl
theorem dL_word_0 : decode cL_word 0 = .ok (.aload_n 3, 1) := by decide +kernel
theorem dL_word_1 : decode cL_word 1 = .ok (.iconst 0, 1) := by decide +kernel
theorem dL_word_2 : decode cL_word 2 = .ok (.aload_n 0, 1) := by decide +kernel
theorem dL_word_3 : decode cL_word 3 = .ok (.iload_n 1, 1) := by decide +kernel
theorem dL_word_4 : decode cL_word 4 = .ok (.iload_n 2, 1) := by decide +kernel
theorem dL_word_5 : decode cL_word 5 = .ok (.invokevirtual 21, 3) := by decide +kernel
theorem ml_RL_21 : Cond.methodLink RL 21 yX9_word ∈ gw := in_g5 38 (by decide +kernel) rfl
theorem dL_word_8 : decode cL_word 8 = .ok (.i2l, 1) := by decide +kernel
theorem dL_word_9 : decode cL_word 9 = .ok (.lastore, 1) := by decide +kernel
theorem dL_word_10 : decode cL_word 10 = .ok (.goto 11, 3) := by decide +kernel
theorem dL_word_13 : decode cL_word 13 = .ok (.astore 4, 2) := by decide +kernel
theorem dL_word_15 : decode cL_word 15 = .ok (.iconst 1, 1) := by decide +kernel
theorem dL_word_16 : decode cL_word 16 = .ok (.ireturn, 1) := by decide +kernel
theorem dL_word_17 : decode cL_word 17 = .ok (.astore 4, 2) := by decide +kernel
theorem dL_word_19 : decode cL_word 19 = .ok (.iconst 2, 1) := by decide +kernel
theorem dL_word_20 : decode cL_word 20 = .ok (.ireturn, 1) := by decide +kernel
theorem dL_word_21 : decode cL_word 21 = .ok (.iconst 0, 1) := by decide +kernel
theorem dL_word_22 : decode cL_word 22 = .ok (.ireturn, 1) := by decide +kernel
theorem my_X9_sentence : MY yX9_sentence cX9_sentence 3 (some .int) 2 := ⟨in_g1 1 (by decide +kernel) rfl, in_g5 71 (by decide +kernel) rfl, by decide, by decide, by decide +kernel, by decide⟩
theorem mi_X9_sentence : MI yX9_sentence := ⟨in_g5 69 (by decide +kernel) rfl, in_g5 70 (by decide +kernel) rfl⟩
theorem myw_sentence : MYw yL_sentence cL_sentence 5 (some .int) [(0, 10, 13, 24), (0, 10, 17, 19)] 4 := ⟨in_g1 0 (by decide +kernel) rfl, in_g5 67 (by decide +kernel) rfl, by decide, by decide, by decide +kernel, by decide⟩
theorem ms_L_sentence : Cond.static yL_sentence ∈ gw := in_g5 66 (by decide +kernel) rfl
theorem dL_sentence_0 : decode cL_sentence 0 = .ok (.aload_n 3, 1) := by decide +kernel
theorem dL_sentence_1 : decode cL_sentence 1 = .ok (.iconst 0, 1) := by decide +kernel
theorem dL_sentence_2 : decode cL_sentence 2 = .ok (.aload_n 0, 1) := by decide +kernel
theorem dL_sentence_3 : decode cL_sentence 3 = .ok (.iload_n 1, 1) := by decide +kernel
theorem dL_sentence_4 : decode cL_sentence 4 = .ok (.iload_n 2, 1) := by decide +kernel
theorem dL_sentence_5 : decode cL_sentence 5 = .ok (.invokevirtual 26, 3) := by decide +kernel
theorem ml_RL_26 : Cond.methodLink RL 26 yX9_sentence ∈ gw := in_g5 68 (by decide +kernel) rfl
theorem dL_sentence_8 : decode cL_sentence 8 = .ok (.i2l, 1) := by decide +kernel
theorem dL_sentence_9 : decode cL_sentence 9 = .ok (.lastore, 1) := by decide +kernel
theorem dL_sentence_10 : decode cL_sentence 10 = .ok (.goto 11, 3) := by decide +kernel
theorem dL_sentence_13 : decode cL_sentence 13 = .ok (.astore 4, 2) := by decide +kernel
theorem dL_sentence_15 : decode cL_sentence 15 = .ok (.iconst 1, 1) := by decide +kernel
theorem dL_sentence_16 : decode cL_sentence 16 = .ok (.ireturn, 1) := by decide +kernel
theorem dL_sentence_17 : decode cL_sentence 17 = .ok (.astore 4, 2) := by decide +kernel
theorem dL_sentence_19 : decode cL_sentence 19 = .ok (.iconst 2, 1) := by decide +kernel
theorem dL_sentence_20 : decode cL_sentence 20 = .ok (.ireturn, 1) := by decide +kernel
theorem dL_sentence_21 : decode cL_sentence 21 = .ok (.iconst 0, 1) := by decide +kernel
theorem dL_sentence_22 : decode cL_sentence 22 = .ok (.ireturn, 1) := by decide +kernel
theorem my_X9_item : MY yX9_item cX9_item 3 (some .int) 2 := ⟨in_g1 1 (by decide +kernel) rfl, in_g5 97 (by decide +kernel) rfl, by decide, by decide, by decide +kernel, by decide⟩
theorem mi_X9_item : MI yX9_item := ⟨in_g5 95 (by decide +kernel) rfl, in_g5 96 (by decide +kernel) rfl⟩
theorem myw_item : MYw yL_item cL_item 5 (some .int) [(0, 10, 13, 24), (0, 10, 17, 19)] 4 := ⟨in_g1 0 (by decide +kernel) rfl, in_g5 93 (by decide +kernel) rfl, by decide, by decide, by decide +kernel, by decide⟩
theorem ms_L_item : Cond.static yL_item ∈ gw := in_g5 92 (by decide +kernel) rfl
theorem dL_item_0 : decode cL_item 0 = .ok (.aload_n 3, 1) := by decide +kernel
theorem dL_item_1 : decode cL_item 1 = .ok (.iconst 0, 1) := by decide +kernel
theorem dL_item_2 : decode cL_item 2 = .ok (.aload_n 0, 1) := by decide +kernel
theorem dL_item_3 : decode cL_item 3 = .ok (.iload_n 1, 1) := by decide +kernel
theorem dL_item_4 : decode cL_item 4 = .ok (.iload_n 2, 1) := by decide +kernel
theorem dL_item_5 : decode cL_item 5 = .ok (.invokevirtual 29, 3) := by decide +kernel
theorem ml_RL_29 : Cond.methodLink RL 29 yX9_item ∈ gw := in_g5 94 (by decide +kernel) rfl
theorem dL_item_8 : decode cL_item 8 = .ok (.i2l, 1) := by decide +kernel
theorem dL_item_9 : decode cL_item 9 = .ok (.lastore, 1) := by decide +kernel
theorem dL_item_10 : decode cL_item 10 = .ok (.goto 11, 3) := by decide +kernel
theorem dL_item_13 : decode cL_item 13 = .ok (.astore 4, 2) := by decide +kernel
theorem dL_item_15 : decode cL_item 15 = .ok (.iconst 1, 1) := by decide +kernel
theorem dL_item_16 : decode cL_item 16 = .ok (.ireturn, 1) := by decide +kernel
theorem dL_item_17 : decode cL_item 17 = .ok (.astore 4, 2) := by decide +kernel
theorem dL_item_19 : decode cL_item 19 = .ok (.iconst 2, 1) := by decide +kernel
theorem dL_item_20 : decode cL_item 20 = .ok (.ireturn, 1) := by decide +kernel
theorem dL_item_21 : decode cL_item 21 = .ok (.iconst 0, 1) := by decide +kernel
theorem dL_item_22 : decode cL_item 22 = .ok (.ireturn, 1) := by decide +kernel
theorem my_X9_fits : MY yX9_fits cX9_fits 4 (some .boolean) 3 := ⟨in_g1 1 (by decide +kernel) rfl, in_g5 116 (by decide +kernel) rfl, by decide, by decide, by decide +kernel, by decide⟩
theorem mi_X9_fits : MI yX9_fits := ⟨in_g5 114 (by decide +kernel) rfl, in_g5 115 (by decide +kernel) rfl⟩
theorem myw_fits : MYw yL_fits cL_fits 6 (some .int) [(0, 19, 22, 24)] 5 := ⟨in_g1 0 (by decide +kernel) rfl, in_g5 112 (by decide +kernel) rfl, by decide, by decide, by decide +kernel, by decide⟩
theorem ms_L_fits : Cond.static yL_fits ∈ gw := in_g5 111 (by decide +kernel) rfl
theorem dL_fits_0 : decode cL_fits 0 = .ok (.aload 4, 2) := by decide +kernel
theorem dL_fits_2 : decode cL_fits 2 = .ok (.iconst 0, 1) := by decide +kernel
theorem dL_fits_3 : decode cL_fits 3 = .ok (.aload_n 0, 1) := by decide +kernel
theorem dL_fits_4 : decode cL_fits 4 = .ok (.iload_n 1, 1) := by decide +kernel
theorem dL_fits_5 : decode cL_fits 5 = .ok (.iload_n 2, 1) := by decide +kernel
theorem dL_fits_6 : decode cL_fits 6 = .ok (.iload_n 3, 1) := by decide +kernel
theorem dL_fits_7 : decode cL_fits 7 = .ok (.invokevirtual 32, 3) := by decide +kernel
theorem ml_RL_32 : Cond.methodLink RL 32 yX9_fits ∈ gw := in_g5 113 (by decide +kernel) rfl
theorem dL_fits_10 : decode cL_fits 10 = .ok (.ifCond .eq 7, 3) := by decide +kernel
theorem dL_fits_13 : decode cL_fits 13 = .ok (.lconst 1, 1) := by decide +kernel
theorem dL_fits_14 : decode cL_fits 14 = .ok (.goto 4, 3) := by decide +kernel
theorem dL_fits_17 : decode cL_fits 17 = .ok (.lconst 0, 1) := by decide +kernel
theorem dL_fits_18 : decode cL_fits 18 = .ok (.lastore, 1) := by decide +kernel
theorem dL_fits_19 : decode cL_fits 19 = .ok (.goto 7, 3) := by decide +kernel
theorem dL_fits_22 : decode cL_fits 22 = .ok (.astore 5, 2) := by decide +kernel
theorem dL_fits_24 : decode cL_fits 24 = .ok (.iconst 1, 1) := by decide +kernel
theorem dL_fits_25 : decode cL_fits 25 = .ok (.ireturn, 1) := by decide +kernel
theorem dL_fits_26 : decode cL_fits 26 = .ok (.iconst 0, 1) := by decide +kernel
theorem dL_fits_27 : decode cL_fits 27 = .ok (.ireturn, 1) := by decide +kernel
theorem my_X9_match : MY yX9_match cX9_match 5 (some .int) 2 := ⟨in_g1 1 (by decide +kernel) rfl, in_g5 124 (by decide +kernel) rfl, by decide, by decide, by decide +kernel, by decide⟩
theorem mi_X9_match : MI yX9_match := ⟨in_g5 122 (by decide +kernel) rfl, in_g5 123 (by decide +kernel) rfl⟩
theorem myw_match : MYw yL_match cL_match 5 (some .int) [(0, 10, 13, 24), (0, 10, 17, 19)] 4 := ⟨in_g1 0 (by decide +kernel) rfl, in_g5 120 (by decide +kernel) rfl, by decide, by decide, by decide +kernel, by decide⟩
theorem ms_L_match : Cond.static yL_match ∈ gw := in_g5 119 (by decide +kernel) rfl
theorem dL_match_0 : decode cL_match 0 = .ok (.aload_n 3, 1) := by decide +kernel
theorem dL_match_1 : decode cL_match 1 = .ok (.iconst 0, 1) := by decide +kernel
theorem dL_match_2 : decode cL_match 2 = .ok (.aload_n 0, 1) := by decide +kernel
theorem dL_match_3 : decode cL_match 3 = .ok (.iload_n 1, 1) := by decide +kernel
theorem dL_match_4 : decode cL_match 4 = .ok (.iload_n 2, 1) := by decide +kernel
theorem dL_match_5 : decode cL_match 5 = .ok (.invokevirtual 36, 3) := by decide +kernel
theorem ml_RL_36 : Cond.methodLink RL 36 yX9_match ∈ gw := in_g5 121 (by decide +kernel) rfl
theorem dL_match_8 : decode cL_match 8 = .ok (.i2l, 1) := by decide +kernel
theorem dL_match_9 : decode cL_match 9 = .ok (.lastore, 1) := by decide +kernel
theorem dL_match_10 : decode cL_match 10 = .ok (.goto 11, 3) := by decide +kernel
theorem dL_match_13 : decode cL_match 13 = .ok (.astore 4, 2) := by decide +kernel
theorem dL_match_15 : decode cL_match 15 = .ok (.iconst 1, 1) := by decide +kernel
theorem dL_match_16 : decode cL_match 16 = .ok (.ireturn, 1) := by decide +kernel
theorem dL_match_17 : decode cL_match 17 = .ok (.astore 4, 2) := by decide +kernel
theorem dL_match_19 : decode cL_match 19 = .ok (.iconst 2, 1) := by decide +kernel
theorem dL_match_20 : decode cL_match 20 = .ok (.ireturn, 1) := by decide +kernel
theorem dL_match_21 : decode cL_match 21 = .ok (.iconst 0, 1) := by decide +kernel
theorem dL_match_22 : decode cL_match 22 = .ok (.ireturn, 1) := by decide +kernel
theorem my_X9_window : MY yX9_window cX9_window 4 (some .int) 3 := ⟨in_g1 1 (by decide +kernel) rfl, in_g5 140 (by decide +kernel) rfl, by decide, by decide, by decide +kernel, by decide⟩
theorem mi_X9_window : MI yX9_window := ⟨in_g5 138 (by decide +kernel) rfl, in_g5 139 (by decide +kernel) rfl⟩
theorem myw_window : MYw yL_window cL_window 6 (some .int) [(0, 12, 15, 19), (0, 12, 19, 13)] 5 := ⟨in_g1 0 (by decide +kernel) rfl, in_g5 136 (by decide +kernel) rfl, by decide, by decide, by decide +kernel, by decide⟩
theorem ms_L_window : Cond.static yL_window ∈ gw := in_g5 135 (by decide +kernel) rfl
theorem dL_window_0 : decode cL_window 0 = .ok (.aload 4, 2) := by decide +kernel
theorem dL_window_2 : decode cL_window 2 = .ok (.iconst 0, 1) := by decide +kernel
theorem dL_window_3 : decode cL_window 3 = .ok (.aload_n 0, 1) := by decide +kernel
theorem dL_window_4 : decode cL_window 4 = .ok (.iload_n 1, 1) := by decide +kernel
theorem dL_window_5 : decode cL_window 5 = .ok (.iload_n 2, 1) := by decide +kernel
theorem dL_window_6 : decode cL_window 6 = .ok (.iload_n 3, 1) := by decide +kernel
theorem dL_window_7 : decode cL_window 7 = .ok (.invokevirtual 39, 3) := by decide +kernel
theorem ml_RL_39 : Cond.methodLink RL 39 yX9_window ∈ gw := in_g5 137 (by decide +kernel) rfl
theorem dL_window_10 : decode cL_window 10 = .ok (.i2l, 1) := by decide +kernel
theorem dL_window_11 : decode cL_window 11 = .ok (.lastore, 1) := by decide +kernel
theorem dL_window_12 : decode cL_window 12 = .ok (.goto 11, 3) := by decide +kernel
theorem dL_window_15 : decode cL_window 15 = .ok (.astore 5, 2) := by decide +kernel
theorem dL_window_17 : decode cL_window 17 = .ok (.iconst 1, 1) := by decide +kernel
theorem dL_window_18 : decode cL_window 18 = .ok (.ireturn, 1) := by decide +kernel
theorem dL_window_19 : decode cL_window 19 = .ok (.astore 5, 2) := by decide +kernel
theorem dL_window_21 : decode cL_window 21 = .ok (.iconst 2, 1) := by decide +kernel
theorem dL_window_22 : decode cL_window 22 = .ok (.ireturn, 1) := by decide +kernel
theorem dL_window_23 : decode cL_window 23 = .ok (.iconst 0, 1) := by decide +kernel
theorem dL_window_24 : decode cL_window 24 = .ok (.ireturn, 1) := by decide +kernel
theorem my_X9_least : MY yX9_least cX9_least 3 (some .int) 2 := ⟨in_g1 1 (by decide +kernel) rfl, in_g5 182 (by decide +kernel) rfl, by decide, by decide, by decide +kernel, by decide⟩
theorem mi_X9_least : MI yX9_least := ⟨in_g5 180 (by decide +kernel) rfl, in_g5 181 (by decide +kernel) rfl⟩
theorem myw_least : MYw yL_least cL_least 5 (some .int) [(0, 10, 13, 19), (0, 10, 17, 13)] 4 := ⟨in_g1 0 (by decide +kernel) rfl, in_g5 178 (by decide +kernel) rfl, by decide, by decide, by decide +kernel, by decide⟩
theorem ms_L_least : Cond.static yL_least ∈ gw := in_g5 177 (by decide +kernel) rfl
theorem dL_least_0 : decode cL_least 0 = .ok (.aload_n 3, 1) := by decide +kernel
theorem dL_least_1 : decode cL_least 1 = .ok (.iconst 0, 1) := by decide +kernel
theorem dL_least_2 : decode cL_least 2 = .ok (.aload_n 0, 1) := by decide +kernel
theorem dL_least_3 : decode cL_least 3 = .ok (.iload_n 1, 1) := by decide +kernel
theorem dL_least_4 : decode cL_least 4 = .ok (.iload_n 2, 1) := by decide +kernel
theorem dL_least_5 : decode cL_least 5 = .ok (.invokevirtual 43, 3) := by decide +kernel
theorem ml_RL_43 : Cond.methodLink RL 43 yX9_least ∈ gw := in_g5 179 (by decide +kernel) rfl
theorem dL_least_8 : decode cL_least 8 = .ok (.i2l, 1) := by decide +kernel
theorem dL_least_9 : decode cL_least 9 = .ok (.lastore, 1) := by decide +kernel
theorem dL_least_10 : decode cL_least 10 = .ok (.goto 11, 3) := by decide +kernel
theorem dL_least_13 : decode cL_least 13 = .ok (.astore 4, 2) := by decide +kernel
theorem dL_least_15 : decode cL_least 15 = .ok (.iconst 1, 1) := by decide +kernel
theorem dL_least_16 : decode cL_least 16 = .ok (.ireturn, 1) := by decide +kernel
theorem dL_least_17 : decode cL_least 17 = .ok (.astore 4, 2) := by decide +kernel
theorem dL_least_19 : decode cL_least 19 = .ok (.iconst 2, 1) := by decide +kernel
theorem dL_least_20 : decode cL_least 20 = .ok (.ireturn, 1) := by decide +kernel
theorem dL_least_21 : decode cL_least 21 = .ok (.iconst 0, 1) := by decide +kernel
theorem dL_least_22 : decode cL_least 22 = .ok (.ireturn, 1) := by decide +kernel
theorem my_X9_most : MY yX9_most cX9_most 2 (some .int) 1 := ⟨in_g1 1 (by decide +kernel) rfl, in_g5 193 (by decide +kernel) rfl, by decide, by decide, by decide +kernel, by decide⟩
theorem mi_X9_most : MI yX9_most := ⟨in_g5 191 (by decide +kernel) rfl, in_g5 192 (by decide +kernel) rfl⟩
theorem myw_most : MYw yL_most cL_most 4 (some .int) [(0, 9, 12, 13)] 3 := ⟨in_g1 0 (by decide +kernel) rfl, in_g5 189 (by decide +kernel) rfl, by decide, by decide, by decide +kernel, by decide⟩
theorem ms_L_most : Cond.static yL_most ∈ gw := in_g5 188 (by decide +kernel) rfl
theorem dL_most_0 : decode cL_most 0 = .ok (.aload_n 2, 1) := by decide +kernel
theorem dL_most_1 : decode cL_most 1 = .ok (.iconst 0, 1) := by decide +kernel
theorem dL_most_2 : decode cL_most 2 = .ok (.aload_n 0, 1) := by decide +kernel
theorem dL_most_3 : decode cL_most 3 = .ok (.iload_n 1, 1) := by decide +kernel
theorem dL_most_4 : decode cL_most 4 = .ok (.invokevirtual 46, 3) := by decide +kernel
theorem ml_RL_46 : Cond.methodLink RL 46 yX9_most ∈ gw := in_g5 190 (by decide +kernel) rfl
theorem dL_most_7 : decode cL_most 7 = .ok (.i2l, 1) := by decide +kernel
theorem dL_most_8 : decode cL_most 8 = .ok (.lastore, 1) := by decide +kernel
theorem dL_most_9 : decode cL_most 9 = .ok (.goto 6, 3) := by decide +kernel
theorem dL_most_12 : decode cL_most 12 = .ok (.astore_n 3, 1) := by decide +kernel
theorem dL_most_13 : decode cL_most 13 = .ok (.iconst 1, 1) := by decide +kernel
theorem dL_most_14 : decode cL_most 14 = .ok (.ireturn, 1) := by decide +kernel
theorem dL_most_15 : decode cL_most 15 = .ok (.iconst 0, 1) := by decide +kernel
theorem dL_most_16 : decode cL_most 16 = .ok (.ireturn, 1) := by decide +kernel
theorem my_X9_widest : MY yX9_widest cX9_widest 3 (some .int) 2 := ⟨in_g1 1 (by decide +kernel) rfl, in_g5 209 (by decide +kernel) rfl, by decide, by decide, by decide +kernel, by decide⟩
theorem mi_X9_widest : MI yX9_widest := ⟨in_g5 207 (by decide +kernel) rfl, in_g5 208 (by decide +kernel) rfl⟩
theorem myw_widest : MYw yL_widest cL_widest 5 (some .int) [(0, 10, 13, 19), (0, 10, 17, 13)] 4 := ⟨in_g1 0 (by decide +kernel) rfl, in_g5 205 (by decide +kernel) rfl, by decide, by decide, by decide +kernel, by decide⟩
theorem ms_L_widest : Cond.static yL_widest ∈ gw := in_g5 204 (by decide +kernel) rfl
theorem dL_widest_0 : decode cL_widest 0 = .ok (.aload_n 3, 1) := by decide +kernel
theorem dL_widest_1 : decode cL_widest 1 = .ok (.iconst 0, 1) := by decide +kernel
theorem dL_widest_2 : decode cL_widest 2 = .ok (.aload_n 0, 1) := by decide +kernel
theorem dL_widest_3 : decode cL_widest 3 = .ok (.iload_n 1, 1) := by decide +kernel
theorem dL_widest_4 : decode cL_widest 4 = .ok (.iload_n 2, 1) := by decide +kernel
theorem dL_widest_5 : decode cL_widest 5 = .ok (.invokevirtual 50, 3) := by decide +kernel
theorem ml_RL_50 : Cond.methodLink RL 50 yX9_widest ∈ gw := in_g5 206 (by decide +kernel) rfl
theorem dL_widest_8 : decode cL_widest 8 = .ok (.i2l, 1) := by decide +kernel
theorem dL_widest_9 : decode cL_widest 9 = .ok (.lastore, 1) := by decide +kernel
theorem dL_widest_10 : decode cL_widest 10 = .ok (.goto 11, 3) := by decide +kernel
theorem dL_widest_13 : decode cL_widest 13 = .ok (.astore 4, 2) := by decide +kernel
theorem dL_widest_15 : decode cL_widest 15 = .ok (.iconst 1, 1) := by decide +kernel
theorem dL_widest_16 : decode cL_widest 16 = .ok (.ireturn, 1) := by decide +kernel
theorem dL_widest_17 : decode cL_widest 17 = .ok (.astore 4, 2) := by decide +kernel
theorem dL_widest_19 : decode cL_widest 19 = .ok (.iconst 2, 1) := by decide +kernel
theorem dL_widest_20 : decode cL_widest 20 = .ok (.ireturn, 1) := by decide +kernel
theorem dL_widest_21 : decode cL_widest 21 = .ok (.iconst 0, 1) := by decide +kernel
theorem dL_widest_22 : decode cL_widest 22 = .ok (.ireturn, 1) := by decide +kernel
theorem my_X9_cut : MY yX9_cut cX9_cut 4 (some .int) 3 := ⟨in_g1 1 (by decide +kernel) rfl, in_g5 230 (by decide +kernel) rfl, by decide, by decide, by decide +kernel, by decide⟩
theorem mi_X9_cut : MI yX9_cut := ⟨in_g5 228 (by decide +kernel) rfl, in_g5 229 (by decide +kernel) rfl⟩
theorem myw_cut : MYw yL_cut cL_cut 6 (some .int) [(0, 12, 15, 24), (0, 12, 19, 19), (0, 12, 23, 13)] 5 := ⟨in_g1 0 (by decide +kernel) rfl, in_g5 226 (by decide +kernel) rfl, by decide, by decide, by decide +kernel, by decide⟩
theorem ms_L_cut : Cond.static yL_cut ∈ gw := in_g5 225 (by decide +kernel) rfl
theorem dL_cut_0 : decode cL_cut 0 = .ok (.aload 4, 2) := by decide +kernel
theorem dL_cut_2 : decode cL_cut 2 = .ok (.iconst 0, 1) := by decide +kernel
theorem dL_cut_3 : decode cL_cut 3 = .ok (.aload_n 0, 1) := by decide +kernel
theorem dL_cut_4 : decode cL_cut 4 = .ok (.iload_n 1, 1) := by decide +kernel
theorem dL_cut_5 : decode cL_cut 5 = .ok (.iload_n 2, 1) := by decide +kernel
theorem dL_cut_6 : decode cL_cut 6 = .ok (.iload_n 3, 1) := by decide +kernel
theorem dL_cut_7 : decode cL_cut 7 = .ok (.invokevirtual 53, 3) := by decide +kernel
theorem ml_RL_53 : Cond.methodLink RL 53 yX9_cut ∈ gw := in_g5 227 (by decide +kernel) rfl
theorem dL_cut_10 : decode cL_cut 10 = .ok (.i2l, 1) := by decide +kernel
theorem dL_cut_11 : decode cL_cut 11 = .ok (.lastore, 1) := by decide +kernel
theorem dL_cut_12 : decode cL_cut 12 = .ok (.goto 15, 3) := by decide +kernel
theorem dL_cut_15 : decode cL_cut 15 = .ok (.astore 5, 2) := by decide +kernel
theorem dL_cut_17 : decode cL_cut 17 = .ok (.iconst 1, 1) := by decide +kernel
theorem dL_cut_18 : decode cL_cut 18 = .ok (.ireturn, 1) := by decide +kernel
theorem dL_cut_19 : decode cL_cut 19 = .ok (.astore 5, 2) := by decide +kernel
theorem dL_cut_21 : decode cL_cut 21 = .ok (.iconst 2, 1) := by decide +kernel
theorem dL_cut_22 : decode cL_cut 22 = .ok (.ireturn, 1) := by decide +kernel
theorem dL_cut_23 : decode cL_cut 23 = .ok (.astore 5, 2) := by decide +kernel
theorem dL_cut_25 : decode cL_cut 25 = .ok (.iconst 3, 1) := by decide +kernel
theorem dL_cut_26 : decode cL_cut 26 = .ok (.ireturn, 1) := by decide +kernel
theorem dL_cut_27 : decode cL_cut 27 = .ok (.iconst 0, 1) := by decide +kernel
theorem dL_cut_28 : decode cL_cut 28 = .ok (.ireturn, 1) := by decide +kernel
theorem my_X9_set : MY yX9_set cX9_set 3 (some .int) 2 := ⟨in_g1 1 (by decide +kernel) rfl, in_g6 7 (by decide +kernel) rfl, by decide, by decide, by decide +kernel, by decide⟩
theorem mi_X9_set : MI yX9_set := ⟨in_g6 5 (by decide +kernel) rfl, in_g6 6 (by decide +kernel) rfl⟩
theorem myw_set : MYw yL_set cL_set 5 (some .int) [(0, 10, 13, 19), (0, 10, 17, 13)] 4 := ⟨in_g1 0 (by decide +kernel) rfl, in_g6 3 (by decide +kernel) rfl, by decide, by decide, by decide +kernel, by decide⟩
theorem ms_L_set : Cond.static yL_set ∈ gw := in_g6 2 (by decide +kernel) rfl
theorem dL_set_0 : decode cL_set 0 = .ok (.aload_n 3, 1) := by decide +kernel
theorem dL_set_1 : decode cL_set 1 = .ok (.iconst 0, 1) := by decide +kernel
theorem dL_set_2 : decode cL_set 2 = .ok (.aload_n 0, 1) := by decide +kernel
theorem dL_set_3 : decode cL_set 3 = .ok (.iload_n 1, 1) := by decide +kernel
theorem dL_set_4 : decode cL_set 4 = .ok (.iload_n 2, 1) := by decide +kernel
theorem dL_set_5 : decode cL_set 5 = .ok (.invokevirtual 56, 3) := by decide +kernel
theorem ml_RL_56 : Cond.methodLink RL 56 yX9_set ∈ gw := in_g6 4 (by decide +kernel) rfl
theorem dL_set_8 : decode cL_set 8 = .ok (.i2l, 1) := by decide +kernel
theorem dL_set_9 : decode cL_set 9 = .ok (.lastore, 1) := by decide +kernel
theorem dL_set_10 : decode cL_set 10 = .ok (.goto 11, 3) := by decide +kernel
theorem dL_set_13 : decode cL_set 13 = .ok (.astore 4, 2) := by decide +kernel
theorem dL_set_15 : decode cL_set 15 = .ok (.iconst 1, 1) := by decide +kernel
theorem dL_set_16 : decode cL_set 16 = .ok (.ireturn, 1) := by decide +kernel
theorem dL_set_17 : decode cL_set 17 = .ok (.astore 4, 2) := by decide +kernel
theorem dL_set_19 : decode cL_set 19 = .ok (.iconst 2, 1) := by decide +kernel
theorem dL_set_20 : decode cL_set 20 = .ok (.ireturn, 1) := by decide +kernel
theorem dL_set_21 : decode cL_set 21 = .ok (.iconst 0, 1) := by decide +kernel
theorem dL_set_22 : decode cL_set 22 = .ok (.ireturn, 1) := by decide +kernel
theorem my_X9_common : MY yX9_common cX9_common 3 (some .int) 2 := ⟨in_g1 1 (by decide +kernel) rfl, in_g6 21 (by decide +kernel) rfl, by decide, by decide, by decide +kernel, by decide⟩
theorem mi_X9_common : MI yX9_common := ⟨in_g6 19 (by decide +kernel) rfl, in_g6 20 (by decide +kernel) rfl⟩
theorem myw_common : MYw yL_common cL_common 5 (some .int) [(0, 10, 13, 24)] 4 := ⟨in_g1 0 (by decide +kernel) rfl, in_g6 17 (by decide +kernel) rfl, by decide, by decide, by decide +kernel, by decide⟩
theorem ms_L_common : Cond.static yL_common ∈ gw := in_g6 16 (by decide +kernel) rfl
theorem dL_common_0 : decode cL_common 0 = .ok (.aload_n 3, 1) := by decide +kernel
theorem dL_common_1 : decode cL_common 1 = .ok (.iconst 0, 1) := by decide +kernel
theorem dL_common_2 : decode cL_common 2 = .ok (.aload_n 0, 1) := by decide +kernel
theorem dL_common_3 : decode cL_common 3 = .ok (.iload_n 1, 1) := by decide +kernel
theorem dL_common_4 : decode cL_common 4 = .ok (.iload_n 2, 1) := by decide +kernel
theorem dL_common_5 : decode cL_common 5 = .ok (.invokevirtual 59, 3) := by decide +kernel
theorem ml_RL_59 : Cond.methodLink RL 59 yX9_common ∈ gw := in_g6 18 (by decide +kernel) rfl
theorem dL_common_8 : decode cL_common 8 = .ok (.i2l, 1) := by decide +kernel
theorem dL_common_9 : decode cL_common 9 = .ok (.lastore, 1) := by decide +kernel
theorem dL_common_10 : decode cL_common 10 = .ok (.goto 7, 3) := by decide +kernel
theorem dL_common_13 : decode cL_common 13 = .ok (.astore 4, 2) := by decide +kernel
theorem dL_common_15 : decode cL_common 15 = .ok (.iconst 1, 1) := by decide +kernel
theorem dL_common_16 : decode cL_common 16 = .ok (.ireturn, 1) := by decide +kernel
theorem dL_common_17 : decode cL_common 17 = .ok (.iconst 0, 1) := by decide +kernel
theorem dL_common_18 : decode cL_common 18 = .ok (.ireturn, 1) := by decide +kernel
theorem my_X9_choose : MY yX9_choose cX9_choose 2 (some .int) 1 := ⟨in_g1 1 (by decide +kernel) rfl, in_g6 30 (by decide +kernel) rfl, by decide, by decide, by decide +kernel, by decide⟩
theorem mi_X9_choose : MI yX9_choose := ⟨in_g6 28 (by decide +kernel) rfl, in_g6 29 (by decide +kernel) rfl⟩
theorem myw_choose : MYw yL_choose cL_choose 4 (some .int) [(0, 9, 12, 24), (0, 9, 15, 65)] 3 := ⟨in_g1 0 (by decide +kernel) rfl, in_g6 25 (by decide +kernel) rfl, by decide, by decide, by decide +kernel, by decide⟩
theorem ms_L_choose : Cond.static yL_choose ∈ gw := in_g6 24 (by decide +kernel) rfl
theorem dL_choose_0 : decode cL_choose 0 = .ok (.aload_n 2, 1) := by decide +kernel
theorem dL_choose_1 : decode cL_choose 1 = .ok (.iconst 0, 1) := by decide +kernel
theorem dL_choose_2 : decode cL_choose 2 = .ok (.aload_n 0, 1) := by decide +kernel
theorem dL_choose_3 : decode cL_choose 3 = .ok (.iload_n 1, 1) := by decide +kernel
theorem dL_choose_4 : decode cL_choose 4 = .ok (.invokevirtual 62, 3) := by decide +kernel
theorem ml_RL_62 : Cond.methodLink RL 62 yX9_choose ∈ gw := in_g6 27 (by decide +kernel) rfl
theorem dL_choose_7 : decode cL_choose 7 = .ok (.i2l, 1) := by decide +kernel
theorem dL_choose_8 : decode cL_choose 8 = .ok (.lastore, 1) := by decide +kernel
theorem dL_choose_9 : decode cL_choose 9 = .ok (.goto 9, 3) := by decide +kernel
theorem dL_choose_12 : decode cL_choose 12 = .ok (.astore_n 3, 1) := by decide +kernel
theorem dL_choose_13 : decode cL_choose 13 = .ok (.iconst 1, 1) := by decide +kernel
theorem dL_choose_14 : decode cL_choose 14 = .ok (.ireturn, 1) := by decide +kernel
theorem dL_choose_15 : decode cL_choose 15 = .ok (.astore_n 3, 1) := by decide +kernel
theorem dL_choose_16 : decode cL_choose 16 = .ok (.iconst 2, 1) := by decide +kernel
theorem dL_choose_17 : decode cL_choose 17 = .ok (.ireturn, 1) := by decide +kernel
theorem dL_choose_18 : decode cL_choose 18 = .ok (.iconst 0, 1) := by decide +kernel
theorem dL_choose_19 : decode cL_choose 19 = .ok (.ireturn, 1) := by decide +kernel
theorem my_X9_drop : MY yX9_drop cX9_drop 2 (some .int) 1 := ⟨in_g1 1 (by decide +kernel) rfl, in_g6 53 (by decide +kernel) rfl, by decide, by decide, by decide +kernel, by decide⟩
theorem mi_X9_drop : MI yX9_drop := ⟨in_g6 51 (by decide +kernel) rfl, in_g6 52 (by decide +kernel) rfl⟩
theorem myw_drop : MYw yL_drop cL_drop 4 (some .int) [(0, 9, 12, 24), (0, 9, 15, 65)] 3 := ⟨in_g1 0 (by decide +kernel) rfl, in_g6 49 (by decide +kernel) rfl, by decide, by decide, by decide +kernel, by decide⟩
theorem ms_L_drop : Cond.static yL_drop ∈ gw := in_g6 48 (by decide +kernel) rfl
theorem dL_drop_0 : decode cL_drop 0 = .ok (.aload_n 2, 1) := by decide +kernel
theorem dL_drop_1 : decode cL_drop 1 = .ok (.iconst 0, 1) := by decide +kernel
theorem dL_drop_2 : decode cL_drop 2 = .ok (.aload_n 0, 1) := by decide +kernel
theorem dL_drop_3 : decode cL_drop 3 = .ok (.iload_n 1, 1) := by decide +kernel
theorem dL_drop_4 : decode cL_drop 4 = .ok (.invokevirtual 67, 3) := by decide +kernel
theorem ml_RL_67 : Cond.methodLink RL 67 yX9_drop ∈ gw := in_g6 50 (by decide +kernel) rfl
theorem dL_drop_7 : decode cL_drop 7 = .ok (.i2l, 1) := by decide +kernel
theorem dL_drop_8 : decode cL_drop 8 = .ok (.lastore, 1) := by decide +kernel
theorem dL_drop_9 : decode cL_drop 9 = .ok (.goto 9, 3) := by decide +kernel
theorem dL_drop_12 : decode cL_drop 12 = .ok (.astore_n 3, 1) := by decide +kernel
theorem dL_drop_13 : decode cL_drop 13 = .ok (.iconst 1, 1) := by decide +kernel
theorem dL_drop_14 : decode cL_drop 14 = .ok (.ireturn, 1) := by decide +kernel
theorem dL_drop_15 : decode cL_drop 15 = .ok (.astore_n 3, 1) := by decide +kernel
theorem dL_drop_16 : decode cL_drop 16 = .ok (.iconst 2, 1) := by decide +kernel
theorem dL_drop_17 : decode cL_drop 17 = .ok (.ireturn, 1) := by decide +kernel
theorem dL_drop_18 : decode cL_drop 18 = .ok (.iconst 0, 1) := by decide +kernel
theorem dL_drop_19 : decode cL_drop 19 = .ok (.ireturn, 1) := by decide +kernel
theorem my_X9_exchange : MY yX9_exchange cX9_exchange 2 (some .int) 1 := ⟨in_g1 1 (by decide +kernel) rfl, in_g6 62 (by decide +kernel) rfl, by decide, by decide, by decide +kernel, by decide⟩
theorem mi_X9_exchange : MI yX9_exchange := ⟨in_g6 60 (by decide +kernel) rfl, in_g6 61 (by decide +kernel) rfl⟩
theorem myw_exchange : MYw yL_exchange cL_exchange 4 (some .int) [(0, 9, 12, 19)] 3 := ⟨in_g1 0 (by decide +kernel) rfl, in_g6 58 (by decide +kernel) rfl, by decide, by decide, by decide +kernel, by decide⟩
theorem ms_L_exchange : Cond.static yL_exchange ∈ gw := in_g6 57 (by decide +kernel) rfl
theorem dL_exchange_0 : decode cL_exchange 0 = .ok (.aload_n 2, 1) := by decide +kernel
theorem dL_exchange_1 : decode cL_exchange 1 = .ok (.iconst 0, 1) := by decide +kernel
theorem dL_exchange_2 : decode cL_exchange 2 = .ok (.aload_n 0, 1) := by decide +kernel
theorem dL_exchange_3 : decode cL_exchange 3 = .ok (.iload_n 1, 1) := by decide +kernel
theorem dL_exchange_4 : decode cL_exchange 4 = .ok (.invokevirtual 70, 3) := by decide +kernel
theorem ml_RL_70 : Cond.methodLink RL 70 yX9_exchange ∈ gw := in_g6 59 (by decide +kernel) rfl
theorem dL_exchange_7 : decode cL_exchange 7 = .ok (.i2l, 1) := by decide +kernel
theorem dL_exchange_8 : decode cL_exchange 8 = .ok (.lastore, 1) := by decide +kernel
theorem dL_exchange_9 : decode cL_exchange 9 = .ok (.goto 6, 3) := by decide +kernel
theorem dL_exchange_12 : decode cL_exchange 12 = .ok (.astore_n 3, 1) := by decide +kernel
theorem dL_exchange_13 : decode cL_exchange 13 = .ok (.iconst 1, 1) := by decide +kernel
theorem dL_exchange_14 : decode cL_exchange 14 = .ok (.ireturn, 1) := by decide +kernel
theorem dL_exchange_15 : decode cL_exchange 15 = .ok (.iconst 0, 1) := by decide +kernel
theorem dL_exchange_16 : decode cL_exchange 16 = .ok (.ireturn, 1) := by decide +kernel
theorem my_X9_trade : MY yX9_trade cX9_trade 1 (some .int) 0 := ⟨in_g1 1 (by decide +kernel) rfl, in_g6 81 (by decide +kernel) rfl, by decide, by decide, by decide +kernel, by decide⟩
theorem mi_X9_trade : MI yX9_trade := ⟨in_g6 79 (by decide +kernel) rfl, in_g6 80 (by decide +kernel) rfl⟩
theorem myw_trade : MYw yL_trade cL_trade 3 (some .int) [(0, 8, 11, 65)] 2 := ⟨in_g1 0 (by decide +kernel) rfl, in_g6 77 (by decide +kernel) rfl, by decide, by decide, by decide +kernel, by decide⟩
theorem ms_L_trade : Cond.static yL_trade ∈ gw := in_g6 76 (by decide +kernel) rfl
theorem dL_trade_0 : decode cL_trade 0 = .ok (.aload_n 1, 1) := by decide +kernel
theorem dL_trade_1 : decode cL_trade 1 = .ok (.iconst 0, 1) := by decide +kernel
theorem dL_trade_2 : decode cL_trade 2 = .ok (.aload_n 0, 1) := by decide +kernel
theorem dL_trade_3 : decode cL_trade 3 = .ok (.invokevirtual 73, 3) := by decide +kernel
theorem ml_RL_73 : Cond.methodLink RL 73 yX9_trade ∈ gw := in_g6 78 (by decide +kernel) rfl
theorem dL_trade_6 : decode cL_trade 6 = .ok (.i2l, 1) := by decide +kernel
theorem dL_trade_7 : decode cL_trade 7 = .ok (.lastore, 1) := by decide +kernel
theorem dL_trade_8 : decode cL_trade 8 = .ok (.goto 6, 3) := by decide +kernel
theorem dL_trade_11 : decode cL_trade 11 = .ok (.astore_n 2, 1) := by decide +kernel
theorem dL_trade_12 : decode cL_trade 12 = .ok (.iconst 1, 1) := by decide +kernel
theorem dL_trade_13 : decode cL_trade 13 = .ok (.ireturn, 1) := by decide +kernel
theorem dL_trade_14 : decode cL_trade 14 = .ok (.iconst 0, 1) := by decide +kernel
theorem dL_trade_15 : decode cL_trade 15 = .ok (.ireturn, 1) := by decide +kernel
theorem my_X9_need : MY yX9_need cX9_need 2 (some .int) 1 := ⟨in_g1 1 (by decide +kernel) rfl, in_g6 90 (by decide +kernel) rfl, by decide, by decide, by decide +kernel, by decide⟩
theorem mi_X9_need : MI yX9_need := ⟨in_g6 88 (by decide +kernel) rfl, in_g6 89 (by decide +kernel) rfl⟩
theorem myw_need : MYw yL_need cL_need 4 (some .int) [(0, 9, 12, 13)] 3 := ⟨in_g1 0 (by decide +kernel) rfl, in_g6 86 (by decide +kernel) rfl, by decide, by decide, by decide +kernel, by decide⟩
theorem ms_L_need : Cond.static yL_need ∈ gw := in_g6 85 (by decide +kernel) rfl
theorem dL_need_0 : decode cL_need 0 = .ok (.aload_n 2, 1) := by decide +kernel
theorem dL_need_1 : decode cL_need 1 = .ok (.iconst 0, 1) := by decide +kernel
theorem dL_need_2 : decode cL_need 2 = .ok (.aload_n 0, 1) := by decide +kernel
theorem dL_need_3 : decode cL_need 3 = .ok (.iload_n 1, 1) := by decide +kernel
theorem dL_need_4 : decode cL_need 4 = .ok (.invokevirtual 76, 3) := by decide +kernel
theorem ml_RL_76 : Cond.methodLink RL 76 yX9_need ∈ gw := in_g6 87 (by decide +kernel) rfl
theorem dL_need_7 : decode cL_need 7 = .ok (.i2l, 1) := by decide +kernel
theorem dL_need_8 : decode cL_need 8 = .ok (.lastore, 1) := by decide +kernel
theorem dL_need_9 : decode cL_need 9 = .ok (.goto 6, 3) := by decide +kernel
theorem dL_need_12 : decode cL_need 12 = .ok (.astore_n 3, 1) := by decide +kernel
theorem dL_need_13 : decode cL_need 13 = .ok (.iconst 1, 1) := by decide +kernel
theorem dL_need_14 : decode cL_need 14 = .ok (.ireturn, 1) := by decide +kernel
theorem dL_need_15 : decode cL_need 15 = .ok (.iconst 0, 1) := by decide +kernel
theorem dL_need_16 : decode cL_need 16 = .ok (.ireturn, 1) := by decide +kernel
theorem my_X9_loss : MY yX9_loss cX9_loss 2 (some .int) 1 := ⟨in_g1 1 (by decide +kernel) rfl, in_g6 102 (by decide +kernel) rfl, by decide, by decide, by decide +kernel, by decide⟩
theorem mi_X9_loss : MI yX9_loss := ⟨in_g6 100 (by decide +kernel) rfl, in_g6 101 (by decide +kernel) rfl⟩
theorem myw_loss : MYw yL_loss cL_loss 4 (some .int) [(0, 9, 12, 24)] 3 := ⟨in_g1 0 (by decide +kernel) rfl, in_g6 98 (by decide +kernel) rfl, by decide, by decide, by decide +kernel, by decide⟩
theorem ms_L_loss : Cond.static yL_loss ∈ gw := in_g6 97 (by decide +kernel) rfl
theorem dL_loss_0 : decode cL_loss 0 = .ok (.aload_n 2, 1) := by decide +kernel
theorem dL_loss_1 : decode cL_loss 1 = .ok (.iconst 0, 1) := by decide +kernel
theorem dL_loss_2 : decode cL_loss 2 = .ok (.aload_n 0, 1) := by decide +kernel
theorem dL_loss_3 : decode cL_loss 3 = .ok (.iload_n 1, 1) := by decide +kernel
theorem dL_loss_4 : decode cL_loss 4 = .ok (.invokevirtual 79, 3) := by decide +kernel
theorem ml_RL_79 : Cond.methodLink RL 79 yX9_loss ∈ gw := in_g6 99 (by decide +kernel) rfl
theorem dL_loss_7 : decode cL_loss 7 = .ok (.i2l, 1) := by decide +kernel
theorem dL_loss_8 : decode cL_loss 8 = .ok (.lastore, 1) := by decide +kernel
theorem dL_loss_9 : decode cL_loss 9 = .ok (.goto 6, 3) := by decide +kernel
theorem dL_loss_12 : decode cL_loss 12 = .ok (.astore_n 3, 1) := by decide +kernel
theorem dL_loss_13 : decode cL_loss 13 = .ok (.iconst 1, 1) := by decide +kernel
theorem dL_loss_14 : decode cL_loss 14 = .ok (.ireturn, 1) := by decide +kernel
theorem dL_loss_15 : decode cL_loss 15 = .ok (.iconst 0, 1) := by decide +kernel
theorem dL_loss_16 : decode cL_loss 16 = .ok (.ireturn, 1) := by decide +kernel
theorem my_X9_quote : MY yX9_quote cX9_quote 2 (some .int) 1 := ⟨in_g1 1 (by decide +kernel) rfl, in_g6 114 (by decide +kernel) rfl, by decide, by decide, by decide +kernel, by decide⟩
theorem mi_X9_quote : MI yX9_quote := ⟨in_g6 112 (by decide +kernel) rfl, in_g6 113 (by decide +kernel) rfl⟩
theorem myw_quote : MYw yL_quote cL_quote 4 (some .int) [(0, 9, 12, 13)] 3 := ⟨in_g1 0 (by decide +kernel) rfl, in_g6 110 (by decide +kernel) rfl, by decide, by decide, by decide +kernel, by decide⟩
theorem ms_L_quote : Cond.static yL_quote ∈ gw := in_g6 109 (by decide +kernel) rfl
theorem dL_quote_0 : decode cL_quote 0 = .ok (.aload_n 2, 1) := by decide +kernel
theorem dL_quote_1 : decode cL_quote 1 = .ok (.iconst 0, 1) := by decide +kernel
theorem dL_quote_2 : decode cL_quote 2 = .ok (.aload_n 0, 1) := by decide +kernel
theorem dL_quote_3 : decode cL_quote 3 = .ok (.iload_n 1, 1) := by decide +kernel
theorem dL_quote_4 : decode cL_quote 4 = .ok (.invokevirtual 82, 3) := by decide +kernel
theorem ml_RL_82 : Cond.methodLink RL 82 yX9_quote ∈ gw := in_g6 111 (by decide +kernel) rfl
theorem dL_quote_7 : decode cL_quote 7 = .ok (.i2l, 1) := by decide +kernel
theorem dL_quote_8 : decode cL_quote 8 = .ok (.lastore, 1) := by decide +kernel
theorem dL_quote_9 : decode cL_quote 9 = .ok (.goto 6, 3) := by decide +kernel
theorem dL_quote_12 : decode cL_quote 12 = .ok (.astore_n 3, 1) := by decide +kernel
theorem dL_quote_13 : decode cL_quote 13 = .ok (.iconst 1, 1) := by decide +kernel
theorem dL_quote_14 : decode cL_quote 14 = .ok (.ireturn, 1) := by decide +kernel
theorem dL_quote_15 : decode cL_quote 15 = .ok (.iconst 0, 1) := by decide +kernel
theorem dL_quote_16 : decode cL_quote 16 = .ok (.ireturn, 1) := by decide +kernel
theorem my_X9_write : MY yX9_write cX9_write 2 (some .int) 1 := ⟨in_g1 1 (by decide +kernel) rfl, in_g6 183 (by decide +kernel) rfl, by decide, by decide, by decide +kernel, by decide⟩
theorem mi_X9_write : MI yX9_write := ⟨in_g6 181 (by decide +kernel) rfl, in_g6 182 (by decide +kernel) rfl⟩
theorem myw_write : MYw yL_write cL_write 4 (some .int) [(0, 9, 12, 13)] 3 := ⟨in_g1 0 (by decide +kernel) rfl, in_g6 179 (by decide +kernel) rfl, by decide, by decide, by decide +kernel, by decide⟩
theorem ms_L_write : Cond.static yL_write ∈ gw := in_g6 178 (by decide +kernel) rfl
theorem dL_write_0 : decode cL_write 0 = .ok (.aload_n 2, 1) := by decide +kernel
theorem dL_write_1 : decode cL_write 1 = .ok (.iconst 0, 1) := by decide +kernel
theorem dL_write_2 : decode cL_write 2 = .ok (.aload_n 0, 1) := by decide +kernel
theorem dL_write_3 : decode cL_write 3 = .ok (.iload_n 1, 1) := by decide +kernel
theorem dL_write_4 : decode cL_write 4 = .ok (.invokevirtual 85, 3) := by decide +kernel
theorem ml_RL_85 : Cond.methodLink RL 85 yX9_write ∈ gw := in_g6 180 (by decide +kernel) rfl
theorem dL_write_7 : decode cL_write 7 = .ok (.i2l, 1) := by decide +kernel
theorem dL_write_8 : decode cL_write 8 = .ok (.lastore, 1) := by decide +kernel
theorem dL_write_9 : decode cL_write 9 = .ok (.goto 6, 3) := by decide +kernel
theorem dL_write_12 : decode cL_write 12 = .ok (.astore_n 3, 1) := by decide +kernel
theorem dL_write_13 : decode cL_write 13 = .ok (.iconst 1, 1) := by decide +kernel
theorem dL_write_14 : decode cL_write 14 = .ok (.ireturn, 1) := by decide +kernel
theorem dL_write_15 : decode cL_write 15 = .ok (.iconst 0, 1) := by decide +kernel
theorem dL_write_16 : decode cL_write 16 = .ok (.ireturn, 1) := by decide +kernel
