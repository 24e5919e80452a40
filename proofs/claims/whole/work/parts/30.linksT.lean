theorem fl_RX9_30 : FL RX9 30 9 3 := ⟨_, _, _, rfl, by decide, in_g2 188 (by decide +kernel) rfl, inX9⟩
theorem fl_RX9_38 : FL RX9 38 9 4 := ⟨_, _, _, rfl, by decide, in_g2 189 (by decide +kernel) rfl, inX9⟩
theorem ml_RX9_100 : Cond.methodLink RX9 100 yX3_readAll ∈ gw := in_g4 70 (by decide +kernel) rfl
theorem ml_RX9_111 : Cond.methodLink RX9 111 yX2_copyFrom ∈ gw := in_g4 232 (by decide +kernel) rfl
theorem my_X2_copyFrom : MY yX2_copyFrom cX2_copyFrom 2 none 1 := ⟨in_g1 4 (by decide +kernel) rfl, in_g4 235 (by decide +kernel) rfl, by decide, by decide, by decide +kernel, by decide⟩
theorem mi_X2_copyFrom : MI yX2_copyFrom := ⟨in_g4 233 (by decide +kernel) rfl, in_g4 234 (by decide +kernel) rfl⟩
theorem my_X3_readAll : MY yX3_readAll cX3_readAll 2 (some .int) 0 := ⟨in_g1 5 (by decide +kernel) rfl, in_g4 73 (by decide +kernel) rfl, by decide, by decide, by decide +kernel, by decide⟩
theorem mi_X3_readAll : MI yX3_readAll := ⟨in_g4 71 (by decide +kernel) rfl, in_g4 72 (by decide +kernel) rfl⟩
theorem pl_RX9_76 : PL RX9 76 9 9 0 := ⟨_, _, _, tyX9, rfl, by decide, in_g2 194 (by decide +kernel) rfl, inX9, tyX9_ok, nmX9, rfl, by decide +kernel⟩
theorem tw_RX9_104_108 : TW RX9 104 108 (exN 3) ["java/lang/RuntimeException", "java/lang/Exception"] := TW.of (by decide +kernel) (in_g4 163 (by decide +kernel) rfl) (in_g1 21 (by decide +kernel) rfl) (by decide +kernel) (by decide +kernel) (by decide +kernel)
theorem tw_RX9_381_385 : TW13 RX9 381 385 (exN 2) ["java/lang/RuntimeException", "java/lang/Exception"] := TW13.of (by decide +kernel) (in_g5 10 (by decide +kernel) rfl) (in_g1 23 (by decide +kernel) rfl) (by decide +kernel) (by decide +kernel) (by decide +kernel)
theorem ml_RX9_118 : Cond.methodLink RX9 118 yX9_requireWhat ∈ gw := in_g5 7 (by decide +kernel) rfl
theorem ml_RX9_122 : Cond.methodLink RX9 122 yX5_setting ∈ gw := in_g5 26 (by decide +kernel) rfl
theorem ml_RX9_126 : Cond.methodLink RX9 126 yX9_requireNumber ∈ gw := in_g5 30 (by decide +kernel) rfl
theorem my_X9_requireNumber : MY yX9_requireNumber cX9_requireNumber 3 none 3 := ⟨in_g1 1 (by decide +kernel) rfl, in_g5 32 (by decide +kernel) rfl, by decide, by decide, by decide +kernel, by decide⟩
theorem ms_X9_requireNumber : Cond.static yX9_requireNumber ∈ gw := in_g5 31 (by decide +kernel) rfl
theorem my_X9_requireWhat : MY yX9_requireWhat cX9_requireWhat 2 none 2 := ⟨in_g1 1 (by decide +kernel) rfl, in_g5 9 (by decide +kernel) rfl, by decide, by decide, by decide +kernel, by decide⟩
theorem ms_X9_requireWhat : Cond.static yX9_requireWhat ∈ gw := in_g5 8 (by decide +kernel) rfl
theorem my_X5_setting : MY yX5_setting cX5_setting 2 (some .int) 1 := ⟨in_g1 8 (by decide +kernel) rfl, in_g5 29 (by decide +kernel) rfl, by decide, by decide, by decide +kernel, by decide⟩
theorem mi_X5_setting : MI yX5_setting := ⟨in_g5 27 (by decide +kernel) rfl, in_g5 28 (by decide +kernel) rfl⟩
theorem pl_RX9_130 : PL RX9 130 5 4 0 := ⟨_, _, _, tyX5, rfl, by decide, in_g2 97 (by decide +kernel) rfl, inX5, tyX5_ok, nmX5, rfl, by decide +kernel⟩
theorem pl_RX9_133 : PL RX9 133 5 5 0 := ⟨_, _, _, tyX5, rfl, by decide, in_g2 99 (by decide +kernel) rfl, inX5, tyX5_ok, nmX5, rfl, by decide +kernel⟩
theorem pl_RX9_136 : PL RX9 136 5 6 0 := ⟨_, _, _, tyX5, rfl, by decide, in_g2 101 (by decide +kernel) rfl, inX5, tyX5_ok, nmX5, rfl, by decide +kernel⟩
theorem tw_RX9_376_380 : TW RX9 376 380 (exN 1) ["java/lang/RuntimeException", "java/lang/Exception"] := TW.of (by decide +kernel) (in_g5 45 (by decide +kernel) rfl) (in_g1 24 (by decide +kernel) rfl) (by decide +kernel) (by decide +kernel) (by decide +kernel)
theorem fl_RX9_153 : FL RX9 153 1 3 := ⟨_, _, _, rfl, by decide, in_g1 66 (by decide +kernel) rfl, inX1⟩
theorem fl_RX9_156 : FL RX9 156 1 4 := ⟨_, _, _, rfl, by decide, in_g1 70 (by decide +kernel) rfl, inX1⟩
theorem fl_RX9_163 : FL RX9 163 1 5 := ⟨_, _, _, rfl, by decide, in_g1 74 (by decide +kernel) rfl, inX1⟩
theorem fl_RX9_166 : FL RX9 166 0 4 := ⟨_, _, _, rfl, by decide, in_g1 222 (by decide +kernel) rfl, inX0⟩
theorem fl_RX9_169 : FL RX9 169 1 6 := ⟨_, _, _, rfl, by decide, in_g1 76 (by decide +kernel) rfl, inX1⟩
theorem ml_RX9_150 : Cond.methodLink RX9 150 yX9_requireIndex ∈ gw := in_g5 42 (by decide +kernel) rfl
theorem ml_RX9_159 : Cond.methodLink RX9 159 yX1_windowLength ∈ gw := in_g5 61 (by decide +kernel) rfl
theorem my_X9_requireIndex : MY yX9_requireIndex cX9_requireIndex 2 none 2 := ⟨in_g1 1 (by decide +kernel) rfl, in_g5 44 (by decide +kernel) rfl, by decide, by decide, by decide +kernel, by decide⟩
theorem ms_X9_requireIndex : Cond.static yX9_requireIndex ∈ gw := in_g5 43 (by decide +kernel) rfl
theorem fl_RX9_172 : FL RX9 172 1 7 := ⟨_, _, _, rfl, by decide, in_g1 79 (by decide +kernel) rfl, inX1⟩
theorem fl_RX9_175 : FL RX9 175 1 8 := ⟨_, _, _, rfl, by decide, in_g1 82 (by decide +kernel) rfl, inX1⟩
theorem fl_RX9_178 : FL RX9 178 1 9 := ⟨_, _, _, rfl, by decide, in_g1 84 (by decide +kernel) rfl, inX1⟩
theorem fl_RX9_181 : FL RX9 181 1 10 := ⟨_, _, _, rfl, by decide, in_g1 88 (by decide +kernel) rfl, inX1⟩
theorem fl_RX9_184 : FL RX9 184 1 11 := ⟨_, _, _, rfl, by decide, in_g1 91 (by decide +kernel) rfl, inX1⟩
theorem fl_RX9_190 : FL RX9 190 0 5 := ⟨_, _, _, rfl, by decide, in_g1 225 (by decide +kernel) rfl, inX0⟩
theorem ml_RX9_187 : Cond.methodLink RX9 187 yX1_unlikeWords ∈ gw := in_g5 72 (by decide +kernel) rfl
theorem ml_RX9_194 : Cond.methodLink RX9 194 yX2_itemsOf ∈ gw := in_g5 73 (by decide +kernel) rfl
theorem ml_RX9_198 : Cond.methodLink RX9 198 yX2_worthOf ∈ gw := in_g5 77 (by decide +kernel) rfl
theorem ml_RX9_204 : Cond.methodLink RX9 204 yX5_gain ∈ gw := in_g5 78 (by decide +kernel) rfl
theorem ml_RX9_207 : Cond.methodLink RX9 207 yX5_mayJoin ∈ gw := in_g5 82 (by decide +kernel) rfl
theorem ml_RX9_211 : Cond.methodLink RX9 211 yX1_echo ∈ gw := in_g5 86 (by decide +kernel) rfl
theorem my_X1_echo : MY yX1_echo cX1_echo 5 (some .int) 1 := ⟨in_g1 3 (by decide +kernel) rfl, in_g5 89 (by decide +kernel) rfl, by decide, by decide, by decide +kernel, by decide⟩
theorem mi_X1_echo : MI yX1_echo := ⟨in_g5 87 (by decide +kernel) rfl, in_g5 88 (by decide +kernel) rfl⟩
theorem my_X2_itemsOf : MY yX2_itemsOf cX2_itemsOf 5 (some .int) 1 := ⟨in_g1 4 (by decide +kernel) rfl, in_g5 76 (by decide +kernel) rfl, by decide, by decide, by decide +kernel, by decide⟩
theorem mi_X2_itemsOf : MI yX2_itemsOf := ⟨in_g5 74 (by decide +kernel) rfl, in_g5 75 (by decide +kernel) rfl⟩
theorem my_X5_gain : MY yX5_gain cX5_gain 3 (some .int) 2 := ⟨in_g1 8 (by decide +kernel) rfl, in_g5 81 (by decide +kernel) rfl, by decide, by decide, by decide +kernel, by decide⟩
theorem mi_X5_gain : MI yX5_gain := ⟨in_g5 79 (by decide +kernel) rfl, in_g5 80 (by decide +kernel) rfl⟩
theorem my_X5_mayJoin : MY yX5_mayJoin cX5_mayJoin 3 (some .boolean) 2 := ⟨in_g1 8 (by decide +kernel) rfl, in_g5 85 (by decide +kernel) rfl, by decide, by decide, by decide +kernel, by decide⟩
theorem mi_X5_mayJoin : MI yX5_mayJoin := ⟨in_g5 83 (by decide +kernel) rfl, in_g5 84 (by decide +kernel) rfl⟩
theorem fl_RX9_214 : FL RX9 214 2 0 := ⟨_, _, _, rfl, by decide, in_g1 155 (by decide +kernel) rfl, inX2⟩
theorem fl_RX9_221 : FL RX9 221 2 1 := ⟨_, _, _, rfl, by decide, in_g1 160 (by decide +kernel) rfl, inX2⟩
theorem ml_RX9_217 : Cond.methodLink RX9 217 yX2_isStrong ∈ gw := in_g5 98 (by decide +kernel) rfl
theorem ml_RX9_227 : Cond.methodLink RX9 227 yX0_tallyOf ∈ gw := in_g5 103 (by decide +kernel) rfl
theorem ml_RX9_231 : Cond.methodLink RX9 231 yX2_countIn ∈ gw := in_g5 104 (by decide +kernel) rfl
theorem ml_RX9_235 : Cond.methodLink RX9 235 yX0_sentencesWith ∈ gw := in_g5 105 (by decide +kernel) rfl
theorem my_X0_sentencesWith : MY yX0_sentencesWith cX0_sentencesWith 4 (some .int) 1 := ⟨in_g1 6 (by decide +kernel) rfl, in_g5 108 (by decide +kernel) rfl, by decide, by decide, by decide +kernel, by decide⟩
theorem mi_X0_sentencesWith : MI yX0_sentencesWith := ⟨in_g5 106 (by decide +kernel) rfl, in_g5 107 (by decide +kernel) rfl⟩
theorem ml_RX9_238 : Cond.methodLink RX9 238 yX0_termFits ∈ gw := in_g5 117 (by decide +kernel) rfl
theorem ml_RX9_245 : Cond.methodLink RX9 245 yX0_firstWordOf ∈ gw := in_g5 125 (by decide +kernel) rfl
theorem ml_RX9_248 : Cond.methodLink RX9 248 yX0_itemOf ∈ gw := in_g5 130 (by decide +kernel) rfl
theorem my_X0_firstWordOf : MY yX0_firstWordOf cX0_firstWordOf 4 (some .int) 1 := ⟨in_g1 6 (by decide +kernel) rfl, in_g5 128 (by decide +kernel) rfl, by decide, by decide, by decide +kernel, by decide⟩
theorem mi_X0_firstWordOf : MI yX0_firstWordOf := ⟨in_g5 126 (by decide +kernel) rfl, in_g5 127 (by decide +kernel) rfl⟩
theorem my_X0_itemOf : MY yX0_itemOf cX0_itemOf 5 (some .int) 1 := ⟨in_g1 6 (by decide +kernel) rfl, in_g5 133 (by decide +kernel) rfl, by decide, by decide, by decide +kernel, by decide⟩
theorem mi_X0_itemOf : MI yX0_itemOf := ⟨in_g5 131 (by decide +kernel) rfl, in_g5 132 (by decide +kernel) rfl⟩
theorem fl_RX9_56 : FL RX9 56 9 6 := ⟨_, _, _, rfl, by decide, in_g2 191 (by decide +kernel) rfl, inX9⟩
theorem ml_RX9_251 : Cond.methodLink RX9 251 yX9_requireItems ∈ gw := in_g5 141 (by decide +kernel) rfl
theorem ml_RX9_254 : Cond.methodLink RX9 254 yX7_countMinimal ∈ gw := in_g5 146 (by decide +kernel) rfl
theorem ml_RX9_257 : Cond.methodLink RX9 257 yX7_seekMinimal ∈ gw := in_g5 163 (by decide +kernel) rfl
theorem ml_RX9_260 : Cond.methodLink RX9 260 yX7_found ∈ gw := in_g5 171 (by decide +kernel) rfl
theorem my_X9_requireItems : MY yX9_requireItems cX9_requireItems 2 none 1 := ⟨in_g1 1 (by decide +kernel) rfl, in_g5 144 (by decide +kernel) rfl, by decide, by decide, by decide +kernel, by decide⟩
theorem mi_X9_requireItems : MI yX9_requireItems := ⟨in_g5 143 (by decide +kernel) rfl, in_gw 4 (by decide +kernel) rfl⟩
theorem my_X7_countMinimal : MY yX7_countMinimal cX7_countMinimal 4 (some .int) 1 := ⟨in_g1 7 (by decide +kernel) rfl, in_g5 149 (by decide +kernel) rfl, by decide, by decide, by decide +kernel, by decide⟩
theorem mi_X7_countMinimal : MI yX7_countMinimal := ⟨in_g5 147 (by decide +kernel) rfl, in_g5 148 (by decide +kernel) rfl⟩
theorem my_X7_found : MY yX7_found cX7_found 2 (some .int) 1 := ⟨in_g1 7 (by decide +kernel) rfl, in_g5 174 (by decide +kernel) rfl, by decide, by decide, by decide +kernel, by decide⟩
theorem mi_X7_found : MI yX7_found := ⟨in_g5 172 (by decide +kernel) rfl, in_g5 173 (by decide +kernel) rfl⟩
theorem my_X7_seekMinimal : MY yX7_seekMinimal cX7_seekMinimal 5 none 2 := ⟨in_g1 7 (by decide +kernel) rfl, in_g5 166 (by decide +kernel) rfl, by decide, by decide, by decide +kernel, by decide⟩
theorem mi_X7_seekMinimal : MI yX7_seekMinimal := ⟨in_g5 164 (by decide +kernel) rfl, in_g5 165 (by decide +kernel) rfl⟩
theorem ml_RX9_263 : Cond.methodLink RX9 263 yX7_seekLeast ∈ gw := in_g5 183 (by decide +kernel) rfl
theorem my_X7_seekLeast : MY yX7_seekLeast cX7_seekLeast 3 none 1 := ⟨in_g1 7 (by decide +kernel) rfl, in_g5 186 (by decide +kernel) rfl, by decide, by decide, by decide +kernel, by decide⟩
theorem mi_X7_seekLeast : MI yX7_seekLeast := ⟨in_g5 184 (by decide +kernel) rfl, in_g5 185 (by decide +kernel) rfl⟩
theorem ml_RX9_266 : Cond.methodLink RX9 266 yX7_mostItems ∈ gw := in_g5 194 (by decide +kernel) rfl
theorem my_X7_mostItems : MY yX7_mostItems cX7_mostItems 6 (some .int) 1 := ⟨in_g1 7 (by decide +kernel) rfl, in_g5 197 (by decide +kernel) rfl, by decide, by decide, by decide +kernel, by decide⟩
theorem mi_X7_mostItems : MI yX7_mostItems := ⟨in_g5 195 (by decide +kernel) rfl, in_g5 196 (by decide +kernel) rfl⟩
theorem fl_RX9_272 : FL RX9 272 7 7 := ⟨_, _, _, rfl, by decide, in_g2 20 (by decide +kernel) rfl, inX7⟩
theorem ml_RX9_269 : Cond.methodLink RX9 269 yX7_seekWidest ∈ gw := in_g5 210 (by decide +kernel) rfl
theorem fl_RX9_278 : FL RX9 278 7 8 := ⟨_, _, _, rfl, by decide, in_g2 23 (by decide +kernel) rfl, inX7⟩
theorem ml_RX9_275 : Cond.methodLink RX9 275 yX7_seekCut ∈ gw := in_g5 231 (by decide +kernel) rfl
theorem ml_RX9_282 : Cond.methodLink RX9 282 yX9_requireSentences ∈ gw := in_g6 8 (by decide +kernel) rfl
theorem ml_RX9_288 : Cond.methodLink RX9 288 yX5_lengthOfSet ∈ gw := in_g6 13 (by decide +kernel) rfl
theorem ml_RX9_291 : Cond.methodLink RX9 291 yX5_mayBe ∈ gw := in_g6 14 (by decide +kernel) rfl
theorem my_X9_requireSentences : MY yX9_requireSentences cX9_requireSentences 2 none 1 := ⟨in_g1 1 (by decide +kernel) rfl, in_g6 11 (by decide +kernel) rfl, by decide, by decide, by decide +kernel, by decide⟩
theorem mi_X9_requireSentences : MI yX9_requireSentences := ⟨in_g6 10 (by decide +kernel) rfl, in_gw 5 (by decide +kernel) rfl⟩
theorem ml_RX9_294 : Cond.methodLink RX9 294 yX1_inCommon ∈ gw := in_g6 22 (by decide +kernel) rfl
theorem tw_RX9_312_316 : TW RX9 312 316 (exN 4) ["java/lang/RuntimeException", "java/lang/Exception"] := TW.of (by decide +kernel) (in_g6 31 (by decide +kernel) rfl) (in_g1 27 (by decide +kernel) rfl) (by decide +kernel) (by decide +kernel) (by decide +kernel)
theorem ml_RX9_317 : Cond.methodLink RX9 317 yX9_has ∈ gw := in_g6 54 (by decide +kernel) rfl
theorem fl_RX9_325 : FL RX9 325 5 12 := ⟨_, _, _, rfl, by decide, in_g2 111 (by decide +kernel) rfl, inX5⟩
theorem fl_RX9_328 : FL RX9 328 5 13 := ⟨_, _, _, rfl, by decide, in_g2 113 (by decide +kernel) rfl, inX5⟩
theorem fl_RX9_331 : FL RX9 331 5 14 := ⟨_, _, _, rfl, by decide, in_g2 115 (by decide +kernel) rfl, inX5⟩
theorem ml_RX9_322 : Cond.methodLink RX9 322 yX5_seekExchange ∈ gw := in_g6 63 (by decide +kernel) rfl
theorem my_X5_seekExchange : MY yX5_seekExchange cX5_seekExchange 4 none 0 := ⟨in_g1 8 (by decide +kernel) rfl, in_g6 66 (by decide +kernel) rfl, by decide, by decide, by decide +kernel, by decide⟩
theorem mi_X5_seekExchange : MI yX5_seekExchange := ⟨in_g6 64 (by decide +kernel) rfl, in_g6 65 (by decide +kernel) rfl⟩
theorem ml_RX9_336 : Cond.methodLink RX9 336 yX5_exchanged ∈ gw := in_g6 83 (by decide +kernel) rfl
theorem ml_RX9_342 : Cond.methodLink RX9 342 yX5_leastBudgetFor ∈ gw := in_g6 91 (by decide +kernel) rfl
theorem my_X5_leastBudgetFor : MY yX5_leastBudgetFor cX5_leastBudgetFor 2 (some .int) 1 := ⟨in_g1 8 (by decide +kernel) rfl, in_g6 94 (by decide +kernel) rfl, by decide, by decide, by decide +kernel, by decide⟩
theorem mi_X5_leastBudgetFor : MI yX5_leastBudgetFor := ⟨in_g6 92 (by decide +kernel) rfl, in_g6 93 (by decide +kernel) rfl⟩
theorem ml_RX9_345 : Cond.methodLink RX9 345 yX5_lossWithout ∈ gw := in_g6 103 (by decide +kernel) rfl
theorem my_X5_lossWithout : MY yX5_lossWithout cX5_lossWithout 3 (some .int) 1 := ⟨in_g1 8 (by decide +kernel) rfl, in_g6 106 (by decide +kernel) rfl, by decide, by decide, by decide +kernel, by decide⟩
theorem mi_X5_lossWithout : MI yX5_lossWithout := ⟨in_g6 104 (by decide +kernel) rfl, in_g6 105 (by decide +kernel) rfl⟩
theorem ml_RX9_348 : Cond.methodLink RX9 348 yX8_writeWidest ∈ gw := in_g6 115 (by decide +kernel) rfl
theorem my_X8_writeWidest : MY yX8_writeWidest cX8_writeWidest 4 none 1 := ⟨in_g1 10 (by decide +kernel) rfl, in_g6 118 (by decide +kernel) rfl, by decide, by decide, by decide +kernel, by decide⟩
theorem mi_X8_writeWidest : MI yX8_writeWidest := ⟨in_g6 116 (by decide +kernel) rfl, in_g6 117 (by decide +kernel) rfl⟩
theorem ml_RX9_352 : Cond.methodLink RX9 352 yX8_writeSet ∈ gw := in_g6 184 (by decide +kernel) rfl
theorem my_X8_writeSet : MY yX8_writeSet cX8_writeSet 8 none 2 := ⟨in_g1 10 (by decide +kernel) rfl, in_g6 187 (by decide +kernel) rfl, by decide, by decide, by decide +kernel, by decide⟩
theorem mi_X8_writeSet : MI yX8_writeSet := ⟨in_g6 185 (by decide +kernel) rfl, in_g6 186 (by decide +kernel) rfl⟩
theorem dX9_query_0 : decode cX9_query 0 = .ok (.aload_n 0, 1) := by decide +kernel
theorem dX9_query_1 : decode cX9_query 1 = .ok (.aload_n 0, 1) := by decide +kernel
theorem dX9_query_2 : decode cX9_query 2 = .ok (.getfield 38, 3) := by decide +kernel
theorem dX9_query_5 : decode cX9_query 5 = .ok (.invokevirtual 100, 3) := by decide +kernel
theorem dX9_query_8 : decode cX9_query 8 = .ok (.putfield 76, 3) := by decide +kernel
theorem dX9_query_11 : decode cX9_query 11 = .ok (.aload_n 0, 1) := by decide +kernel
theorem dX9_query_12 : decode cX9_query 12 = .ok (.getfield 10, 3) := by decide +kernel
theorem dX9_query_15 : decode cX9_query 15 = .ok (.iconst 0, 1) := by decide +kernel
theorem dX9_query_16 : decode cX9_query 16 = .ok (.putfield 80, 3) := by decide +kernel
theorem dX9_query_19 : decode cX9_query 19 = .ok (.aload_n 0, 1) := by decide +kernel
theorem dX9_query_20 : decode cX9_query 20 = .ok (.getfield 76, 3) := by decide +kernel
theorem dX9_query_23 : decode cX9_query 23 = .ok (.iconst (-1), 1) := by decide +kernel
theorem dX9_query_24 : decode cX9_query 24 = .ok (.if_icmp .eq 13, 3) := by decide +kernel
theorem dX9_query_27 : decode cX9_query 27 = .ok (.new 104, 3) := by decide +kernel
theorem dX9_query_30 : decode cX9_query 30 = .ok (.dup, 1) := by decide +kernel
theorem dX9_query_31 : decode cX9_query 31 = .ok (.ldc 106, 2) := by decide +kernel
theorem dX9_query_33 : decode cX9_query 33 = .ok (.invokespecial 108, 3) := by decide +kernel
theorem dX9_query_36 : decode cX9_query 36 = .ok (.athrow, 1) := by decide +kernel
theorem dX9_query_37 : decode cX9_query 37 = .ok (.aload_n 0, 1) := by decide +kernel
theorem dX9_query_38 : decode cX9_query 38 = .ok (.getfield 26, 3) := by decide +kernel
theorem dX9_query_41 : decode cX9_query 41 = .ok (.aload_n 0, 1) := by decide +kernel
theorem dX9_query_42 : decode cX9_query 42 = .ok (.getfield 30, 3) := by decide +kernel
theorem dX9_query_45 : decode cX9_query 45 = .ok (.invokevirtual 111, 3) := by decide +kernel
theorem dX9_query_48 : decode cX9_query 48 = .ok (.aload_n 0, 1) := by decide +kernel
theorem dX9_query_49 : decode cX9_query 49 = .ok (.getfield 47, 3) := by decide +kernel
theorem dX9_query_52 : decode cX9_query 52 = .ok (.invokevirtual 91, 3) := by decide +kernel
theorem dX9_query_55 : decode cX9_query 55 = .ok (.aload_n 0, 1) := by decide +kernel
theorem dX9_query_56 : decode cX9_query 56 = .ok (.getfield 63, 3) := by decide +kernel
theorem dX9_query_59 : decode cX9_query 59 = .ok (.invokevirtual 94, 3) := by decide +kernel
theorem dX9_query_62 : decode cX9_query 62 = .ok (.aload_n 0, 1) := by decide +kernel
theorem dX9_query_63 : decode cX9_query 63 = .ok (.getfield 26, 3) := by decide +kernel
theorem dX9_query_66 : decode cX9_query 66 = .ok (.getfield 115, 3) := by decide +kernel
theorem dX9_query_69 : decode cX9_query 69 = .ok (.ireturn, 1) := by decide +kernel
theorem dX9_requireWhat_0 : decode cX9_requireWhat 0 = .ok (.iload_n 0, 1) := by decide +kernel
theorem dX9_requireWhat_1 : decode cX9_requireWhat 1 = .ok (.ifCond .lt 8, 3) := by decide +kernel
theorem dX9_requireWhat_4 : decode cX9_requireWhat 4 = .ok (.iload_n 0, 1) := by decide +kernel
theorem dX9_requireWhat_5 : decode cX9_requireWhat 5 = .ok (.iload_n 1, 1) := by decide +kernel
theorem dX9_requireWhat_6 : decode cX9_requireWhat 6 = .ok (.if_icmp .le 14, 3) := by decide +kernel
theorem dX9_requireWhat_9 : decode cX9_requireWhat 9 = .ok (.new 381, 3) := by decide +kernel
theorem dX9_requireWhat_12 : decode cX9_requireWhat 12 = .ok (.dup, 1) := by decide +kernel
theorem dX9_requireWhat_13 : decode cX9_requireWhat 13 = .ok (.ldc_w 383, 3) := by decide +kernel
theorem dX9_requireWhat_16 : decode cX9_requireWhat 16 = .ok (.invokespecial 385, 3) := by decide +kernel
theorem dX9_requireWhat_19 : decode cX9_requireWhat 19 = .ok (.athrow, 1) := by decide +kernel
theorem dX9_requireWhat_20 : decode cX9_requireWhat 20 = .ok (.return_, 1) := by decide +kernel
theorem dX9_requireNumber_0 : decode cX9_requireNumber 0 = .ok (.iload_n 0, 1) := by decide +kernel
theorem dX9_requireNumber_1 : decode cX9_requireNumber 1 = .ok (.iload_n 1, 1) := by decide +kernel
theorem dX9_requireNumber_2 : decode cX9_requireNumber 2 = .ok (.if_icmp .lt 8, 3) := by decide +kernel
theorem dX9_requireNumber_5 : decode cX9_requireNumber 5 = .ok (.iload_n 0, 1) := by decide +kernel
theorem dX9_requireNumber_6 : decode cX9_requireNumber 6 = .ok (.iload_n 2, 1) := by decide +kernel
theorem dX9_requireNumber_7 : decode cX9_requireNumber 7 = .ok (.if_icmp .le 14, 3) := by decide +kernel
theorem dX9_requireNumber_10 : decode cX9_requireNumber 10 = .ok (.new 104, 3) := by decide +kernel
theorem dX9_requireNumber_13 : decode cX9_requireNumber 13 = .ok (.dup, 1) := by decide +kernel
theorem dX9_requireNumber_14 : decode cX9_requireNumber 14 = .ok (.ldc_w 386, 3) := by decide +kernel
theorem dX9_requireNumber_17 : decode cX9_requireNumber 17 = .ok (.invokespecial 108, 3) := by decide +kernel
theorem dX9_requireNumber_20 : decode cX9_requireNumber 20 = .ok (.athrow, 1) := by decide +kernel
theorem dX9_requireNumber_21 : decode cX9_requireNumber 21 = .ok (.return_, 1) := by decide +kernel
theorem dX9_tell_0 : decode cX9_tell 0 = .ok (.iload_n 1, 1) := by decide +kernel
theorem dX9_tell_1 : decode cX9_tell 1 = .ok (.iconst 2, 1) := by decide +kernel
theorem dX9_tell_2 : decode cX9_tell 2 = .ok (.invokestatic 118, 3) := by decide +kernel
theorem dX9_tell_5 : decode cX9_tell 5 = .ok (.aload_n 0, 1) := by decide +kernel
theorem dX9_tell_6 : decode cX9_tell 6 = .ok (.getfield 63, 3) := by decide +kernel
theorem dX9_tell_9 : decode cX9_tell 9 = .ok (.iload_n 1, 1) := by decide +kernel
theorem dX9_tell_10 : decode cX9_tell 10 = .ok (.invokevirtual 122, 3) := by decide +kernel
theorem dX9_tell_13 : decode cX9_tell 13 = .ok (.istore_n 3, 1) := by decide +kernel
theorem dX9_tell_14 : decode cX9_tell 14 = .ok (.iload_n 1, 1) := by decide +kernel
theorem dX9_tell_15 : decode cX9_tell 15 = .ok (.ifCond .ne 23, 3) := by decide +kernel
theorem dX9_tell_18 : decode cX9_tell 18 = .ok (.iload_n 2, 1) := by decide +kernel
theorem dX9_tell_19 : decode cX9_tell 19 = .ok (.bipush 20, 2) := by decide +kernel
theorem dX9_tell_21 : decode cX9_tell 21 = .ok (.sipush 700, 3) := by decide +kernel
theorem dX9_tell_24 : decode cX9_tell 24 = .ok (.invokestatic 126, 3) := by decide +kernel
theorem dX9_tell_27 : decode cX9_tell 27 = .ok (.aload_n 0, 1) := by decide +kernel
theorem dX9_tell_28 : decode cX9_tell 28 = .ok (.getfield 63, 3) := by decide +kernel
theorem dX9_tell_31 : decode cX9_tell 31 = .ok (.iload_n 2, 1) := by decide +kernel
theorem dX9_tell_32 : decode cX9_tell 32 = .ok (.putfield 130, 3) := by decide +kernel
theorem dX9_tell_35 : decode cX9_tell 35 = .ok (.goto 41, 3) := by decide +kernel
theorem dX9_tell_38 : decode cX9_tell 38 = .ok (.iload_n 1, 1) := by decide +kernel
theorem dX9_tell_39 : decode cX9_tell 39 = .ok (.iconst 1, 1) := by decide +kernel
theorem dX9_tell_40 : decode cX9_tell 40 = .ok (.if_icmp .ne 21, 3) := by decide +kernel
theorem dX9_tell_43 : decode cX9_tell 43 = .ok (.iload_n 2, 1) := by decide +kernel
theorem dX9_tell_44 : decode cX9_tell 44 = .ok (.iconst 1, 1) := by decide +kernel
theorem dX9_tell_45 : decode cX9_tell 45 = .ok (.bipush 6, 2) := by decide +kernel
theorem dX9_tell_47 : decode cX9_tell 47 = .ok (.invokestatic 126, 3) := by decide +kernel
theorem dX9_tell_50 : decode cX9_tell 50 = .ok (.aload_n 0, 1) := by decide +kernel
theorem dX9_tell_51 : decode cX9_tell 51 = .ok (.getfield 63, 3) := by decide +kernel
theorem dX9_tell_54 : decode cX9_tell 54 = .ok (.iload_n 2, 1) := by decide +kernel
theorem dX9_tell_55 : decode cX9_tell 55 = .ok (.putfield 133, 3) := by decide +kernel
theorem dX9_tell_58 : decode cX9_tell 58 = .ok (.goto 18, 3) := by decide +kernel
theorem dX9_tell_61 : decode cX9_tell 61 = .ok (.iload_n 2, 1) := by decide +kernel
theorem dX9_tell_62 : decode cX9_tell 62 = .ok (.iconst 0, 1) := by decide +kernel
theorem dX9_tell_63 : decode cX9_tell 63 = .ok (.bipush 100, 2) := by decide +kernel
theorem dX9_tell_65 : decode cX9_tell 65 = .ok (.invokestatic 126, 3) := by decide +kernel
theorem dX9_tell_68 : decode cX9_tell 68 = .ok (.aload_n 0, 1) := by decide +kernel
theorem dX9_tell_69 : decode cX9_tell 69 = .ok (.getfield 63, 3) := by decide +kernel
theorem dX9_tell_72 : decode cX9_tell 72 = .ok (.iload_n 2, 1) := by decide +kernel
theorem dX9_tell_73 : decode cX9_tell 73 = .ok (.putfield 136, 3) := by decide +kernel
theorem dX9_tell_76 : decode cX9_tell 76 = .ok (.aload_n 0, 1) := by decide +kernel
theorem dX9_tell_77 : decode cX9_tell 77 = .ok (.getfield 63, 3) := by decide +kernel
theorem dX9_tell_80 : decode cX9_tell 80 = .ok (.invokevirtual 94, 3) := by decide +kernel
theorem dX9_tell_83 : decode cX9_tell 83 = .ok (.iload_n 3, 1) := by decide +kernel
theorem dX9_tell_84 : decode cX9_tell 84 = .ok (.ireturn, 1) := by decide +kernel
theorem dX9_requireIndex_0 : decode cX9_requireIndex 0 = .ok (.iload_n 0, 1) := by decide +kernel
theorem dX9_requireIndex_1 : decode cX9_requireIndex 1 = .ok (.ifCond .lt 8, 3) := by decide +kernel
theorem dX9_requireIndex_4 : decode cX9_requireIndex 4 = .ok (.iload_n 0, 1) := by decide +kernel
theorem dX9_requireIndex_5 : decode cX9_requireIndex 5 = .ok (.iload_n 1, 1) := by decide +kernel
theorem dX9_requireIndex_6 : decode cX9_requireIndex 6 = .ok (.if_icmp .lt 14, 3) := by decide +kernel
theorem dX9_requireIndex_9 : decode cX9_requireIndex 9 = .ok (.new 376, 3) := by decide +kernel
theorem dX9_requireIndex_12 : decode cX9_requireIndex 12 = .ok (.dup, 1) := by decide +kernel
theorem dX9_requireIndex_13 : decode cX9_requireIndex 13 = .ok (.ldc_w 378, 3) := by decide +kernel
theorem dX9_requireIndex_16 : decode cX9_requireIndex 16 = .ok (.invokespecial 380, 3) := by decide +kernel
theorem dX9_requireIndex_19 : decode cX9_requireIndex 19 = .ok (.athrow, 1) := by decide +kernel
theorem dX9_requireIndex_20 : decode cX9_requireIndex 20 = .ok (.return_, 1) := by decide +kernel
theorem dX9_word_0 : decode cX9_word 0 = .ok (.iload_n 1, 1) := by decide +kernel
theorem dX9_word_1 : decode cX9_word 1 = .ok (.aload_n 0, 1) := by decide +kernel
theorem dX9_word_2 : decode cX9_word 2 = .ok (.getfield 19, 3) := by decide +kernel
theorem dX9_word_5 : decode cX9_word 5 = .ok (.getfield 147, 3) := by decide +kernel
theorem dX9_word_8 : decode cX9_word 8 = .ok (.invokestatic 150, 3) := by decide +kernel
theorem dX9_word_11 : decode cX9_word 11 = .ok (.iload_n 2, 1) := by decide +kernel
theorem dX9_word_12 : decode cX9_word 12 = .ok (.iconst 5, 1) := by decide +kernel
theorem dX9_word_13 : decode cX9_word 13 = .ok (.invokestatic 118, 3) := by decide +kernel
theorem dX9_word_16 : decode cX9_word 16 = .ok (.iload_n 2, 1) := by decide +kernel
theorem dX9_word_17 : decode cX9_word 17 = .ok (.tableswitch 95 0 4 #[35, 45, 65, 75, 85], 35) := by decide +kernel
theorem dX9_word_52 : decode cX9_word 52 = .ok (.aload_n 0, 1) := by decide +kernel
theorem dX9_word_53 : decode cX9_word 53 = .ok (.getfield 19, 3) := by decide +kernel
theorem dX9_word_56 : decode cX9_word 56 = .ok (.getfield 153, 3) := by decide +kernel
theorem dX9_word_59 : decode cX9_word 59 = .ok (.iload_n 1, 1) := by decide +kernel
theorem dX9_word_60 : decode cX9_word 60 = .ok (.iaload, 1) := by decide +kernel
theorem dX9_word_61 : decode cX9_word 61 = .ok (.ireturn, 1) := by decide +kernel
theorem dX9_word_62 : decode cX9_word 62 = .ok (.aload_n 0, 1) := by decide +kernel
theorem dX9_word_63 : decode cX9_word 63 = .ok (.getfield 19, 3) := by decide +kernel
theorem dX9_word_66 : decode cX9_word 66 = .ok (.getfield 156, 3) := by decide +kernel
theorem dX9_word_69 : decode cX9_word 69 = .ok (.iload_n 1, 1) := by decide +kernel
theorem dX9_word_70 : decode cX9_word 70 = .ok (.iaload, 1) := by decide +kernel
theorem dX9_word_71 : decode cX9_word 71 = .ok (.aload_n 0, 1) := by decide +kernel
theorem dX9_word_72 : decode cX9_word 72 = .ok (.getfield 19, 3) := by decide +kernel
theorem dX9_word_75 : decode cX9_word 75 = .ok (.getfield 153, 3) := by decide +kernel
theorem dX9_word_78 : decode cX9_word 78 = .ok (.iload_n 1, 1) := by decide +kernel
theorem dX9_word_79 : decode cX9_word 79 = .ok (.iaload, 1) := by decide +kernel
theorem dX9_word_80 : decode cX9_word 80 = .ok (.isub, 1) := by decide +kernel
theorem dX9_word_81 : decode cX9_word 81 = .ok (.ireturn, 1) := by decide +kernel
theorem dX9_word_82 : decode cX9_word 82 = .ok (.aload_n 0, 1) := by decide +kernel
theorem dX9_word_83 : decode cX9_word 83 = .ok (.getfield 19, 3) := by decide +kernel
theorem dX9_word_86 : decode cX9_word 86 = .ok (.iload_n 1, 1) := by decide +kernel
theorem dX9_word_87 : decode cX9_word 87 = .ok (.iload_n 1, 1) := by decide +kernel
theorem dX9_word_88 : decode cX9_word 88 = .ok (.invokevirtual 159, 3) := by decide +kernel
theorem dX9_word_91 : decode cX9_word 91 = .ok (.ireturn, 1) := by decide +kernel
theorem dX9_word_92 : decode cX9_word 92 = .ok (.aload_n 0, 1) := by decide +kernel
theorem dX9_word_93 : decode cX9_word 93 = .ok (.getfield 19, 3) := by decide +kernel
theorem dX9_word_96 : decode cX9_word 96 = .ok (.getfield 163, 3) := by decide +kernel
theorem dX9_word_99 : decode cX9_word 99 = .ok (.iload_n 1, 1) := by decide +kernel
theorem dX9_word_100 : decode cX9_word 100 = .ok (.iaload, 1) := by decide +kernel
theorem dX9_word_101 : decode cX9_word 101 = .ok (.ireturn, 1) := by decide +kernel
theorem dX9_word_102 : decode cX9_word 102 = .ok (.aload_n 0, 1) := by decide +kernel
theorem dX9_word_103 : decode cX9_word 103 = .ok (.getfield 47, 3) := by decide +kernel
theorem dX9_word_106 : decode cX9_word 106 = .ok (.getfield 166, 3) := by decide +kernel
theorem dX9_word_109 : decode cX9_word 109 = .ok (.iload_n 1, 1) := by decide +kernel
theorem dX9_word_110 : decode cX9_word 110 = .ok (.iaload, 1) := by decide +kernel
theorem dX9_word_111 : decode cX9_word 111 = .ok (.ireturn, 1) := by decide +kernel
theorem dX9_word_112 : decode cX9_word 112 = .ok (.aload_n 0, 1) := by decide +kernel
theorem dX9_word_113 : decode cX9_word 113 = .ok (.getfield 19, 3) := by decide +kernel
theorem dX9_word_116 : decode cX9_word 116 = .ok (.getfield 169, 3) := by decide +kernel
theorem dX9_word_119 : decode cX9_word 119 = .ok (.iload_n 1, 1) := by decide +kernel
theorem dX9_word_120 : decode cX9_word 120 = .ok (.iaload, 1) := by decide +kernel
theorem dX9_word_121 : decode cX9_word 121 = .ok (.ireturn, 1) := by decide +kernel
theorem dX9_sentence_0 : decode cX9_sentence 0 = .ok (.iload_n 1, 1) := by decide +kernel
theorem dX9_sentence_1 : decode cX9_sentence 1 = .ok (.aload_n 0, 1) := by decide +kernel
theorem dX9_sentence_2 : decode cX9_sentence 2 = .ok (.getfield 19, 3) := by decide +kernel
theorem dX9_sentence_5 : decode cX9_sentence 5 = .ok (.getfield 97, 3) := by decide +kernel
theorem dX9_sentence_8 : decode cX9_sentence 8 = .ok (.invokestatic 150, 3) := by decide +kernel
theorem dX9_sentence_11 : decode cX9_sentence 11 = .ok (.iload_n 2, 1) := by decide +kernel
theorem dX9_sentence_12 : decode cX9_sentence 12 = .ok (.bipush 10, 2) := by decide +kernel
theorem dX9_sentence_14 : decode cX9_sentence 14 = .ok (.invokestatic 118, 3) := by decide +kernel
theorem dX9_sentence_17 : decode cX9_sentence 17 = .ok (.iload_n 2, 1) := by decide +kernel
theorem dX9_sentence_18 : decode cX9_sentence 18 = .ok (.tableswitch 197 0 9 #[54, 64, 84, 94, 104, 114, 123, 140, 157, 173], 54) := by decide +kernel
theorem dX9_sentence_72 : decode cX9_sentence 72 = .ok (.aload_n 0, 1) := by decide +kernel
theorem dX9_sentence_73 : decode cX9_sentence 73 = .ok (.getfield 19, 3) := by decide +kernel
theorem dX9_sentence_76 : decode cX9_sentence 76 = .ok (.getfield 172, 3) := by decide +kernel
theorem dX9_sentence_79 : decode cX9_sentence 79 = .ok (.iload_n 1, 1) := by decide +kernel
theorem dX9_sentence_80 : decode cX9_sentence 80 = .ok (.iaload, 1) := by decide +kernel
theorem dX9_sentence_81 : decode cX9_sentence 81 = .ok (.ireturn, 1) := by decide +kernel
theorem dX9_sentence_82 : decode cX9_sentence 82 = .ok (.aload_n 0, 1) := by decide +kernel
theorem dX9_sentence_83 : decode cX9_sentence 83 = .ok (.getfield 19, 3) := by decide +kernel
theorem dX9_sentence_86 : decode cX9_sentence 86 = .ok (.getfield 175, 3) := by decide +kernel
theorem dX9_sentence_89 : decode cX9_sentence 89 = .ok (.iload_n 1, 1) := by decide +kernel
theorem dX9_sentence_90 : decode cX9_sentence 90 = .ok (.iaload, 1) := by decide +kernel
theorem dX9_sentence_91 : decode cX9_sentence 91 = .ok (.aload_n 0, 1) := by decide +kernel
theorem dX9_sentence_92 : decode cX9_sentence 92 = .ok (.getfield 19, 3) := by decide +kernel
theorem dX9_sentence_95 : decode cX9_sentence 95 = .ok (.getfield 172, 3) := by decide +kernel
theorem dX9_sentence_98 : decode cX9_sentence 98 = .ok (.iload_n 1, 1) := by decide +kernel
theorem dX9_sentence_99 : decode cX9_sentence 99 = .ok (.iaload, 1) := by decide +kernel
theorem dX9_sentence_100 : decode cX9_sentence 100 = .ok (.isub, 1) := by decide +kernel
theorem dX9_sentence_101 : decode cX9_sentence 101 = .ok (.ireturn, 1) := by decide +kernel
theorem dX9_sentence_102 : decode cX9_sentence 102 = .ok (.aload_n 0, 1) := by decide +kernel
theorem dX9_sentence_103 : decode cX9_sentence 103 = .ok (.getfield 19, 3) := by decide +kernel
theorem dX9_sentence_106 : decode cX9_sentence 106 = .ok (.getfield 178, 3) := by decide +kernel
theorem dX9_sentence_109 : decode cX9_sentence 109 = .ok (.iload_n 1, 1) := by decide +kernel
theorem dX9_sentence_110 : decode cX9_sentence 110 = .ok (.iaload, 1) := by decide +kernel
theorem dX9_sentence_111 : decode cX9_sentence 111 = .ok (.ireturn, 1) := by decide +kernel
theorem dX9_sentence_112 : decode cX9_sentence 112 = .ok (.aload_n 0, 1) := by decide +kernel
theorem dX9_sentence_113 : decode cX9_sentence 113 = .ok (.getfield 19, 3) := by decide +kernel
theorem dX9_sentence_116 : decode cX9_sentence 116 = .ok (.getfield 181, 3) := by decide +kernel
theorem dX9_sentence_119 : decode cX9_sentence 119 = .ok (.iload_n 1, 1) := by decide +kernel
theorem dX9_sentence_120 : decode cX9_sentence 120 = .ok (.iaload, 1) := by decide +kernel
theorem dX9_sentence_121 : decode cX9_sentence 121 = .ok (.ireturn, 1) := by decide +kernel
theorem dX9_sentence_122 : decode cX9_sentence 122 = .ok (.aload_n 0, 1) := by decide +kernel
theorem dX9_sentence_123 : decode cX9_sentence 123 = .ok (.getfield 19, 3) := by decide +kernel
theorem dX9_sentence_126 : decode cX9_sentence 126 = .ok (.getfield 184, 3) := by decide +kernel
theorem dX9_sentence_129 : decode cX9_sentence 129 = .ok (.iload_n 1, 1) := by decide +kernel
theorem dX9_sentence_130 : decode cX9_sentence 130 = .ok (.iaload, 1) := by decide +kernel
theorem dX9_sentence_131 : decode cX9_sentence 131 = .ok (.ireturn, 1) := by decide +kernel
theorem dX9_sentence_132 : decode cX9_sentence 132 = .ok (.aload_n 0, 1) := by decide +kernel
theorem dX9_sentence_133 : decode cX9_sentence 133 = .ok (.getfield 19, 3) := by decide +kernel
theorem dX9_sentence_136 : decode cX9_sentence 136 = .ok (.iload_n 1, 1) := by decide +kernel
theorem dX9_sentence_137 : decode cX9_sentence 137 = .ok (.invokevirtual 187, 3) := by decide +kernel
theorem dX9_sentence_140 : decode cX9_sentence 140 = .ok (.ireturn, 1) := by decide +kernel
theorem dX9_sentence_141 : decode cX9_sentence 141 = .ok (.aload_n 0, 1) := by decide +kernel
theorem dX9_sentence_142 : decode cX9_sentence 142 = .ok (.getfield 26, 3) := by decide +kernel
theorem dX9_sentence_145 : decode cX9_sentence 145 = .ok (.aload_n 0, 1) := by decide +kernel
theorem dX9_sentence_146 : decode cX9_sentence 146 = .ok (.getfield 47, 3) := by decide +kernel
theorem dX9_sentence_149 : decode cX9_sentence 149 = .ok (.getfield 190, 3) := by decide +kernel
theorem dX9_sentence_152 : decode cX9_sentence 152 = .ok (.iload_n 1, 1) := by decide +kernel
theorem dX9_sentence_153 : decode cX9_sentence 153 = .ok (.laload, 1) := by decide +kernel
theorem dX9_sentence_154 : decode cX9_sentence 154 = .ok (.invokevirtual 194, 3) := by decide +kernel
theorem dX9_sentence_157 : decode cX9_sentence 157 = .ok (.ireturn, 1) := by decide +kernel
theorem dX9_sentence_158 : decode cX9_sentence 158 = .ok (.aload_n 0, 1) := by decide +kernel
theorem dX9_sentence_159 : decode cX9_sentence 159 = .ok (.getfield 26, 3) := by decide +kernel
theorem dX9_sentence_162 : decode cX9_sentence 162 = .ok (.aload_n 0, 1) := by decide +kernel
theorem dX9_sentence_163 : decode cX9_sentence 163 = .ok (.getfield 47, 3) := by decide +kernel
theorem dX9_sentence_166 : decode cX9_sentence 166 = .ok (.getfield 190, 3) := by decide +kernel
theorem dX9_sentence_169 : decode cX9_sentence 169 = .ok (.iload_n 1, 1) := by decide +kernel
theorem dX9_sentence_170 : decode cX9_sentence 170 = .ok (.laload, 1) := by decide +kernel
theorem dX9_sentence_171 : decode cX9_sentence 171 = .ok (.invokevirtual 198, 3) := by decide +kernel
theorem dX9_sentence_174 : decode cX9_sentence 174 = .ok (.ireturn, 1) := by decide +kernel
theorem dX9_sentence_175 : decode cX9_sentence 175 = .ok (.aload_n 0, 1) := by decide +kernel
theorem dX9_sentence_176 : decode cX9_sentence 176 = .ok (.getfield 63, 3) := by decide +kernel
theorem dX9_sentence_179 : decode cX9_sentence 179 = .ok (.aload_n 0, 1) := by decide +kernel
theorem dX9_sentence_180 : decode cX9_sentence 180 = .ok (.getfield 63, 3) := by decide +kernel
theorem dX9_sentence_183 : decode cX9_sentence 183 = .ok (.getfield 201, 3) := by decide +kernel
theorem dX9_sentence_186 : decode cX9_sentence 186 = .ok (.iload_n 1, 1) := by decide +kernel
theorem dX9_sentence_187 : decode cX9_sentence 187 = .ok (.invokevirtual 204, 3) := by decide +kernel
theorem dX9_sentence_190 : decode cX9_sentence 190 = .ok (.ireturn, 1) := by decide +kernel
theorem dX9_sentence_191 : decode cX9_sentence 191 = .ok (.aload_n 0, 1) := by decide +kernel
theorem dX9_sentence_192 : decode cX9_sentence 192 = .ok (.getfield 63, 3) := by decide +kernel
theorem dX9_sentence_195 : decode cX9_sentence 195 = .ok (.aload_n 0, 1) := by decide +kernel
theorem dX9_sentence_196 : decode cX9_sentence 196 = .ok (.getfield 63, 3) := by decide +kernel
theorem dX9_sentence_199 : decode cX9_sentence 199 = .ok (.getfield 201, 3) := by decide +kernel
theorem dX9_sentence_202 : decode cX9_sentence 202 = .ok (.iload_n 1, 1) := by decide +kernel
theorem dX9_sentence_203 : decode cX9_sentence 203 = .ok (.invokevirtual 207, 3) := by decide +kernel
theorem dX9_sentence_206 : decode cX9_sentence 206 = .ok (.ifCond .eq 7, 3) := by decide +kernel
theorem dX9_sentence_209 : decode cX9_sentence 209 = .ok (.iconst 1, 1) := by decide +kernel
theorem dX9_sentence_210 : decode cX9_sentence 210 = .ok (.goto 4, 3) := by decide +kernel
theorem dX9_sentence_213 : decode cX9_sentence 213 = .ok (.iconst 0, 1) := by decide +kernel
theorem dX9_sentence_214 : decode cX9_sentence 214 = .ok (.ireturn, 1) := by decide +kernel
theorem dX9_sentence_215 : decode cX9_sentence 215 = .ok (.aload_n 0, 1) := by decide +kernel
theorem dX9_sentence_216 : decode cX9_sentence 216 = .ok (.getfield 19, 3) := by decide +kernel
theorem dX9_sentence_219 : decode cX9_sentence 219 = .ok (.iload_n 1, 1) := by decide +kernel
theorem dX9_sentence_220 : decode cX9_sentence 220 = .ok (.invokevirtual 211, 3) := by decide +kernel
theorem dX9_sentence_223 : decode cX9_sentence 223 = .ok (.ireturn, 1) := by decide +kernel
theorem dX9_item_0 : decode cX9_item 0 = .ok (.iload_n 1, 1) := by decide +kernel
theorem dX9_item_1 : decode cX9_item 1 = .ok (.aload_n 0, 1) := by decide +kernel
theorem dX9_item_2 : decode cX9_item 2 = .ok (.getfield 26, 3) := by decide +kernel
theorem dX9_item_5 : decode cX9_item 5 = .ok (.getfield 115, 3) := by decide +kernel
theorem dX9_item_8 : decode cX9_item 8 = .ok (.invokestatic 150, 3) := by decide +kernel
theorem dX9_item_11 : decode cX9_item 11 = .ok (.iload_n 2, 1) := by decide +kernel
theorem dX9_item_12 : decode cX9_item 12 = .ok (.iconst 4, 1) := by decide +kernel
theorem dX9_item_13 : decode cX9_item 13 = .ok (.invokestatic 118, 3) := by decide +kernel
theorem dX9_item_16 : decode cX9_item 16 = .ok (.iload_n 2, 1) := by decide +kernel
theorem dX9_item_17 : decode cX9_item 17 = .ok (.tableswitch 88 0 3 #[31, 41, 58, 68], 31) := by decide +kernel
theorem dX9_item_48 : decode cX9_item 48 = .ok (.aload_n 0, 1) := by decide +kernel
theorem dX9_item_49 : decode cX9_item 49 = .ok (.getfield 26, 3) := by decide +kernel
theorem dX9_item_52 : decode cX9_item 52 = .ok (.getfield 214, 3) := by decide +kernel
theorem dX9_item_55 : decode cX9_item 55 = .ok (.iload_n 1, 1) := by decide +kernel
theorem dX9_item_56 : decode cX9_item 56 = .ok (.iaload, 1) := by decide +kernel
theorem dX9_item_57 : decode cX9_item 57 = .ok (.ireturn, 1) := by decide +kernel
theorem dX9_item_58 : decode cX9_item 58 = .ok (.aload_n 0, 1) := by decide +kernel
theorem dX9_item_59 : decode cX9_item 59 = .ok (.getfield 26, 3) := by decide +kernel
theorem dX9_item_62 : decode cX9_item 62 = .ok (.iload_n 1, 1) := by decide +kernel
theorem dX9_item_63 : decode cX9_item 63 = .ok (.invokevirtual 217, 3) := by decide +kernel
theorem dX9_item_66 : decode cX9_item 66 = .ok (.ifCond .eq 7, 3) := by decide +kernel
theorem dX9_item_69 : decode cX9_item 69 = .ok (.iconst 1, 1) := by decide +kernel
theorem dX9_item_70 : decode cX9_item 70 = .ok (.goto 4, 3) := by decide +kernel
theorem dX9_item_73 : decode cX9_item 73 = .ok (.iconst 0, 1) := by decide +kernel
theorem dX9_item_74 : decode cX9_item 74 = .ok (.ireturn, 1) := by decide +kernel
theorem dX9_item_75 : decode cX9_item 75 = .ok (.aload_n 0, 1) := by decide +kernel
theorem dX9_item_76 : decode cX9_item 76 = .ok (.getfield 26, 3) := by decide +kernel
theorem dX9_item_79 : decode cX9_item 79 = .ok (.getfield 221, 3) := by decide +kernel
theorem dX9_item_82 : decode cX9_item 82 = .ok (.iload_n 1, 1) := by decide +kernel
theorem dX9_item_83 : decode cX9_item 83 = .ok (.iaload, 1) := by decide +kernel
theorem dX9_item_84 : decode cX9_item 84 = .ok (.ireturn, 1) := by decide +kernel
theorem dX9_item_85 : decode cX9_item 85 = .ok (.aload_n 0, 1) := by decide +kernel
theorem dX9_item_86 : decode cX9_item 86 = .ok (.getfield 26, 3) := by decide +kernel
theorem dX9_item_89 : decode cX9_item 89 = .ok (.aload_n 0, 1) := by decide +kernel
theorem dX9_item_90 : decode cX9_item 90 = .ok (.getfield 47, 3) := by decide +kernel
theorem dX9_item_93 : decode cX9_item 93 = .ok (.aload_n 0, 1) := by decide +kernel
theorem dX9_item_94 : decode cX9_item 94 = .ok (.invokevirtual 224, 3) := by decide +kernel
theorem dX9_item_97 : decode cX9_item 97 = .ok (.invokevirtual 227, 3) := by decide +kernel
theorem dX9_item_100 : decode cX9_item 100 = .ok (.iload_n 1, 1) := by decide +kernel
theorem dX9_item_101 : decode cX9_item 101 = .ok (.invokevirtual 231, 3) := by decide +kernel
theorem dX9_item_104 : decode cX9_item 104 = .ok (.ireturn, 1) := by decide +kernel
theorem dX9_item_105 : decode cX9_item 105 = .ok (.aload_n 0, 1) := by decide +kernel
theorem dX9_item_106 : decode cX9_item 106 = .ok (.getfield 47, 3) := by decide +kernel
theorem dX9_item_109 : decode cX9_item 109 = .ok (.iload_n 1, 1) := by decide +kernel
theorem dX9_item_110 : decode cX9_item 110 = .ok (.invokevirtual 235, 3) := by decide +kernel
theorem dX9_item_113 : decode cX9_item 113 = .ok (.ireturn, 1) := by decide +kernel
theorem dX9_fits_0 : decode cX9_fits 0 = .ok (.iload_n 1, 1) := by decide +kernel
theorem dX9_fits_1 : decode cX9_fits 1 = .ok (.aload_n 0, 1) := by decide +kernel
theorem dX9_fits_2 : decode cX9_fits 2 = .ok (.getfield 26, 3) := by decide +kernel
theorem dX9_fits_5 : decode cX9_fits 5 = .ok (.getfield 115, 3) := by decide +kernel
theorem dX9_fits_8 : decode cX9_fits 8 = .ok (.invokestatic 150, 3) := by decide +kernel
theorem dX9_fits_11 : decode cX9_fits 11 = .ok (.iload_n 3, 1) := by decide +kernel
theorem dX9_fits_12 : decode cX9_fits 12 = .ok (.aload_n 0, 1) := by decide +kernel
theorem dX9_fits_13 : decode cX9_fits 13 = .ok (.getfield 19, 3) := by decide +kernel
theorem dX9_fits_16 : decode cX9_fits 16 = .ok (.getfield 147, 3) := by decide +kernel
theorem dX9_fits_19 : decode cX9_fits 19 = .ok (.invokestatic 150, 3) := by decide +kernel
theorem dX9_fits_22 : decode cX9_fits 22 = .ok (.iload_n 2, 1) := by decide +kernel
theorem dX9_fits_23 : decode cX9_fits 23 = .ok (.ifCond .lt 16, 3) := by decide +kernel
theorem dX9_fits_26 : decode cX9_fits 26 = .ok (.iload_n 2, 1) := by decide +kernel
theorem dX9_fits_27 : decode cX9_fits 27 = .ok (.aload_n 0, 1) := by decide +kernel
theorem dX9_fits_28 : decode cX9_fits 28 = .ok (.getfield 26, 3) := by decide +kernel
theorem dX9_fits_31 : decode cX9_fits 31 = .ok (.getfield 221, 3) := by decide +kernel
theorem dX9_fits_34 : decode cX9_fits 34 = .ok (.iload_n 1, 1) := by decide +kernel
theorem dX9_fits_35 : decode cX9_fits 35 = .ok (.iaload, 1) := by decide +kernel
theorem dX9_fits_36 : decode cX9_fits 36 = .ok (.if_icmp .lt 5, 3) := by decide +kernel
theorem dX9_fits_39 : decode cX9_fits 39 = .ok (.iconst 0, 1) := by decide +kernel
theorem dX9_fits_40 : decode cX9_fits 40 = .ok (.ireturn, 1) := by decide +kernel
theorem dX9_fits_41 : decode cX9_fits 41 = .ok (.aload_n 0, 1) := by decide +kernel
theorem dX9_fits_42 : decode cX9_fits 42 = .ok (.getfield 47, 3) := by decide +kernel
theorem dX9_fits_45 : decode cX9_fits 45 = .ok (.iload_n 1, 1) := by decide +kernel
theorem dX9_fits_46 : decode cX9_fits 46 = .ok (.iload_n 2, 1) := by decide +kernel
theorem dX9_fits_47 : decode cX9_fits 47 = .ok (.iload_n 3, 1) := by decide +kernel
theorem dX9_fits_48 : decode cX9_fits 48 = .ok (.invokevirtual 238, 3) := by decide +kernel
theorem dX9_fits_51 : decode cX9_fits 51 = .ok (.ireturn, 1) := by decide +kernel
theorem dX9_match_0 : decode cX9_match 0 = .ok (.iload_n 1, 1) := by decide +kernel
theorem dX9_match_1 : decode cX9_match 1 = .ok (.aload_n 0, 1) := by decide +kernel
theorem dX9_match_2 : decode cX9_match 2 = .ok (.getfield 47, 3) := by decide +kernel
theorem dX9_match_5 : decode cX9_match 5 = .ok (.getfield 242, 3) := by decide +kernel
theorem dX9_match_8 : decode cX9_match 8 = .ok (.invokestatic 150, 3) := by decide +kernel
theorem dX9_match_11 : decode cX9_match 11 = .ok (.iload_n 2, 1) := by decide +kernel
theorem dX9_match_12 : decode cX9_match 12 = .ok (.iconst 2, 1) := by decide +kernel
theorem dX9_match_13 : decode cX9_match 13 = .ok (.invokestatic 118, 3) := by decide +kernel
theorem dX9_match_16 : decode cX9_match 16 = .ok (.aload_n 0, 1) := by decide +kernel
theorem dX9_match_17 : decode cX9_match 17 = .ok (.getfield 47, 3) := by decide +kernel
theorem dX9_match_20 : decode cX9_match 20 = .ok (.iload_n 1, 1) := by decide +kernel
theorem dX9_match_21 : decode cX9_match 21 = .ok (.invokevirtual 245, 3) := by decide +kernel
theorem dX9_match_24 : decode cX9_match 24 = .ok (.istore_n 3, 1) := by decide +kernel
theorem dX9_match_25 : decode cX9_match 25 = .ok (.aload_n 0, 1) := by decide +kernel
theorem dX9_match_26 : decode cX9_match 26 = .ok (.getfield 47, 3) := by decide +kernel
theorem dX9_match_29 : decode cX9_match 29 = .ok (.iload_n 1, 1) := by decide +kernel
theorem dX9_match_30 : decode cX9_match 30 = .ok (.invokevirtual 248, 3) := by decide +kernel
theorem dX9_match_33 : decode cX9_match 33 = .ok (.istore 4, 2) := by decide +kernel
theorem dX9_match_35 : decode cX9_match 35 = .ok (.iload_n 2, 1) := by decide +kernel
theorem dX9_match_36 : decode cX9_match 36 = .ok (.lookupswitch 33 #[(0, 28), (1, 31)], 28) := by decide +kernel
theorem dX9_match_64 : decode cX9_match 64 = .ok (.iload 4, 2) := by decide +kernel
theorem dX9_match_66 : decode cX9_match 66 = .ok (.ireturn, 1) := by decide +kernel
theorem dX9_match_67 : decode cX9_match 67 = .ok (.iload_n 3, 1) := by decide +kernel
theorem dX9_match_68 : decode cX9_match 68 = .ok (.ireturn, 1) := by decide +kernel
theorem dX9_match_69 : decode cX9_match 69 = .ok (.iload_n 3, 1) := by decide +kernel
theorem dX9_match_70 : decode cX9_match 70 = .ok (.aload_n 0, 1) := by decide +kernel
theorem dX9_match_71 : decode cX9_match 71 = .ok (.getfield 26, 3) := by decide +kernel
theorem dX9_match_74 : decode cX9_match 74 = .ok (.getfield 221, 3) := by decide +kernel
theorem dX9_match_77 : decode cX9_match 77 = .ok (.iload 4, 2) := by decide +kernel
theorem dX9_match_79 : decode cX9_match 79 = .ok (.iaload, 1) := by decide +kernel
theorem dX9_match_80 : decode cX9_match 80 = .ok (.iadd, 1) := by decide +kernel
theorem dX9_match_81 : decode cX9_match 81 = .ok (.iconst 1, 1) := by decide +kernel
theorem dX9_match_82 : decode cX9_match 82 = .ok (.isub, 1) := by decide +kernel
theorem dX9_match_83 : decode cX9_match 83 = .ok (.ireturn, 1) := by decide +kernel
theorem dX9_requireItems_0 : decode cX9_requireItems 0 = .ok (.iload_n 1, 1) := by decide +kernel
theorem dX9_requireItems_1 : decode cX9_requireItems 1 = .ok (.ifCond .eq 15, 3) := by decide +kernel
theorem dX9_requireItems_4 : decode cX9_requireItems 4 = .ok (.iload_n 1, 1) := by decide +kernel
theorem dX9_requireItems_5 : decode cX9_requireItems 5 = .ok (.aload_n 0, 1) := by decide +kernel
theorem dX9_requireItems_6 : decode cX9_requireItems 6 = .ok (.getfield 26, 3) := by decide +kernel
theorem dX9_requireItems_9 : decode cX9_requireItems 9 = .ok (.getfield 115, 3) := by decide +kernel
theorem dX9_requireItems_12 : decode cX9_requireItems 12 = .ok (.iushr, 1) := by decide +kernel
theorem dX9_requireItems_13 : decode cX9_requireItems 13 = .ok (.ifCond .eq 14, 3) := by decide +kernel
theorem dX9_requireItems_16 : decode cX9_requireItems 16 = .ok (.new 104, 3) := by decide +kernel
theorem dX9_requireItems_19 : decode cX9_requireItems 19 = .ok (.dup, 1) := by decide +kernel
theorem dX9_requireItems_20 : decode cX9_requireItems 20 = .ok (.ldc_w 388, 3) := by decide +kernel
theorem dX9_requireItems_23 : decode cX9_requireItems 23 = .ok (.invokespecial 108, 3) := by decide +kernel
theorem dX9_requireItems_26 : decode cX9_requireItems 26 = .ok (.athrow, 1) := by decide +kernel
theorem dX9_requireItems_27 : decode cX9_requireItems 27 = .ok (.return_, 1) := by decide +kernel
theorem dX9_window_0 : decode cX9_window 0 = .ok (.iload_n 3, 1) := by decide +kernel
theorem dX9_window_1 : decode cX9_window 1 = .ok (.iconst 2, 1) := by decide +kernel
theorem dX9_window_2 : decode cX9_window 2 = .ok (.invokestatic 118, 3) := by decide +kernel
theorem dX9_window_5 : decode cX9_window 5 = .ok (.aload_n 0, 1) := by decide +kernel
theorem dX9_window_6 : decode cX9_window 6 = .ok (.iload_n 1, 1) := by decide +kernel
theorem dX9_window_7 : decode cX9_window 7 = .ok (.invokevirtual 251, 3) := by decide +kernel
theorem dX9_window_10 : decode cX9_window 10 = .ok (.iload_n 2, 1) := by decide +kernel
theorem dX9_window_11 : decode cX9_window 11 = .ok (.iconst (-1), 1) := by decide +kernel
theorem dX9_window_12 : decode cX9_window 12 = .ok (.if_icmp .ne 12, 3) := by decide +kernel
theorem dX9_window_15 : decode cX9_window 15 = .ok (.aload_n 0, 1) := by decide +kernel
theorem dX9_window_16 : decode cX9_window 16 = .ok (.getfield 56, 3) := by decide +kernel
theorem dX9_window_19 : decode cX9_window 19 = .ok (.iload_n 1, 1) := by decide +kernel
theorem dX9_window_20 : decode cX9_window 20 = .ok (.invokevirtual 254, 3) := by decide +kernel
theorem dX9_window_23 : decode cX9_window 23 = .ok (.ireturn, 1) := by decide +kernel
theorem dX9_window_24 : decode cX9_window 24 = .ok (.aload_n 0, 1) := by decide +kernel
theorem dX9_window_25 : decode cX9_window 25 = .ok (.getfield 56, 3) := by decide +kernel
theorem dX9_window_28 : decode cX9_window 28 = .ok (.iload_n 1, 1) := by decide +kernel
theorem dX9_window_29 : decode cX9_window 29 = .ok (.iload_n 2, 1) := by decide +kernel
theorem dX9_window_30 : decode cX9_window 30 = .ok (.invokevirtual 257, 3) := by decide +kernel
theorem dX9_window_33 : decode cX9_window 33 = .ok (.aload_n 0, 1) := by decide +kernel
theorem dX9_window_34 : decode cX9_window 34 = .ok (.getfield 56, 3) := by decide +kernel
theorem dX9_window_37 : decode cX9_window 37 = .ok (.iload_n 3, 1) := by decide +kernel
theorem dX9_window_38 : decode cX9_window 38 = .ok (.invokevirtual 260, 3) := by decide +kernel
theorem dX9_window_41 : decode cX9_window 41 = .ok (.ireturn, 1) := by decide +kernel
theorem dX9_least_0 : decode cX9_least 0 = .ok (.iload_n 2, 1) := by decide +kernel
theorem dX9_least_1 : decode cX9_least 1 = .ok (.iconst 2, 1) := by decide +kernel
theorem dX9_least_2 : decode cX9_least 2 = .ok (.invokestatic 118, 3) := by decide +kernel
theorem dX9_least_5 : decode cX9_least 5 = .ok (.aload_n 0, 1) := by decide +kernel
theorem dX9_least_6 : decode cX9_least 6 = .ok (.iload_n 1, 1) := by decide +kernel
theorem dX9_least_7 : decode cX9_least 7 = .ok (.invokevirtual 251, 3) := by decide +kernel
theorem dX9_least_10 : decode cX9_least 10 = .ok (.aload_n 0, 1) := by decide +kernel
theorem dX9_least_11 : decode cX9_least 11 = .ok (.getfield 56, 3) := by decide +kernel
theorem dX9_least_14 : decode cX9_least 14 = .ok (.iload_n 1, 1) := by decide +kernel
theorem dX9_least_15 : decode cX9_least 15 = .ok (.invokevirtual 263, 3) := by decide +kernel
theorem dX9_least_18 : decode cX9_least 18 = .ok (.aload_n 0, 1) := by decide +kernel
theorem dX9_least_19 : decode cX9_least 19 = .ok (.getfield 56, 3) := by decide +kernel
theorem dX9_least_22 : decode cX9_least 22 = .ok (.iload_n 2, 1) := by decide +kernel
theorem dX9_least_23 : decode cX9_least 23 = .ok (.invokevirtual 260, 3) := by decide +kernel
theorem dX9_least_26 : decode cX9_least 26 = .ok (.ireturn, 1) := by decide +kernel
theorem dX9_most_0 : decode cX9_most 0 = .ok (.iload_n 1, 1) := by decide +kernel
theorem dX9_most_1 : decode cX9_most 1 = .ok (.iconst 1, 1) := by decide +kernel
theorem dX9_most_2 : decode cX9_most 2 = .ok (.sipush 600, 3) := by decide +kernel
theorem dX9_most_5 : decode cX9_most 5 = .ok (.invokestatic 126, 3) := by decide +kernel
theorem dX9_most_8 : decode cX9_most 8 = .ok (.aload_n 0, 1) := by decide +kernel
theorem dX9_most_9 : decode cX9_most 9 = .ok (.getfield 56, 3) := by decide +kernel
theorem dX9_most_12 : decode cX9_most 12 = .ok (.iload_n 1, 1) := by decide +kernel
theorem dX9_most_13 : decode cX9_most 13 = .ok (.invokevirtual 266, 3) := by decide +kernel
theorem dX9_most_16 : decode cX9_most 16 = .ok (.ireturn, 1) := by decide +kernel
theorem dX9_widest_0 : decode cX9_widest 0 = .ok (.iload_n 2, 1) := by decide +kernel
theorem dX9_widest_1 : decode cX9_widest 1 = .ok (.iconst 3, 1) := by decide +kernel
theorem dX9_widest_2 : decode cX9_widest 2 = .ok (.invokestatic 118, 3) := by decide +kernel
theorem dX9_widest_5 : decode cX9_widest 5 = .ok (.iload_n 1, 1) := by decide +kernel
theorem dX9_widest_6 : decode cX9_widest 6 = .ok (.iconst 1, 1) := by decide +kernel
theorem dX9_widest_7 : decode cX9_widest 7 = .ok (.sipush 600, 3) := by decide +kernel
theorem dX9_widest_10 : decode cX9_widest 10 = .ok (.invokestatic 126, 3) := by decide +kernel
theorem dX9_widest_13 : decode cX9_widest 13 = .ok (.aload_n 0, 1) := by decide +kernel
theorem dX9_widest_14 : decode cX9_widest 14 = .ok (.getfield 56, 3) := by decide +kernel
theorem dX9_widest_17 : decode cX9_widest 17 = .ok (.iconst 0, 1) := by decide +kernel
theorem dX9_widest_18 : decode cX9_widest 18 = .ok (.aload_n 0, 1) := by decide +kernel
theorem dX9_widest_19 : decode cX9_widest 19 = .ok (.getfield 19, 3) := by decide +kernel
theorem dX9_widest_22 : decode cX9_widest 22 = .ok (.getfield 147, 3) := by decide +kernel
theorem dX9_widest_25 : decode cX9_widest 25 = .ok (.iconst 1, 1) := by decide +kernel
theorem dX9_widest_26 : decode cX9_widest 26 = .ok (.isub, 1) := by decide +kernel
theorem dX9_widest_27 : decode cX9_widest 27 = .ok (.iload_n 1, 1) := by decide +kernel
theorem dX9_widest_28 : decode cX9_widest 28 = .ok (.invokevirtual 269, 3) := by decide +kernel
theorem dX9_widest_31 : decode cX9_widest 31 = .ok (.iload_n 2, 1) := by decide +kernel
theorem dX9_widest_32 : decode cX9_widest 32 = .ok (.iconst 3, 1) := by decide +kernel
theorem dX9_widest_33 : decode cX9_widest 33 = .ok (.if_icmp .ne 13, 3) := by decide +kernel
theorem dX9_widest_36 : decode cX9_widest 36 = .ok (.aload_n 0, 1) := by decide +kernel
theorem dX9_widest_37 : decode cX9_widest 37 = .ok (.getfield 56, 3) := by decide +kernel
theorem dX9_widest_40 : decode cX9_widest 40 = .ok (.getfield 272, 3) := by decide +kernel
theorem dX9_widest_43 : decode cX9_widest 43 = .ok (.goto 11, 3) := by decide +kernel
theorem dX9_widest_46 : decode cX9_widest 46 = .ok (.aload_n 0, 1) := by decide +kernel
theorem dX9_widest_47 : decode cX9_widest 47 = .ok (.getfield 56, 3) := by decide +kernel
theorem dX9_widest_50 : decode cX9_widest 50 = .ok (.iload_n 2, 1) := by decide +kernel
theorem dX9_widest_51 : decode cX9_widest 51 = .ok (.invokevirtual 260, 3) := by decide +kernel
theorem dX9_widest_54 : decode cX9_widest 54 = .ok (.ireturn, 1) := by decide +kernel
theorem dX9_cut_0 : decode cX9_cut 0 = .ok (.iload_n 1, 1) := by decide +kernel
theorem dX9_cut_1 : decode cX9_cut 1 = .ok (.aload_n 0, 1) := by decide +kernel
theorem dX9_cut_2 : decode cX9_cut 2 = .ok (.getfield 19, 3) := by decide +kernel
theorem dX9_cut_5 : decode cX9_cut 5 = .ok (.getfield 97, 3) := by decide +kernel
theorem dX9_cut_8 : decode cX9_cut 8 = .ok (.invokestatic 150, 3) := by decide +kernel
theorem dX9_cut_11 : decode cX9_cut 11 = .ok (.iload_n 3, 1) := by decide +kernel
theorem dX9_cut_12 : decode cX9_cut 12 = .ok (.iconst 2, 1) := by decide +kernel
theorem dX9_cut_13 : decode cX9_cut 13 = .ok (.invokestatic 118, 3) := by decide +kernel
theorem dX9_cut_16 : decode cX9_cut 16 = .ok (.iload_n 2, 1) := by decide +kernel
theorem dX9_cut_17 : decode cX9_cut 17 = .ok (.bipush 10, 2) := by decide +kernel
theorem dX9_cut_19 : decode cX9_cut 19 = .ok (.sipush 600, 3) := by decide +kernel
theorem dX9_cut_22 : decode cX9_cut 22 = .ok (.invokestatic 126, 3) := by decide +kernel
theorem dX9_cut_25 : decode cX9_cut 25 = .ok (.aload_n 0, 1) := by decide +kernel
theorem dX9_cut_26 : decode cX9_cut 26 = .ok (.getfield 56, 3) := by decide +kernel
theorem dX9_cut_29 : decode cX9_cut 29 = .ok (.iload_n 1, 1) := by decide +kernel
theorem dX9_cut_30 : decode cX9_cut 30 = .ok (.iload_n 2, 1) := by decide +kernel
theorem dX9_cut_31 : decode cX9_cut 31 = .ok (.invokevirtual 275, 3) := by decide +kernel
theorem dX9_cut_34 : decode cX9_cut 34 = .ok (.iload_n 3, 1) := by decide +kernel
theorem dX9_cut_35 : decode cX9_cut 35 = .ok (.iconst 2, 1) := by decide +kernel
theorem dX9_cut_36 : decode cX9_cut 36 = .ok (.if_icmp .ne 19, 3) := by decide +kernel
theorem dX9_cut_39 : decode cX9_cut 39 = .ok (.aload_n 0, 1) := by decide +kernel
theorem dX9_cut_40 : decode cX9_cut 40 = .ok (.getfield 56, 3) := by decide +kernel
theorem dX9_cut_43 : decode cX9_cut 43 = .ok (.getfield 278, 3) := by decide +kernel
theorem dX9_cut_46 : decode cX9_cut 46 = .ok (.ifCond .eq 7, 3) := by decide +kernel
theorem dX9_cut_49 : decode cX9_cut 49 = .ok (.iconst 1, 1) := by decide +kernel
theorem dX9_cut_50 : decode cX9_cut 50 = .ok (.goto 4, 3) := by decide +kernel
theorem dX9_cut_53 : decode cX9_cut 53 = .ok (.iconst 0, 1) := by decide +kernel
theorem dX9_cut_54 : decode cX9_cut 54 = .ok (.ireturn, 1) := by decide +kernel
theorem dX9_cut_55 : decode cX9_cut 55 = .ok (.aload_n 0, 1) := by decide +kernel
theorem dX9_cut_56 : decode cX9_cut 56 = .ok (.getfield 56, 3) := by decide +kernel
theorem dX9_cut_59 : decode cX9_cut 59 = .ok (.iload_n 3, 1) := by decide +kernel
theorem dX9_cut_60 : decode cX9_cut 60 = .ok (.invokevirtual 260, 3) := by decide +kernel
theorem dX9_cut_63 : decode cX9_cut 63 = .ok (.ireturn, 1) := by decide +kernel
theorem dX9_requireSentences_0 : decode cX9_requireSentences 0 = .ok (.iload_n 1, 1) := by decide +kernel
theorem dX9_requireSentences_1 : decode cX9_requireSentences 1 = .ok (.aload_n 0, 1) := by decide +kernel
theorem dX9_requireSentences_2 : decode cX9_requireSentences 2 = .ok (.getfield 19, 3) := by decide +kernel
theorem dX9_requireSentences_5 : decode cX9_requireSentences 5 = .ok (.getfield 97, 3) := by decide +kernel
theorem dX9_requireSentences_8 : decode cX9_requireSentences 8 = .ok (.iushr, 1) := by decide +kernel
theorem dX9_requireSentences_9 : decode cX9_requireSentences 9 = .ok (.ifCond .eq 14, 3) := by decide +kernel
theorem dX9_requireSentences_12 : decode cX9_requireSentences 12 = .ok (.new 104, 3) := by decide +kernel
theorem dX9_requireSentences_15 : decode cX9_requireSentences 15 = .ok (.dup, 1) := by decide +kernel
theorem dX9_requireSentences_16 : decode cX9_requireSentences 16 = .ok (.ldc_w 390, 3) := by decide +kernel
theorem dX9_requireSentences_19 : decode cX9_requireSentences 19 = .ok (.invokespecial 108, 3) := by decide +kernel
theorem dX9_requireSentences_22 : decode cX9_requireSentences 22 = .ok (.athrow, 1) := by decide +kernel
theorem dX9_requireSentences_23 : decode cX9_requireSentences 23 = .ok (.return_, 1) := by decide +kernel
theorem dX9_set_0 : decode cX9_set 0 = .ok (.iload_n 2, 1) := by decide +kernel
theorem dX9_set_1 : decode cX9_set 1 = .ok (.iconst 3, 1) := by decide +kernel
theorem dX9_set_2 : decode cX9_set 2 = .ok (.invokestatic 118, 3) := by decide +kernel
theorem dX9_set_5 : decode cX9_set 5 = .ok (.aload_n 0, 1) := by decide +kernel
theorem dX9_set_6 : decode cX9_set 6 = .ok (.iload_n 1, 1) := by decide +kernel
theorem dX9_set_7 : decode cX9_set 7 = .ok (.invokevirtual 282, 3) := by decide +kernel
theorem dX9_set_10 : decode cX9_set 10 = .ok (.iload_n 2, 1) := by decide +kernel
theorem dX9_set_11 : decode cX9_set 11 = .ok (.tableswitch 60 0 2 #[25, 34, 43], 25) := by decide +kernel
theorem dX9_set_36 : decode cX9_set 36 = .ok (.aload_n 0, 1) := by decide +kernel
theorem dX9_set_37 : decode cX9_set 37 = .ok (.getfield 63, 3) := by decide +kernel
theorem dX9_set_40 : decode cX9_set 40 = .ok (.iload_n 1, 1) := by decide +kernel
theorem dX9_set_41 : decode cX9_set 41 = .ok (.invokevirtual 285, 3) := by decide +kernel
theorem dX9_set_44 : decode cX9_set 44 = .ok (.ireturn, 1) := by decide +kernel
theorem dX9_set_45 : decode cX9_set 45 = .ok (.aload_n 0, 1) := by decide +kernel
theorem dX9_set_46 : decode cX9_set 46 = .ok (.getfield 63, 3) := by decide +kernel
theorem dX9_set_49 : decode cX9_set 49 = .ok (.iload_n 1, 1) := by decide +kernel
theorem dX9_set_50 : decode cX9_set 50 = .ok (.invokevirtual 288, 3) := by decide +kernel
theorem dX9_set_53 : decode cX9_set 53 = .ok (.ireturn, 1) := by decide +kernel
theorem dX9_set_54 : decode cX9_set 54 = .ok (.aload_n 0, 1) := by decide +kernel
theorem dX9_set_55 : decode cX9_set 55 = .ok (.getfield 63, 3) := by decide +kernel
theorem dX9_set_58 : decode cX9_set 58 = .ok (.iload_n 1, 1) := by decide +kernel
theorem dX9_set_59 : decode cX9_set 59 = .ok (.invokevirtual 291, 3) := by decide +kernel
theorem dX9_set_62 : decode cX9_set 62 = .ok (.ifCond .eq 7, 3) := by decide +kernel
theorem dX9_set_65 : decode cX9_set 65 = .ok (.iconst 1, 1) := by decide +kernel
theorem dX9_set_66 : decode cX9_set 66 = .ok (.goto 4, 3) := by decide +kernel
theorem dX9_set_69 : decode cX9_set 69 = .ok (.iconst 0, 1) := by decide +kernel
theorem dX9_set_70 : decode cX9_set 70 = .ok (.ireturn, 1) := by decide +kernel
theorem dX9_set_71 : decode cX9_set 71 = .ok (.aload_n 0, 1) := by decide +kernel
theorem dX9_set_72 : decode cX9_set 72 = .ok (.getfield 26, 3) := by decide +kernel
theorem dX9_set_75 : decode cX9_set 75 = .ok (.aload_n 0, 1) := by decide +kernel
theorem dX9_set_76 : decode cX9_set 76 = .ok (.getfield 47, 3) := by decide +kernel
theorem dX9_set_79 : decode cX9_set 79 = .ok (.iload_n 1, 1) := by decide +kernel
theorem dX9_set_80 : decode cX9_set 80 = .ok (.invokevirtual 227, 3) := by decide +kernel
theorem dX9_set_83 : decode cX9_set 83 = .ok (.invokevirtual 194, 3) := by decide +kernel
theorem dX9_set_86 : decode cX9_set 86 = .ok (.ireturn, 1) := by decide +kernel
theorem dX9_common_0 : decode cX9_common 0 = .ok (.iload_n 1, 1) := by decide +kernel
theorem dX9_common_1 : decode cX9_common 1 = .ok (.aload_n 0, 1) := by decide +kernel
theorem dX9_common_2 : decode cX9_common 2 = .ok (.getfield 19, 3) := by decide +kernel
theorem dX9_common_5 : decode cX9_common 5 = .ok (.getfield 97, 3) := by decide +kernel
theorem dX9_common_8 : decode cX9_common 8 = .ok (.invokestatic 150, 3) := by decide +kernel
theorem dX9_common_11 : decode cX9_common 11 = .ok (.iload_n 2, 1) := by decide +kernel
theorem dX9_common_12 : decode cX9_common 12 = .ok (.aload_n 0, 1) := by decide +kernel
theorem dX9_common_13 : decode cX9_common 13 = .ok (.getfield 19, 3) := by decide +kernel
theorem dX9_common_16 : decode cX9_common 16 = .ok (.getfield 97, 3) := by decide +kernel
theorem dX9_common_19 : decode cX9_common 19 = .ok (.invokestatic 150, 3) := by decide +kernel
theorem dX9_common_22 : decode cX9_common 22 = .ok (.aload_n 0, 1) := by decide +kernel
theorem dX9_common_23 : decode cX9_common 23 = .ok (.getfield 19, 3) := by decide +kernel
theorem dX9_common_26 : decode cX9_common 26 = .ok (.iload_n 1, 1) := by decide +kernel
theorem dX9_common_27 : decode cX9_common 27 = .ok (.iload_n 2, 1) := by decide +kernel
theorem dX9_common_28 : decode cX9_common 28 = .ok (.invokevirtual 294, 3) := by decide +kernel
theorem dX9_common_31 : decode cX9_common 31 = .ok (.ireturn, 1) := by decide +kernel
theorem dX9_choose_0 : decode cX9_choose 0 = .ok (.iload_n 1, 1) := by decide +kernel
theorem dX9_choose_1 : decode cX9_choose 1 = .ok (.aload_n 0, 1) := by decide +kernel
theorem dX9_choose_2 : decode cX9_choose 2 = .ok (.getfield 19, 3) := by decide +kernel
theorem dX9_choose_5 : decode cX9_choose 5 = .ok (.getfield 97, 3) := by decide +kernel
theorem dX9_choose_8 : decode cX9_choose 8 = .ok (.invokestatic 150, 3) := by decide +kernel
theorem dX9_choose_11 : decode cX9_choose 11 = .ok (.aload_n 0, 1) := by decide +kernel
theorem dX9_choose_12 : decode cX9_choose 12 = .ok (.getfield 63, 3) := by decide +kernel
theorem dX9_choose_15 : decode cX9_choose 15 = .ok (.aload_n 0, 1) := by decide +kernel
theorem dX9_choose_16 : decode cX9_choose 16 = .ok (.getfield 63, 3) := by decide +kernel
theorem dX9_choose_19 : decode cX9_choose 19 = .ok (.getfield 201, 3) := by decide +kernel
theorem dX9_choose_22 : decode cX9_choose 22 = .ok (.iload_n 1, 1) := by decide +kernel
theorem dX9_choose_23 : decode cX9_choose 23 = .ok (.invokevirtual 207, 3) := by decide +kernel
theorem dX9_choose_26 : decode cX9_choose 26 = .ok (.ifCond .ne 14, 3) := by decide +kernel
theorem dX9_choose_29 : decode cX9_choose 29 = .ok (.new 312, 3) := by decide +kernel
theorem dX9_choose_32 : decode cX9_choose 32 = .ok (.dup, 1) := by decide +kernel
theorem dX9_choose_33 : decode cX9_choose 33 = .ok (.ldc_w 314, 3) := by decide +kernel
theorem dX9_choose_36 : decode cX9_choose 36 = .ok (.invokespecial 316, 3) := by decide +kernel
theorem dX9_choose_39 : decode cX9_choose 39 = .ok (.athrow, 1) := by decide +kernel
theorem dX9_choose_40 : decode cX9_choose 40 = .ok (.aload_n 0, 1) := by decide +kernel
theorem dX9_choose_41 : decode cX9_choose 41 = .ok (.getfield 63, 3) := by decide +kernel
theorem dX9_choose_44 : decode cX9_choose 44 = .ok (.dup, 1) := by decide +kernel
theorem dX9_choose_45 : decode cX9_choose 45 = .ok (.getfield 201, 3) := by decide +kernel
theorem dX9_choose_48 : decode cX9_choose 48 = .ok (.iconst 1, 1) := by decide +kernel
theorem dX9_choose_49 : decode cX9_choose 49 = .ok (.iload_n 1, 1) := by decide +kernel
theorem dX9_choose_50 : decode cX9_choose 50 = .ok (.ishl, 1) := by decide +kernel
theorem dX9_choose_51 : decode cX9_choose 51 = .ok (.ior, 1) := by decide +kernel
theorem dX9_choose_52 : decode cX9_choose 52 = .ok (.putfield 201, 3) := by decide +kernel
theorem dX9_choose_55 : decode cX9_choose 55 = .ok (.aload_n 0, 1) := by decide +kernel
theorem dX9_choose_56 : decode cX9_choose 56 = .ok (.getfield 63, 3) := by decide +kernel
theorem dX9_choose_59 : decode cX9_choose 59 = .ok (.aload_n 0, 1) := by decide +kernel
theorem dX9_choose_60 : decode cX9_choose 60 = .ok (.getfield 63, 3) := by decide +kernel
theorem dX9_choose_63 : decode cX9_choose 63 = .ok (.getfield 201, 3) := by decide +kernel
theorem dX9_choose_66 : decode cX9_choose 66 = .ok (.invokevirtual 285, 3) := by decide +kernel
theorem dX9_choose_69 : decode cX9_choose 69 = .ok (.ireturn, 1) := by decide +kernel
theorem dX9_drop_0 : decode cX9_drop 0 = .ok (.iload_n 1, 1) := by decide +kernel
theorem dX9_drop_1 : decode cX9_drop 1 = .ok (.aload_n 0, 1) := by decide +kernel
theorem dX9_drop_2 : decode cX9_drop 2 = .ok (.getfield 19, 3) := by decide +kernel
theorem dX9_drop_5 : decode cX9_drop 5 = .ok (.getfield 97, 3) := by decide +kernel
theorem dX9_drop_8 : decode cX9_drop 8 = .ok (.invokestatic 150, 3) := by decide +kernel
theorem dX9_drop_11 : decode cX9_drop 11 = .ok (.aload_n 0, 1) := by decide +kernel
theorem dX9_drop_12 : decode cX9_drop 12 = .ok (.getfield 63, 3) := by decide +kernel
theorem dX9_drop_15 : decode cX9_drop 15 = .ok (.getfield 201, 3) := by decide +kernel
theorem dX9_drop_18 : decode cX9_drop 18 = .ok (.iload_n 1, 1) := by decide +kernel
theorem dX9_drop_19 : decode cX9_drop 19 = .ok (.invokestatic 317, 3) := by decide +kernel
theorem dX9_drop_22 : decode cX9_drop 22 = .ok (.ifCond .ne 14, 3) := by decide +kernel
theorem dX9_drop_25 : decode cX9_drop 25 = .ok (.new 312, 3) := by decide +kernel
theorem dX9_drop_28 : decode cX9_drop 28 = .ok (.dup, 1) := by decide +kernel
theorem dX9_drop_29 : decode cX9_drop 29 = .ok (.ldc_w 320, 3) := by decide +kernel
theorem dX9_drop_32 : decode cX9_drop 32 = .ok (.invokespecial 316, 3) := by decide +kernel
theorem dX9_drop_35 : decode cX9_drop 35 = .ok (.athrow, 1) := by decide +kernel
theorem dX9_drop_36 : decode cX9_drop 36 = .ok (.aload_n 0, 1) := by decide +kernel
theorem dX9_drop_37 : decode cX9_drop 37 = .ok (.getfield 63, 3) := by decide +kernel
theorem dX9_drop_40 : decode cX9_drop 40 = .ok (.dup, 1) := by decide +kernel
theorem dX9_drop_41 : decode cX9_drop 41 = .ok (.getfield 201, 3) := by decide +kernel
theorem dX9_drop_44 : decode cX9_drop 44 = .ok (.iconst 1, 1) := by decide +kernel
theorem dX9_drop_45 : decode cX9_drop 45 = .ok (.iload_n 1, 1) := by decide +kernel
theorem dX9_drop_46 : decode cX9_drop 46 = .ok (.ishl, 1) := by decide +kernel
theorem dX9_drop_47 : decode cX9_drop 47 = .ok (.iconst (-1), 1) := by decide +kernel
theorem dX9_drop_48 : decode cX9_drop 48 = .ok (.ixor, 1) := by decide +kernel
theorem dX9_drop_49 : decode cX9_drop 49 = .ok (.iand, 1) := by decide +kernel
theorem dX9_drop_50 : decode cX9_drop 50 = .ok (.putfield 201, 3) := by decide +kernel
theorem dX9_drop_53 : decode cX9_drop 53 = .ok (.aload_n 0, 1) := by decide +kernel
theorem dX9_drop_54 : decode cX9_drop 54 = .ok (.getfield 63, 3) := by decide +kernel
theorem dX9_drop_57 : decode cX9_drop 57 = .ok (.aload_n 0, 1) := by decide +kernel
theorem dX9_drop_58 : decode cX9_drop 58 = .ok (.getfield 63, 3) := by decide +kernel
theorem dX9_drop_61 : decode cX9_drop 61 = .ok (.getfield 201, 3) := by decide +kernel
theorem dX9_drop_64 : decode cX9_drop 64 = .ok (.invokevirtual 285, 3) := by decide +kernel
theorem dX9_drop_67 : decode cX9_drop 67 = .ok (.ireturn, 1) := by decide +kernel
theorem dX9_exchange_0 : decode cX9_exchange 0 = .ok (.iload_n 1, 1) := by decide +kernel
theorem dX9_exchange_1 : decode cX9_exchange 1 = .ok (.iconst 2, 1) := by decide +kernel
theorem dX9_exchange_2 : decode cX9_exchange 2 = .ok (.invokestatic 118, 3) := by decide +kernel
theorem dX9_exchange_5 : decode cX9_exchange 5 = .ok (.aload_n 0, 1) := by decide +kernel
theorem dX9_exchange_6 : decode cX9_exchange 6 = .ok (.getfield 63, 3) := by decide +kernel
theorem dX9_exchange_9 : decode cX9_exchange 9 = .ok (.invokevirtual 322, 3) := by decide +kernel
theorem dX9_exchange_12 : decode cX9_exchange 12 = .ok (.iload_n 1, 1) := by decide +kernel
theorem dX9_exchange_13 : decode cX9_exchange 13 = .ok (.lookupswitch 43 #[(0, 27), (1, 35)], 27) := by decide +kernel
theorem dX9_exchange_40 : decode cX9_exchange 40 = .ok (.aload_n 0, 1) := by decide +kernel
theorem dX9_exchange_41 : decode cX9_exchange 41 = .ok (.getfield 63, 3) := by decide +kernel
theorem dX9_exchange_44 : decode cX9_exchange 44 = .ok (.getfield 325, 3) := by decide +kernel
theorem dX9_exchange_47 : decode cX9_exchange 47 = .ok (.ireturn, 1) := by decide +kernel
theorem dX9_exchange_48 : decode cX9_exchange 48 = .ok (.aload_n 0, 1) := by decide +kernel
theorem dX9_exchange_49 : decode cX9_exchange 49 = .ok (.getfield 63, 3) := by decide +kernel
theorem dX9_exchange_52 : decode cX9_exchange 52 = .ok (.getfield 328, 3) := by decide +kernel
theorem dX9_exchange_55 : decode cX9_exchange 55 = .ok (.ireturn, 1) := by decide +kernel
theorem dX9_exchange_56 : decode cX9_exchange 56 = .ok (.aload_n 0, 1) := by decide +kernel
theorem dX9_exchange_57 : decode cX9_exchange 57 = .ok (.getfield 63, 3) := by decide +kernel
theorem dX9_exchange_60 : decode cX9_exchange 60 = .ok (.getfield 331, 3) := by decide +kernel
theorem dX9_exchange_63 : decode cX9_exchange 63 = .ok (.ireturn, 1) := by decide +kernel
theorem dX9_trade_0 : decode cX9_trade 0 = .ok (.aload_n 0, 1) := by decide +kernel
theorem dX9_trade_1 : decode cX9_trade 1 = .ok (.getfield 63, 3) := by decide +kernel
theorem dX9_trade_4 : decode cX9_trade 4 = .ok (.invokevirtual 322, 3) := by decide +kernel
theorem dX9_trade_7 : decode cX9_trade 7 = .ok (.aload_n 0, 1) := by decide +kernel
theorem dX9_trade_8 : decode cX9_trade 8 = .ok (.getfield 63, 3) := by decide +kernel
theorem dX9_trade_11 : decode cX9_trade 11 = .ok (.getfield 325, 3) := by decide +kernel
theorem dX9_trade_14 : decode cX9_trade 14 = .ok (.iconst (-1), 1) := by decide +kernel
theorem dX9_trade_15 : decode cX9_trade 15 = .ok (.if_icmp .ne 14, 3) := by decide +kernel
theorem dX9_trade_18 : decode cX9_trade 18 = .ok (.new 312, 3) := by decide +kernel
theorem dX9_trade_21 : decode cX9_trade 21 = .ok (.dup, 1) := by decide +kernel
theorem dX9_trade_22 : decode cX9_trade 22 = .ok (.ldc_w 334, 3) := by decide +kernel
theorem dX9_trade_25 : decode cX9_trade 25 = .ok (.invokespecial 316, 3) := by decide +kernel
theorem dX9_trade_28 : decode cX9_trade 28 = .ok (.athrow, 1) := by decide +kernel
theorem dX9_trade_29 : decode cX9_trade 29 = .ok (.aload_n 0, 1) := by decide +kernel
theorem dX9_trade_30 : decode cX9_trade 30 = .ok (.getfield 63, 3) := by decide +kernel
theorem dX9_trade_33 : decode cX9_trade 33 = .ok (.aload_n 0, 1) := by decide +kernel
theorem dX9_trade_34 : decode cX9_trade 34 = .ok (.getfield 63, 3) := by decide +kernel
theorem dX9_trade_37 : decode cX9_trade 37 = .ok (.aload_n 0, 1) := by decide +kernel
theorem dX9_trade_38 : decode cX9_trade 38 = .ok (.getfield 63, 3) := by decide +kernel
theorem dX9_trade_41 : decode cX9_trade 41 = .ok (.getfield 325, 3) := by decide +kernel
theorem dX9_trade_44 : decode cX9_trade 44 = .ok (.aload_n 0, 1) := by decide +kernel
theorem dX9_trade_45 : decode cX9_trade 45 = .ok (.getfield 63, 3) := by decide +kernel
theorem dX9_trade_48 : decode cX9_trade 48 = .ok (.getfield 328, 3) := by decide +kernel
theorem dX9_trade_51 : decode cX9_trade 51 = .ok (.invokevirtual 336, 3) := by decide +kernel
theorem dX9_trade_54 : decode cX9_trade 54 = .ok (.putfield 201, 3) := by decide +kernel
theorem dX9_trade_57 : decode cX9_trade 57 = .ok (.aload_n 0, 1) := by decide +kernel
theorem dX9_trade_58 : decode cX9_trade 58 = .ok (.getfield 63, 3) := by decide +kernel
theorem dX9_trade_61 : decode cX9_trade 61 = .ok (.aload_n 0, 1) := by decide +kernel
theorem dX9_trade_62 : decode cX9_trade 62 = .ok (.getfield 63, 3) := by decide +kernel
theorem dX9_trade_65 : decode cX9_trade 65 = .ok (.getfield 201, 3) := by decide +kernel
theorem dX9_trade_68 : decode cX9_trade 68 = .ok (.invokevirtual 285, 3) := by decide +kernel
theorem dX9_trade_71 : decode cX9_trade 71 = .ok (.ireturn, 1) := by decide +kernel
theorem dX9_need_0 : decode cX9_need 0 = .ok (.iload_n 1, 1) := by decide +kernel
theorem dX9_need_1 : decode cX9_need 1 = .ok (.iconst 1, 1) := by decide +kernel
theorem dX9_need_2 : decode cX9_need 2 = .ok (.sipush 1008, 3) := by decide +kernel
theorem dX9_need_5 : decode cX9_need 5 = .ok (.invokestatic 126, 3) := by decide +kernel
theorem dX9_need_8 : decode cX9_need 8 = .ok (.aload_n 0, 1) := by decide +kernel
theorem dX9_need_9 : decode cX9_need 9 = .ok (.getfield 63, 3) := by decide +kernel
theorem dX9_need_12 : decode cX9_need 12 = .ok (.iload_n 1, 1) := by decide +kernel
theorem dX9_need_13 : decode cX9_need 13 = .ok (.invokevirtual 342, 3) := by decide +kernel
theorem dX9_need_16 : decode cX9_need 16 = .ok (.ireturn, 1) := by decide +kernel
theorem dX9_loss_0 : decode cX9_loss 0 = .ok (.iload_n 1, 1) := by decide +kernel
theorem dX9_loss_1 : decode cX9_loss 1 = .ok (.aload_n 0, 1) := by decide +kernel
theorem dX9_loss_2 : decode cX9_loss 2 = .ok (.getfield 19, 3) := by decide +kernel
theorem dX9_loss_5 : decode cX9_loss 5 = .ok (.getfield 97, 3) := by decide +kernel
theorem dX9_loss_8 : decode cX9_loss 8 = .ok (.invokestatic 150, 3) := by decide +kernel
theorem dX9_loss_11 : decode cX9_loss 11 = .ok (.aload_n 0, 1) := by decide +kernel
theorem dX9_loss_12 : decode cX9_loss 12 = .ok (.getfield 63, 3) := by decide +kernel
theorem dX9_loss_15 : decode cX9_loss 15 = .ok (.iload_n 1, 1) := by decide +kernel
theorem dX9_loss_16 : decode cX9_loss 16 = .ok (.invokevirtual 345, 3) := by decide +kernel
theorem dX9_loss_19 : decode cX9_loss 19 = .ok (.ireturn, 1) := by decide +kernel
theorem dX9_quote_0 : decode cX9_quote 0 = .ok (.iload_n 1, 1) := by decide +kernel
theorem dX9_quote_1 : decode cX9_quote 1 = .ok (.iconst 1, 1) := by decide +kernel
theorem dX9_quote_2 : decode cX9_quote 2 = .ok (.sipush 600, 3) := by decide +kernel
theorem dX9_quote_5 : decode cX9_quote 5 = .ok (.invokestatic 126, 3) := by decide +kernel
theorem dX9_quote_8 : decode cX9_quote 8 = .ok (.aload_n 0, 1) := by decide +kernel
theorem dX9_quote_9 : decode cX9_quote 9 = .ok (.getfield 72, 3) := by decide +kernel
theorem dX9_quote_12 : decode cX9_quote 12 = .ok (.iload_n 1, 1) := by decide +kernel
theorem dX9_quote_13 : decode cX9_quote 13 = .ok (.invokevirtual 348, 3) := by decide +kernel
theorem dX9_quote_16 : decode cX9_quote 16 = .ok (.aload_n 0, 1) := by decide +kernel
theorem dX9_quote_17 : decode cX9_quote 17 = .ok (.getfield 72, 3) := by decide +kernel
theorem dX9_quote_20 : decode cX9_quote 20 = .ok (.getfield 351, 3) := by decide +kernel
theorem dX9_quote_23 : decode cX9_quote 23 = .ok (.ireturn, 1) := by decide +kernel
theorem dX9_write_0 : decode cX9_write 0 = .ok (.iload_n 1, 1) := by decide +kernel
theorem dX9_write_1 : decode cX9_write 1 = .ok (.bipush 10, 2) := by decide +kernel
theorem dX9_write_3 : decode cX9_write 3 = .ok (.sipush 600, 3) := by decide +kernel
theorem dX9_write_6 : decode cX9_write 6 = .ok (.invokestatic 126, 3) := by decide +kernel
theorem dX9_write_9 : decode cX9_write 9 = .ok (.aload_n 0, 1) := by decide +kernel
theorem dX9_write_10 : decode cX9_write 10 = .ok (.getfield 72, 3) := by decide +kernel
theorem dX9_write_13 : decode cX9_write 13 = .ok (.aload_n 0, 1) := by decide +kernel
theorem dX9_write_14 : decode cX9_write 14 = .ok (.getfield 63, 3) := by decide +kernel
theorem dX9_write_17 : decode cX9_write 17 = .ok (.getfield 201, 3) := by decide +kernel
theorem dX9_write_20 : decode cX9_write 20 = .ok (.iload_n 1, 1) := by decide +kernel
theorem dX9_write_21 : decode cX9_write 21 = .ok (.invokevirtual 352, 3) := by decide +kernel
theorem dX9_write_24 : decode cX9_write 24 = .ok (.aload_n 0, 1) := by decide +kernel
theorem dX9_write_25 : decode cX9_write 25 = .ok (.getfield 72, 3) := by decide +kernel
theorem dX9_write_28 : decode cX9_write 28 = .ok (.getfield 351, 3) := by decide +kernel
theorem dX9_write_31 : decode cX9_write 31 = .ok (.ireturn, 1) := by decide +kernel
