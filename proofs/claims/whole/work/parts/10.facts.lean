theorem tb_1 {w : Cond} (h9 : w ∈ tables_1_1) : w ∈ lw_tbl := List.mem_append_right _ (show w ∈ tables_1 from List.mem_append_left _ h9)
theorem in_g1 {w : Cond} (i : Nat) (h : tables_1_1[i]? = some w) (hg : goodWord w = true) : w ∈ gw := List.mem_filter.mpr ⟨tb_1 (List.mem_of_getElem? h), hg⟩
theorem in_n1 {w : Cond} (i : Nat) (h : tables_1_1[i]? = some w) (hg : isNest w = true) : w ∈ nw := List.mem_filter.mpr ⟨tb_1 (List.mem_of_getElem? h), hg⟩
theorem tb_2 {w : Cond} (h9 : w ∈ tables_1_2) : w ∈ lw_tbl := List.mem_append_right _ (show w ∈ tables_1 from List.mem_append_right _ (List.mem_append_left _ h9))
theorem in_g2 {w : Cond} (i : Nat) (h : tables_1_2[i]? = some w) (hg : goodWord w = true) : w ∈ gw := List.mem_filter.mpr ⟨tb_2 (List.mem_of_getElem? h), hg⟩
theorem in_n2 {w : Cond} (i : Nat) (h : tables_1_2[i]? = some w) (hg : isNest w = true) : w ∈ nw := List.mem_filter.mpr ⟨tb_2 (List.mem_of_getElem? h), hg⟩
theorem tb_3 {w : Cond} (h9 : w ∈ tables_1_3) : w ∈ lw_tbl := List.mem_append_right _ (show w ∈ tables_1 from List.mem_append_right _ (List.mem_append_right _ (List.mem_append_left _ h9)))
theorem in_g3 {w : Cond} (i : Nat) (h : tables_1_3[i]? = some w) (hg : goodWord w = true) : w ∈ gw := List.mem_filter.mpr ⟨tb_3 (List.mem_of_getElem? h), hg⟩
theorem in_n3 {w : Cond} (i : Nat) (h : tables_1_3[i]? = some w) (hg : isNest w = true) : w ∈ nw := List.mem_filter.mpr ⟨tb_3 (List.mem_of_getElem? h), hg⟩
theorem tb_4 {w : Cond} (h9 : w ∈ tables_1_4) : w ∈ lw_tbl := List.mem_append_right _ (show w ∈ tables_1 from List.mem_append_right _ (List.mem_append_right _ (List.mem_append_right _ (List.mem_append_left _ h9))))
theorem in_g4 {w : Cond} (i : Nat) (h : tables_1_4[i]? = some w) (hg : goodWord w = true) : w ∈ gw := List.mem_filter.mpr ⟨tb_4 (List.mem_of_getElem? h), hg⟩
theorem in_n4 {w : Cond} (i : Nat) (h : tables_1_4[i]? = some w) (hg : isNest w = true) : w ∈ nw := List.mem_filter.mpr ⟨tb_4 (List.mem_of_getElem? h), hg⟩
theorem tb_5 {w : Cond} (h9 : w ∈ tables_1_5) : w ∈ lw_tbl := List.mem_append_right _ (show w ∈ tables_1 from List.mem_append_right _ (List.mem_append_right _ (List.mem_append_right _ (List.mem_append_right _ (List.mem_append_left _ h9)))))
theorem in_g5 {w : Cond} (i : Nat) (h : tables_1_5[i]? = some w) (hg : goodWord w = true) : w ∈ gw := List.mem_filter.mpr ⟨tb_5 (List.mem_of_getElem? h), hg⟩
theorem in_n5 {w : Cond} (i : Nat) (h : tables_1_5[i]? = some w) (hg : isNest w = true) : w ∈ nw := List.mem_filter.mpr ⟨tb_5 (List.mem_of_getElem? h), hg⟩
theorem tb_6 {w : Cond} (h9 : w ∈ tables_1_6) : w ∈ lw_tbl := List.mem_append_right _ (show w ∈ tables_1 from List.mem_append_right _ (List.mem_append_right _ (List.mem_append_right _ (List.mem_append_right _ (List.mem_append_right _ (List.mem_append_left _ h9))))))
theorem in_g6 {w : Cond} (i : Nat) (h : tables_1_6[i]? = some w) (hg : goodWord w = true) : w ∈ gw := List.mem_filter.mpr ⟨tb_6 (List.mem_of_getElem? h), hg⟩
theorem in_n6 {w : Cond} (i : Nat) (h : tables_1_6[i]? = some w) (hg : isNest w = true) : w ∈ nw := List.mem_filter.mpr ⟨tb_6 (List.mem_of_getElem? h), hg⟩
theorem tb_7 {w : Cond} (h9 : w ∈ tables_1_7) : w ∈ lw_tbl := List.mem_append_right _ (show w ∈ tables_1 from List.mem_append_right _ (List.mem_append_right _ (List.mem_append_right _ (List.mem_append_right _ (List.mem_append_right _ (List.mem_append_right _ (List.mem_append_left _ h9)))))))
theorem in_g7 {w : Cond} (i : Nat) (h : tables_1_7[i]? = some w) (hg : goodWord w = true) : w ∈ gw := List.mem_filter.mpr ⟨tb_7 (List.mem_of_getElem? h), hg⟩
theorem in_n7 {w : Cond} (i : Nat) (h : tables_1_7[i]? = some w) (hg : isNest w = true) : w ∈ nw := List.mem_filter.mpr ⟨tb_7 (List.mem_of_getElem? h), hg⟩
theorem tb_8 {w : Cond} (h9 : w ∈ tables_1_8) : w ∈ lw_tbl := List.mem_append_right _ (show w ∈ tables_1 from List.mem_append_right _ (List.mem_append_right _ (List.mem_append_right _ (List.mem_append_right _ (List.mem_append_right _ (List.mem_append_right _ (List.mem_append_right _ (List.mem_append_left _ h9))))))))
theorem in_g8 {w : Cond} (i : Nat) (h : tables_1_8[i]? = some w) (hg : goodWord w = true) : w ∈ gw := List.mem_filter.mpr ⟨tb_8 (List.mem_of_getElem? h), hg⟩
theorem in_n8 {w : Cond} (i : Nat) (h : tables_1_8[i]? = some w) (hg : isNest w = true) : w ∈ nw := List.mem_filter.mpr ⟨tb_8 (List.mem_of_getElem? h), hg⟩
theorem tb_9 {w : Cond} (h9 : w ∈ tables_1_9) : w ∈ lw_tbl := List.mem_append_right _ (show w ∈ tables_1 from List.mem_append_right _ (List.mem_append_right _ (List.mem_append_right _ (List.mem_append_right _ (List.mem_append_right _ (List.mem_append_right _ (List.mem_append_right _ (List.mem_append_right _ (h9)))))))))
theorem in_g9 {w : Cond} (i : Nat) (h : tables_1_9[i]? = some w) (hg : goodWord w = true) : w ∈ gw := List.mem_filter.mpr ⟨tb_9 (List.mem_of_getElem? h), hg⟩
theorem in_n9 {w : Cond} (i : Nat) (h : tables_1_9[i]? = some w) (hg : isNest w = true) : w ∈ nw := List.mem_filter.mpr ⟨tb_9 (List.mem_of_getElem? h), hg⟩
def LX : List LC := [.inl (9, [.inr (some 1), .inr (some 3), .inr (some 18), .inr (some 23), .inr (some 28), .inr (some 29), .inr (some 34), .inr (some 37), .inr (some 41), .inl 0]), .inl (6, [.inr (some 2), .inl 0]), .inr (0, 600), .inl (1, [.inr (some 4), .inr (some 5), .inr (some 6), .inr (some 7), .inr (some 8), .inr (some 9), .inr (some 10), .inr (some 11), .inr (some 12), .inr (some 13), .inr (some 14), .inr (some 15), .inr (some 16), .inr (some 17), .inl 0, .inl 0, .inl 0, .inl 0]), .inr (0, 600), .inr (1, 600), .inr (0, 601), .inr (0, 100), .inr (0, 100), .inr (0, 100), .inr (0, 100), .inr (0, 14), .inr (0, 14), .inr (0, 14), .inr (0, 14), .inr (0, 14), .inr (3, 14), .inr (3, 14), .inl (2, [.inr (some 19), .inr (some 20), .inr (some 21), .inr (some 22), .inl 0, .inl 0, .inl 0]), .inr (0, 8), .inr (0, 8), .inr (0, 32), .inr (0, 384), .inl (2, [.inr (some 24), .inr (some 25), .inr (some 26), .inr (some 27), .inl 0, .inl 0, .inl 0]), .inr (0, 8), .inr (0, 8), .inr (0, 32), .inr (0, 384), .inl (3, [.inr (some 1), .inr (some 23), .inl 0, .inl 0]), .inl (0, [.inr (some 3), .inr (some 18), .inr (some 30), .inr (some 31), .inr (some 32), .inr (some 33), .inl 0]), .inr (0, 100), .inr (0, 100), .inr (0, 100), .inr (3, 14), .inl (7, [.inr (some 3), .inr (some 18), .inr (some 29), .inr (some 35), .inr (some 36), .inl 0, .inl 0, .inl 0, .inl 1]), .inr (0, 8), .inr (0, 101), .inl (5, [.inr (some 3), .inr (some 18), .inr (some 29), .inr (some 39), .inl 0, .inl 0, .inl 0, .inl 0, .inr (some 38), .inl 0, .inl 1, .inl 0, .inl 0, .inl 0, .inl 0]), .inr (0, 6), .inl (4, [.inr (some 3), .inr (some 18), .inr (some 29), .inr (some 40), .inl 0, .inl 0, .inl 0, .inl 0, .inl 0, .inl 0, .inl 0]), .inr (0, 14), .inl (8, [.inr (some 3), .inr (some 18), .inr (some 29), .inr (some 34), .inr (some 42), .inr (some 43), .inl 0, .inl 0, .inl 0]), .inr (0, 600), .inr (0, 5760)]
theorem lX_0 : LX[0]? = some (.inl (9, [.inr (some 1), .inr (some 3), .inr (some 18), .inr (some 23), .inr (some 28), .inr (some 29), .inr (some 34), .inr (some 37), .inr (some 41), .inl 0])) := rfl
theorem lX_1 : LX[1]? = some (.inl (6, [.inr (some 2), .inl 0])) := rfl
theorem lX_2 : LX[2]? = some (.inr (0, 600)) := rfl
theorem lX_3 : LX[3]? = some (.inl (1, [.inr (some 4), .inr (some 5), .inr (some 6), .inr (some 7), .inr (some 8), .inr (some 9), .inr (some 10), .inr (some 11), .inr (some 12), .inr (some 13), .inr (some 14), .inr (some 15), .inr (some 16), .inr (some 17), .inl 0, .inl 0, .inl 0, .inl 0])) := rfl
theorem lX_4 : LX[4]? = some (.inr (0, 600)) := rfl
theorem lX_5 : LX[5]? = some (.inr (1, 600)) := rfl
theorem lX_6 : LX[6]? = some (.inr (0, 601)) := rfl
theorem lX_7 : LX[7]? = some (.inr (0, 100)) := rfl
theorem lX_8 : LX[8]? = some (.inr (0, 100)) := rfl
theorem lX_9 : LX[9]? = some (.inr (0, 100)) := rfl
theorem lX_10 : LX[10]? = some (.inr (0, 100)) := rfl
theorem lX_11 : LX[11]? = some (.inr (0, 14)) := rfl
theorem lX_12 : LX[12]? = some (.inr (0, 14)) := rfl
theorem lX_13 : LX[13]? = some (.inr (0, 14)) := rfl
theorem lX_14 : LX[14]? = some (.inr (0, 14)) := rfl
theorem lX_15 : LX[15]? = some (.inr (0, 14)) := rfl
theorem lX_16 : LX[16]? = some (.inr (3, 14)) := rfl
theorem lX_17 : LX[17]? = some (.inr (3, 14)) := rfl
theorem lX_18 : LX[18]? = some (.inl (2, [.inr (some 19), .inr (some 20), .inr (some 21), .inr (some 22), .inl 0, .inl 0, .inl 0])) := rfl
theorem lX_19 : LX[19]? = some (.inr (0, 8)) := rfl
theorem lX_20 : LX[20]? = some (.inr (0, 8)) := rfl
theorem lX_21 : LX[21]? = some (.inr (0, 32)) := rfl
theorem lX_22 : LX[22]? = some (.inr (0, 384)) := rfl
theorem lX_23 : LX[23]? = some (.inl (2, [.inr (some 24), .inr (some 25), .inr (some 26), .inr (some 27), .inl 0, .inl 0, .inl 0])) := rfl
theorem lX_24 : LX[24]? = some (.inr (0, 8)) := rfl
theorem lX_25 : LX[25]? = some (.inr (0, 8)) := rfl
theorem lX_26 : LX[26]? = some (.inr (0, 32)) := rfl
theorem lX_27 : LX[27]? = some (.inr (0, 384)) := rfl
theorem lX_28 : LX[28]? = some (.inl (3, [.inr (some 1), .inr (some 23), .inl 0, .inl 0])) := rfl
theorem lX_29 : LX[29]? = some (.inl (0, [.inr (some 3), .inr (some 18), .inr (some 30), .inr (some 31), .inr (some 32), .inr (some 33), .inl 0])) := rfl
theorem lX_30 : LX[30]? = some (.inr (0, 100)) := rfl
theorem lX_31 : LX[31]? = some (.inr (0, 100)) := rfl
theorem lX_32 : LX[32]? = some (.inr (0, 100)) := rfl
theorem lX_33 : LX[33]? = some (.inr (3, 14)) := rfl
theorem lX_34 : LX[34]? = some (.inl (7, [.inr (some 3), .inr (some 18), .inr (some 29), .inr (some 35), .inr (some 36), .inl 0, .inl 0, .inl 0, .inl 1])) := rfl
theorem lX_35 : LX[35]? = some (.inr (0, 8)) := rfl
theorem lX_36 : LX[36]? = some (.inr (0, 101)) := rfl
theorem lX_37 : LX[37]? = some (.inl (5, [.inr (some 3), .inr (some 18), .inr (some 29), .inr (some 39), .inl 0, .inl 0, .inl 0, .inl 0, .inr (some 38), .inl 0, .inl 1, .inl 0, .inl 0, .inl 0, .inl 0])) := rfl
theorem lX_38 : LX[38]? = some (.inr (0, 6)) := rfl
theorem lX_39 : LX[39]? = some (.inl (4, [.inr (some 3), .inr (some 18), .inr (some 29), .inr (some 40), .inl 0, .inl 0, .inl 0, .inl 0, .inl 0, .inl 0, .inl 0])) := rfl
theorem lX_40 : LX[40]? = some (.inr (0, 14)) := rfl
theorem lX_41 : LX[41]? = some (.inl (8, [.inr (some 3), .inr (some 18), .inr (some 29), .inr (some 34), .inr (some 42), .inr (some 43), .inl 0, .inl 0, .inl 0])) := rfl
theorem lX_42 : LX[42]? = some (.inr (0, 600)) := rfl
theorem lX_43 : LX[43]? = some (.inr (0, 5760)) := rfl
def LM : List LC := [.inl (10, [.inl 0, .inr (some 1), .inl 0, .inr (some 2), .inr (some 3), .inr (some 4), .inl 0, .inl 0, .inr (some 5), .inr (some 6), .inr (some 7), .inr (some 8), .inl 0, .inr (some 9), .inr (some 10), .inr (some 11), .inl 0, .inr (some 12), .inr (some 13), .inr (some 14), .inr (some 15), .inr (some 16), .inr (some 17), .inr (some 18), .inr (some 19), .inr (some 20), .inr (some 21), .inr (some 22), .inr (some 23), .inl 0, .inl 0, .inl 0, .inl 0, .inl 0, .inl 0, .inr (some 24), .inr (some 25), .inr (some 26), .inr (some 27), .inl 0, .inr (some 28), .inr (some 29), .inl 1, .inl 1, .inr (some 30), .inr (some 31), .inr (some 32), .inl 0, .inl 0, .inl 1, .inl 0, .inl 0, .inl 0, .inl 0, .inr (some 33), .inr (some 34), .inl 0, .inl 0, .inl 0, .inr (some 35), .inl 0, .inl 0, .inl 0, .inr (some 36), .inr (some 37), .inr (some 38), .inr (some 39), .inl 1, .inl 1]), .inr (2, 600), .inr (0, 5), .inr (0, 600), .inr (0, 601), .inr (0, 100), .inr (0, 100), .inr (0, 100), .inr (0, 100), .inr (0, 14), .inr (0, 14), .inr (1, 1400), .inr (0, 8), .inr (0, 8), .inr (0, 32), .inr (1, 8), .inr (1, 32), .inr (2, 384), .inr (0, 8), .inr (0, 8), .inr (0, 32), .inr (1, 8), .inr (1, 32), .inr (2, 384), .inr (0, 800), .inr (0, 800), .inr (0, 800), .inr (1, 800), .inr (0, 16384), .inr (0, 16384), .inr (0, 8), .inr (0, 112), .inr (0, 4), .inr (0, 14), .inr (0, 14), .inr (2, 9000), .inr (1, 601), .inr (1, 601), .inr (1, 601), .inr (1, 601)]
theorem lM_0 : LM[0]? = some (.inl (10, [.inl 0, .inr (some 1), .inl 0, .inr (some 2), .inr (some 3), .inr (some 4), .inl 0, .inl 0, .inr (some 5), .inr (some 6), .inr (some 7), .inr (some 8), .inl 0, .inr (some 9), .inr (some 10), .inr (some 11), .inl 0, .inr (some 12), .inr (some 13), .inr (some 14), .inr (some 15), .inr (some 16), .inr (some 17), .inr (some 18), .inr (some 19), .inr (some 20), .inr (some 21), .inr (some 22), .inr (some 23), .inl 0, .inl 0, .inl 0, .inl 0, .inl 0, .inl 0, .inr (some 24), .inr (some 25), .inr (some 26), .inr (some 27), .inl 0, .inr (some 28), .inr (some 29), .inl 1, .inl 1, .inr (some 30), .inr (some 31), .inr (some 32), .inl 0, .inl 0, .inl 1, .inl 0, .inl 0, .inl 0, .inl 0, .inr (some 33), .inr (some 34), .inl 0, .inl 0, .inl 0, .inr (some 35), .inl 0, .inl 0, .inl 0, .inr (some 36), .inr (some 37), .inr (some 38), .inr (some 39), .inl 1, .inl 1])) := rfl
theorem lM_1 : LM[1]? = some (.inr (2, 600)) := rfl
theorem lM_2 : LM[2]? = some (.inr (0, 5)) := rfl
theorem lM_3 : LM[3]? = some (.inr (0, 600)) := rfl
theorem lM_4 : LM[4]? = some (.inr (0, 601)) := rfl
theorem lM_5 : LM[5]? = some (.inr (0, 100)) := rfl
theorem lM_6 : LM[6]? = some (.inr (0, 100)) := rfl
theorem lM_7 : LM[7]? = some (.inr (0, 100)) := rfl
theorem lM_8 : LM[8]? = some (.inr (0, 100)) := rfl
theorem lM_9 : LM[9]? = some (.inr (0, 14)) := rfl
theorem lM_10 : LM[10]? = some (.inr (0, 14)) := rfl
theorem lM_11 : LM[11]? = some (.inr (1, 1400)) := rfl
theorem lM_12 : LM[12]? = some (.inr (0, 8)) := rfl
theorem lM_13 : LM[13]? = some (.inr (0, 8)) := rfl
theorem lM_14 : LM[14]? = some (.inr (0, 32)) := rfl
theorem lM_15 : LM[15]? = some (.inr (1, 8)) := rfl
theorem lM_16 : LM[16]? = some (.inr (1, 32)) := rfl
theorem lM_17 : LM[17]? = some (.inr (2, 384)) := rfl
theorem lM_18 : LM[18]? = some (.inr (0, 8)) := rfl
theorem lM_19 : LM[19]? = some (.inr (0, 8)) := rfl
theorem lM_20 : LM[20]? = some (.inr (0, 32)) := rfl
theorem lM_21 : LM[21]? = some (.inr (1, 8)) := rfl
theorem lM_22 : LM[22]? = some (.inr (1, 32)) := rfl
theorem lM_23 : LM[23]? = some (.inr (2, 384)) := rfl
theorem lM_24 : LM[24]? = some (.inr (0, 800)) := rfl
theorem lM_25 : LM[25]? = some (.inr (0, 800)) := rfl
theorem lM_26 : LM[26]? = some (.inr (0, 800)) := rfl
theorem lM_27 : LM[27]? = some (.inr (1, 800)) := rfl
theorem lM_28 : LM[28]? = some (.inr (0, 16384)) := rfl
theorem lM_29 : LM[29]? = some (.inr (0, 16384)) := rfl
theorem lM_30 : LM[30]? = some (.inr (0, 8)) := rfl
theorem lM_31 : LM[31]? = some (.inr (0, 112)) := rfl
theorem lM_32 : LM[32]? = some (.inr (0, 4)) := rfl
theorem lM_33 : LM[33]? = some (.inr (0, 14)) := rfl
theorem lM_34 : LM[34]? = some (.inr (0, 14)) := rfl
theorem lM_35 : LM[35]? = some (.inr (2, 9000)) := rfl
theorem lM_36 : LM[36]? = some (.inr (1, 601)) := rfl
theorem lM_37 : LM[37]? = some (.inr (1, 601)) := rfl
theorem lM_38 : LM[38]? = some (.inr (1, 601)) := rfl
theorem lM_39 : LM[39]? = some (.inr (1, 601)) := rfl
set_option maxRecDepth 20000 in
theorem inX0 : ∀ w ∈ u_ws RX0 TX0 7, w ∈ gw := fun w h => List.mem_filter.mpr ⟨of_decide_eq_true (by have h9 := List.all_eq_true.mp (show (u_ws RX0 TX0 7).all (fun w => decide (w ∈ lw_tbl) && goodWord w) = true by decide +kernel) w h; simp only [Bool.and_eq_true] at h9; exact h9.1), by have h9 := List.all_eq_true.mp (show (u_ws RX0 TX0 7).all (fun w => decide (w ∈ lw_tbl) && goodWord w) = true by decide +kernel) w h; simp only [Bool.and_eq_true] at h9; exact h9.2⟩
set_option maxRecDepth 20000 in
theorem inX1 : ∀ w ∈ u_ws RX1 TX1 18, w ∈ gw := fun w h => List.mem_filter.mpr ⟨of_decide_eq_true (by have h9 := List.all_eq_true.mp (show (u_ws RX1 TX1 18).all (fun w => decide (w ∈ lw_tbl) && goodWord w) = true by decide +kernel) w h; simp only [Bool.and_eq_true] at h9; exact h9.1), by have h9 := List.all_eq_true.mp (show (u_ws RX1 TX1 18).all (fun w => decide (w ∈ lw_tbl) && goodWord w) = true by decide +kernel) w h; simp only [Bool.and_eq_true] at h9; exact h9.2⟩
set_option maxRecDepth 20000 in
theorem inX2 : ∀ w ∈ u_ws RX2 TX2 7, w ∈ gw := fun w h => List.mem_filter.mpr ⟨of_decide_eq_true (by have h9 := List.all_eq_true.mp (show (u_ws RX2 TX2 7).all (fun w => decide (w ∈ lw_tbl) && goodWord w) = true by decide +kernel) w h; simp only [Bool.and_eq_true] at h9; exact h9.1), by have h9 := List.all_eq_true.mp (show (u_ws RX2 TX2 7).all (fun w => decide (w ∈ lw_tbl) && goodWord w) = true by decide +kernel) w h; simp only [Bool.and_eq_true] at h9; exact h9.2⟩
set_option maxRecDepth 20000 in
theorem inX3 : ∀ w ∈ u_ws RX3 TX3 4, w ∈ gw := fun w h => List.mem_filter.mpr ⟨of_decide_eq_true (by have h9 := List.all_eq_true.mp (show (u_ws RX3 TX3 4).all (fun w => decide (w ∈ lw_tbl) && goodWord w) = true by decide +kernel) w h; simp only [Bool.and_eq_true] at h9; exact h9.1), by have h9 := List.all_eq_true.mp (show (u_ws RX3 TX3 4).all (fun w => decide (w ∈ lw_tbl) && goodWord w) = true by decide +kernel) w h; simp only [Bool.and_eq_true] at h9; exact h9.2⟩
set_option maxRecDepth 20000 in
theorem inX4 : ∀ w ∈ u_ws RX4 TX4 11, w ∈ gw := fun w h => List.mem_filter.mpr ⟨of_decide_eq_true (by have h9 := List.all_eq_true.mp (show (u_ws RX4 TX4 11).all (fun w => decide (w ∈ lw_tbl) && goodWord w) = true by decide +kernel) w h; simp only [Bool.and_eq_true] at h9; exact h9.1), by have h9 := List.all_eq_true.mp (show (u_ws RX4 TX4 11).all (fun w => decide (w ∈ lw_tbl) && goodWord w) = true by decide +kernel) w h; simp only [Bool.and_eq_true] at h9; exact h9.2⟩
set_option maxRecDepth 20000 in
theorem inX5 : ∀ w ∈ u_ws RX5 TX5 15, w ∈ gw := fun w h => List.mem_filter.mpr ⟨of_decide_eq_true (by have h9 := List.all_eq_true.mp (show (u_ws RX5 TX5 15).all (fun w => decide (w ∈ lw_tbl) && goodWord w) = true by decide +kernel) w h; simp only [Bool.and_eq_true] at h9; exact h9.1), by have h9 := List.all_eq_true.mp (show (u_ws RX5 TX5 15).all (fun w => decide (w ∈ lw_tbl) && goodWord w) = true by decide +kernel) w h; simp only [Bool.and_eq_true] at h9; exact h9.2⟩
set_option maxRecDepth 20000 in
theorem inX6 : ∀ w ∈ u_ws RX6 TX6 2, w ∈ gw := fun w h => List.mem_filter.mpr ⟨of_decide_eq_true (by have h9 := List.all_eq_true.mp (show (u_ws RX6 TX6 2).all (fun w => decide (w ∈ lw_tbl) && goodWord w) = true by decide +kernel) w h; simp only [Bool.and_eq_true] at h9; exact h9.1), by have h9 := List.all_eq_true.mp (show (u_ws RX6 TX6 2).all (fun w => decide (w ∈ lw_tbl) && goodWord w) = true by decide +kernel) w h; simp only [Bool.and_eq_true] at h9; exact h9.2⟩
set_option maxRecDepth 20000 in
theorem inX7 : ∀ w ∈ u_ws RX7 TX7 9, w ∈ gw := fun w h => List.mem_filter.mpr ⟨of_decide_eq_true (by have h9 := List.all_eq_true.mp (show (u_ws RX7 TX7 9).all (fun w => decide (w ∈ lw_tbl) && goodWord w) = true by decide +kernel) w h; simp only [Bool.and_eq_true] at h9; exact h9.1), by have h9 := List.all_eq_true.mp (show (u_ws RX7 TX7 9).all (fun w => decide (w ∈ lw_tbl) && goodWord w) = true by decide +kernel) w h; simp only [Bool.and_eq_true] at h9; exact h9.2⟩
set_option maxRecDepth 20000 in
theorem inX8 : ∀ w ∈ u_ws RX8 TX8 9, w ∈ gw := fun w h => List.mem_filter.mpr ⟨of_decide_eq_true (by have h9 := List.all_eq_true.mp (show (u_ws RX8 TX8 9).all (fun w => decide (w ∈ lw_tbl) && goodWord w) = true by decide +kernel) w h; simp only [Bool.and_eq_true] at h9; exact h9.1), by have h9 := List.all_eq_true.mp (show (u_ws RX8 TX8 9).all (fun w => decide (w ∈ lw_tbl) && goodWord w) = true by decide +kernel) w h; simp only [Bool.and_eq_true] at h9; exact h9.2⟩
set_option maxRecDepth 20000 in
theorem inX9 : ∀ w ∈ u_ws RX9 TX9 10, w ∈ gw := fun w h => List.mem_filter.mpr ⟨of_decide_eq_true (by have h9 := List.all_eq_true.mp (show (u_ws RX9 TX9 10).all (fun w => decide (w ∈ lw_tbl) && goodWord w) = true by decide +kernel) w h; simp only [Bool.and_eq_true] at h9; exact h9.1), by have h9 := List.all_eq_true.mp (show (u_ws RX9 TX9 10).all (fun w => decide (w ∈ lw_tbl) && goodWord w) = true by decide +kernel) w h; simp only [Bool.and_eq_true] at h9; exact h9.2⟩
set_option maxRecDepth 20000 in
theorem inX10 : ∀ w ∈ u_ws RX10 TX10 69, w ∈ gw := fun w h => List.mem_filter.mpr ⟨of_decide_eq_true (by have h9 := List.all_eq_true.mp (show (u_ws RX10 TX10 69).all (fun w => decide (w ∈ lw_tbl) && goodWord w) = true by decide +kernel) w h; simp only [Bool.and_eq_true] at h9; exact h9.1), by have h9 := List.all_eq_true.mp (show (u_ws RX10 TX10 69).all (fun w => decide (w ∈ lw_tbl) && goodWord w) = true by decide +kernel) w h; simp only [Bool.and_eq_true] at h9; exact h9.2⟩
theorem ks_max : Cond.static Lib.Math.max.name ∈ gw := in_g5 157 (by decide +kernel) rfl
theorem kd_max : Cond.code Lib.Math.max.name Lib.Math.max.code 2 (some .int) ∈ gw := in_g5 158 (by decide +kernel) rfl
theorem ks_min : Cond.static Lib.Math.min.name ∈ gw := in_g3 186 (by decide +kernel) rfl
theorem kd_min : Cond.code Lib.Math.min.name Lib.Math.min.code 2 (some .int) ∈ gw := in_g3 187 (by decide +kernel) rfl
theorem ks_Math : Cond.initialized "java/lang/Math" ∈ gw := in_g1 25 (by decide +kernel) rfl
theorem ks_acn : Cond.native arraycopyName ∈ gw := in_g4 238 (by decide +kernel) rfl
theorem ks_acs : Cond.static arraycopyName ∈ gw := in_g4 237 (by decide +kernel) rfl
theorem ks_aci : Cond.initialized "java/lang/System" ∈ gw := in_g1 22 (by decide +kernel) rfl
abbrev cJ6_bitCount_0f7a4 : ByteArray := prog_20_method_49_code
def yJ6_bitCount_0f7a4 : MethodName := ⟨RJ6, "bitCount", "(I)I"⟩
abbrev cJ13_bitCount_95d88 : ByteArray := prog_21_method_50_code
def yJ13_bitCount_95d88 : MethodName := ⟨RJ13, "bitCount", "(J)I"⟩
abbrev cJ9_max_7cf53 : ByteArray := prog_22_method_65_code
def yJ9_max_7cf53 : MethodName := ⟨RJ9, "max", "(II)I"⟩
abbrev cJ9_min_7cf53 : ByteArray := prog_22_method_69_code
def yJ9_min_7cf53 : MethodName := ⟨RJ9, "min", "(II)I"⟩
abbrev cJ0_length_8abf5 : ByteArray := prog_24_method_54_code
def yJ0_length_8abf5 : MethodName := ⟨RJ0, "length", "()I"⟩
abbrev cJ0_charAt_5068e : ByteArray := prog_24_method_56_code
def yJ0_charAt_5068e : MethodName := ⟨RJ0, "charAt", "(I)C"⟩
abbrev cJ0_coder_7d493 : ByteArray := prog_24_method_152_code
def yJ0_coder_7d493 : MethodName := ⟨RJ0, "coder", "()B"⟩
abbrev cJ0_isLatin1_aae02 : ByteArray := prog_24_method_154_code
def yJ0_isLatin1_aae02 : MethodName := ⟨RJ0, "isLatin1", "()Z"⟩
abbrev cJ0_checkIndex_df160 : ByteArray := prog_24_method_155_code
def yJ0_checkIndex_df160 : MethodName := ⟨RJ0, "checkIndex", "(II)V"⟩
abbrev cJ1_charAt_3b067 : ByteArray := prog_25_method_2_code
def yJ1_charAt_3b067 : MethodName := ⟨RJ1, "charAt", "([BI)C"⟩
abbrev cJ2_getChar_3b067 : ByteArray := prog_26_method_5_code
def yJ2_getChar_3b067 : MethodName := ⟨RJ2, "getChar", "([BI)C"⟩
abbrev cJ2_length_9d52b : ByteArray := prog_26_method_6_code
def yJ2_length_9d52b : MethodName := ⟨RJ2, "length", "([B)I"⟩
abbrev cJ2_charAt_3b067 : ByteArray := prog_26_method_83_code
def yJ2_charAt_3b067 : MethodName := ⟨RJ2, "charAt", "([BI)C"⟩
abbrev cJ2_checkIndex_2214a : ByteArray := prog_26_method_91_code
def yJ2_checkIndex_2214a : MethodName := ⟨RJ2, "checkIndex", "(I[B)V"⟩
abbrev cJ7_fill_d0a16 : ByteArray := prog_31_method_101_code
def yJ7_fill_d0a16 : MethodName := ⟨RJ7, "fill", "([JJ)V"⟩
abbrev cJ7_fill_53178 : ByteArray := prog_31_method_103_code
def yJ7_fill_53178 : MethodName := ⟨RJ7, "fill", "([II)V"⟩
abbrev cJ3_checkIndex_8e157 : ByteArray := prog_33_method_11_code
def yJ3_checkIndex_8e157 : MethodName := ⟨RJ3, "checkIndex", "(IILjava/util/function/BiFunction;)I"⟩
