def wp_Picker_query (tp_bytes : (Nat → Int)) (pg_bytes : (Nat → Int)) (pg_wordBegin : (Nat → Int)) (pg_wordEnd : (Nat → Int)) (pg_wordSentence : (Nat → Int)) (pg_sentenceFirst : (Nat → Int)) (pg_sentenceWords : (Nat → Int)) (qy_weights : (Nat → Int)) (qy_termCounts : (Nat → Int)) (qy_termSizes : (Nat → Int)) (qy_letters : (Nat → Int)) (dr_weights : (Nat → Int)) (dr_termCounts : (Nat → Int)) (dr_termSizes : (Nat → Int)) (dr_letters : (Nat → Int)) (mt_beginning : (Nat → Int)) (mt_ending : (Nat → Int)) (mt_touching : (Nat → Int)) (sr_tooLike : (Nat → Int)) (pp_fault : Int) (tp_length : Int) (pg_length : Int) (pg_words : Int) (pg_sentences : Int) (qy_starredTerms : Int) (qy_softItems : Int) (qy_items : Int) (dr_starredTerms : Int) (dr_softItems : Int) (dr_items : Int) (rd_at : Int) (rd_fault : Int) (mt_total : Int) (se_limit : Int) (se_chosen : Int) (se_bestKnown : Int) (pg_lowWords : (Nat → Int64)) (pg_highWords : (Nat → Int64)) (mt_tallies : (Nat → Int64)) (Q : Int → (Nat → Int) → (Nat → Int) → (Nat → Int) → (Nat → Int) → (Nat → Int) → (Nat → Int) → (Nat → Int) → (Nat → Int) → (Nat → Int) → (Nat → Int) → (Nat → Int) → (Nat → Int) → Int → Int → Int → Int → Int → Int → Int → Int → Int → Int → Int → Int → Int → (Nat → Int64) → Prop) (E : Nat → (Nat → Int) → (Nat → Int) → (Nat → Int) → (Nat → Int) → (Nat → Int) → (Nat → Int) → (Nat → Int) → (Nat → Int) → (Nat → Int) → (Nat → Int) → (Nat → Int) → (Nat → Int) → Int → Int → Int → Int → Int → Int → Int → Int → Int → Int → Int → Int → Int → (Nat → Int64) → Prop) : Prop := wp_Reader_readAll tp_bytes dr_weights dr_termCounts dr_termSizes dr_letters tp_length dr_starredTerms dr_softItems dr_items rd_at rd_fault (fun (r1 : Int) (dr_weights_2 : (Nat → Int)) (dr_termCounts_3 : (Nat → Int)) (dr_termSizes_4 : (Nat → Int)) (dr_letters_5 : (Nat → Int)) (dr_starredTerms_6 : Int) (dr_softItems_7 : Int) (dr_items_8 : Int) (rd_at_9 : Int) (rd_fault_10 : Int) => (r1 = (-1) → wp_Query_copyFrom qy_weights qy_termCounts qy_termSizes qy_letters dr_weights_2 dr_termCounts_3 dr_termSizes_4 dr_letters_5 qy_starredTerms qy_softItems qy_items dr_starredTerms_6 dr_softItems_7 dr_items_8 (fun (qy_weights_11 : (Nat → Int)) (qy_termCounts_12 : (Nat → Int)) (qy_termSizes_13 : (Nat → Int)) (qy_letters_14 : (Nat → Int)) (qy_starredTerms_15 : Int) (qy_softItems_16 : Int) (qy_items_17 : Int) => wp_Matches_findAll pg_bytes pg_wordBegin pg_wordEnd pg_wordSentence pg_sentenceFirst pg_sentenceWords qy_termCounts_12 qy_termSizes_13 qy_letters_14 mt_beginning mt_ending mt_touching pg_length pg_words qy_starredTerms_15 qy_items_17 mt_total mt_tallies (fun (mt_beginning_18 : (Nat → Int)) (mt_ending_19 : (Nat → Int)) (mt_touching_20 : (Nat → Int)) (mt_total_21 : Int) (mt_tallies_22 : (Nat → Int64)) => wp_Sets_startAnew sr_tooLike pg_sentences se_limit se_chosen se_bestKnown pg_lowWords pg_highWords (fun (sr_tooLike_23 : (Nat → Int)) (se_chosen_24 : Int) (se_bestKnown_25 : Int) => Q qy_items_17 qy_weights_11 qy_termCounts_12 qy_termSizes_13 qy_letters_14 dr_weights_2 dr_termCounts_3 dr_termSizes_4 dr_letters_5 mt_beginning_18 mt_ending_19 mt_touching_20 sr_tooLike_23 r1 0 qy_starredTerms_15 qy_softItems_16 qy_items_17 dr_starredTerms_6 dr_softItems_7 dr_items_8 rd_at_9 rd_fault_10 mt_total_21 se_chosen_24 se_bestKnown_25 mt_tallies_22)))) ∧ (¬ r1 = (-1) → E 3 qy_weights qy_termCounts qy_termSizes qy_letters dr_weights_2 dr_termCounts_3 dr_termSizes_4 dr_letters_5 mt_beginning mt_ending mt_touching sr_tooLike r1 0 qy_starredTerms qy_softItems qy_items dr_starredTerms_6 dr_softItems_7 dr_items_8 rd_at_9 rd_fault_10 mt_total se_chosen se_bestKnown mt_tallies))
set_option maxHeartbeats 4000000 in
set_option maxRecDepth 20000 in
theorem s_Picker_query (l : Launch) (hl : l.stackTraces = false) (w : St) (P : Int → (Nat → Int) → (Nat → Int) → (Nat → Int) → (Nat → Int) → (Nat → Int) → (Nat → Int) → (Nat → Int) → (Nat → Int) → (Nat → Int) → (Nat → Int) → (Nat → Int) → (Nat → Int) → Int → Int → Int → Int → Int → Int → Int → Int → Int → Int → Int → Int → Int → (Nat → Int64) → Prop) (E : Nat → (Nat → Int) → (Nat → Int) → (Nat → Int) → (Nat → Int) → (Nat → Int) → (Nat → Int) → (Nat → Int) → (Nat → Int) → (Nat → Int) → (Nat → Int) → (Nat → Int) → (Nat → Int) → Int → Int → Int → Int → Int → Int → Int → Int → Int → Int → Int → Int → Int → (Nat → Int64) → Prop) (h : wp_Picker_query (w.1 2) (w.1 4) (w.1 7) (w.1 8) (w.1 9) (w.1 14) (w.1 15) (w.1 19) (w.1 20) (w.1 21) (w.1 22) (w.1 24) (w.1 25) (w.1 26) (w.1 27) (w.1 30) (w.1 31) (w.1 32) (w.1 40) (w.1 0 9) (w.1 1 1) (w.1 3 14) (w.1 3 16) (w.1 3 17) (w.1 18 4) (w.1 18 5) (w.1 18 6) (w.1 23 4) (w.1 23 5) (w.1 23 6) (w.1 28 2) (w.1 28 3) (w.1 29 6) (w.1 37 6) (w.1 37 7) (w.1 37 10) (w.2 16) (w.2 17) (w.2 33) P E) : Ct l yX9_query cX9_query 1 (some .int) 7 1 LX w [aR 0] (okI (fun r w1 => ∃ (o0 : (Nat → Int)) (o1 : (Nat → Int)) (o2 : (Nat → Int)) (o3 : (Nat → Int)) (o4 : (Nat → Int)) (o5 : (Nat → Int)) (o6 : (Nat → Int)) (o7 : (Nat → Int)) (o8 : (Nat → Int)) (o9 : (Nat → Int)) (o10 : (Nat → Int)) (o11 : (Nat → Int)) (o12 : Int) (o13 : Int) (o14 : Int) (o15 : Int) (o16 : Int) (o17 : Int) (o18 : Int) (o19 : Int) (o20 : Int) (o21 : Int) (o22 : Int) (o23 : Int) (o24 : Int) (o25 : (Nat → Int64)), w1 = (wB (wI (wI (wI (wI (wI (wI (wI (wI (wI (wI (wI (wI (wI (wA (wA (wA (wA (wA (wA (wA (wA (wA (wA (wA (wA w 19 o0) 20 o1) 21 o2) 22 o3) 24 o4) 25 o5) 26 o6) 27 o7) 30 o8) 31 o9) 32 o10) 40 o11) 0 9 o12) 1 1 o13) 18 4 o14) 18 5 o15) 18 6 o16) 23 4 o17) 23 5 o18) 23 6 o19) 28 2 o20) 28 3 o21) 29 6 o22) 37 7 o23) 37 10 o24) 33 o25) ∧ P r o0 o1 o2 o3 o4 o5 o6 o7 o8 o9 o10 o11 o12 o13 o14 o15 o16 o17 o18 o19 o20 o21 o22 o23 o24 o25)) (fun x w1 => ∃ (o0 : (Nat → Int)) (o1 : (Nat → Int)) (o2 : (Nat → Int)) (o3 : (Nat → Int)) (o4 : (Nat → Int)) (o5 : (Nat → Int)) (o6 : (Nat → Int)) (o7 : (Nat → Int)) (o8 : (Nat → Int)) (o9 : (Nat → Int)) (o10 : (Nat → Int)) (o11 : (Nat → Int)) (o12 : Int) (o13 : Int) (o14 : Int) (o15 : Int) (o16 : Int) (o17 : Int) (o18 : Int) (o19 : Int) (o20 : Int) (o21 : Int) (o22 : Int) (o23 : Int) (o24 : Int) (o25 : (Nat → Int64)), pj w1 0 LX = pj (wB (wI (wI (wI (wI (wI (wI (wI (wI (wI (wI (wI (wI (wI (wA (wA (wA (wA (wA (wA (wA (wA (wA (wA (wA (wA w 19 o0) 20 o1) 21 o2) 22 o3) 24 o4) 25 o5) 26 o6) 27 o7) 30 o8) 31 o9) 32 o10) 40 o11) 0 9 o12) 1 1 o13) 18 4 o14) 18 5 o15) 18 6 o16) 23 4 o17) 23 5 o18) 23 6 o19) 28 2 o20) 28 3 o21) 29 6 o22) 37 7 o23) 37 10 o24) 33 o25) 0 LX ∧ E x o0 o1 o2 o3 o4 o5 o6 o7 o8 o9 o10 o11 o12 o13 o14 o15 o16 o17 o18 o19 o20 o21 o22 o23 o24 o25) := by
  unfold wp_Picker_query at h
  refine Ct.of [some (aR 0)] (by decide) (Nat.le_of_ble_eq_true rfl) rfl (fun p e s m args below meth c D cA ad A Q hQ hC hr hk hnt => ?_)
  refine r_aload_n (pc := 0) hC 0 dX9_query_0 rfl rfl ?_
  refine r_aload_n (pc := 1) hC 0 dX9_query_1 rfl rfl ?_
  refine r_getr (r := 28) (pc := 2) hC dX9_query_2 fl_RX9_38 lX_0 rfl ?_
  refine r_callVi (pc := 5) hC [] [aR 0] dX9_query_5 ml_RX9_100 my_X3_readAll mi_X3_readAll lX_28 rfl rfl ⟨Nat.le_of_ble_eq_true rfl, Nat.le_of_ble_eq_true rfl⟩ ⟨Nat.le_of_ble_eq_true rfl, Nat.le_of_ble_eq_true rfl⟩ (Nat.le_of_ble_eq_true rfl) rfl (s_Reader_readAll l _ _ h) (fun r1 w1 hq => ?_)
  obtain ⟨dr_weights_2, dr_termCounts_3, dr_termSizes_4, dr_letters_5, dr_starredTerms_6, dr_softItems_7, dr_items_8, rd_at_9, rd_fault_10, e9, h⟩ := hq
  rw [e9]
  refine r_put (kd := 0) (pc := 8) hC dX9_query_8 pl_RX9_76 lX_0 rfl (by decide) (Or.inl rfl) ?_
  refine r_aload_n (pc := 11) hC 0 dX9_query_11 rfl rfl ?_
  refine r_getr (r := 1) (pc := 12) hC dX9_query_12 fl_RX9_10 lX_0 rfl ?_
  refine r_iconst (pc := 15) hC dX9_query_15 (rng_lit rfl) ?_
  refine r_put (kd := 0) (pc := 16) hC dX9_query_16 pl_RX9_80 lX_1 rfl (by decide) (Or.inl rfl) ?_
  refine r_aload_n (pc := 19) hC 0 dX9_query_19 rfl rfl ?_
  refine r_get (kd := 0) (v := r1) (pc := 20) hC dX9_query_20 fl_RX9_76 lX_0 rfl rfl ?_
  refine r_iconst (pc := 23) hC dX9_query_23 (rng_lit rfl) ?_
  refine r_ic_eq (pc := 24) (tgt := 37) hC dX9_query_24 rfl (fun hc1 => ?_) (fun hc1 => ?_)
  · have h := h.1 hc1
    refine r_aload_n (pc := 37) hC 0 dX9_query_37 rfl rfl ?_
    refine r_getr (r := 18) (pc := 38) hC dX9_query_38 fl_RX9_26 lX_0 rfl ?_
    refine r_aload_n (pc := 41) hC 0 dX9_query_41 rfl rfl ?_
    refine r_getr (r := 23) (pc := 42) hC dX9_query_42 fl_RX9_30 lX_0 rfl ?_
    refine r_callVv (pc := 45) hC [aR 23] [] dX9_query_45 ml_RX9_111 my_X2_copyFrom mi_X2_copyFrom lX_18 rfl rfl ⟨Nat.le_of_ble_eq_true rfl, Nat.le_of_ble_eq_true rfl⟩ ⟨Nat.le_of_ble_eq_true rfl, Nat.le_of_ble_eq_true rfl⟩ (Nat.le_of_ble_eq_true rfl) rfl (s_Query_copyFrom l _ _ h) (fun w1 hq => ?_)
    obtain ⟨qy_weights_11, qy_termCounts_12, qy_termSizes_13, qy_letters_14, qy_starredTerms_15, qy_softItems_16, qy_items_17, e9, h⟩ := hq
    rw [e9]
    refine r_aload_n (pc := 48) hC 0 dX9_query_48 rfl rfl ?_
    refine r_getr (r := 29) (pc := 49) hC dX9_query_49 fl_RX9_47 lX_0 rfl ?_
    refine r_callVv (pc := 52) hC [] [] dX9_query_52 ml_RX9_91 my_X0_findAll mi_X0_findAll lX_29 rfl rfl ⟨Nat.le_of_ble_eq_true rfl, Nat.le_of_ble_eq_true rfl⟩ ⟨Nat.le_of_ble_eq_true rfl, Nat.le_of_ble_eq_true rfl⟩ (Nat.le_of_ble_eq_true rfl) rfl (s_Matches_findAll l _ _ h) (fun w1 hq => ?_)
    obtain ⟨mt_beginning_18, mt_ending_19, mt_touching_20, mt_total_21, mt_tallies_22, e9, h⟩ := hq
    rw [e9]
    refine r_aload_n (pc := 55) hC 0 dX9_query_55 rfl rfl ?_
    refine r_getr (r := 37) (pc := 56) hC dX9_query_56 fl_RX9_63 lX_0 rfl ?_
    refine r_callVv (pc := 59) hC [] [] dX9_query_59 ml_RX9_94 my_X5_startAnew mi_X5_startAnew lX_37 rfl rfl ⟨Nat.le_of_ble_eq_true rfl, Nat.le_of_ble_eq_true rfl⟩ ⟨Nat.le_of_ble_eq_true rfl, Nat.le_of_ble_eq_true rfl⟩ (Nat.le_of_ble_eq_true rfl) rfl (s_Sets_startAnew l _ _ h) (fun w1 hq => ?_)
    obtain ⟨sr_tooLike_23, se_chosen_24, se_bestKnown_25, e9, h⟩ := hq
    rw [e9]
    refine r_aload_n (pc := 62) hC 0 dX9_query_62 rfl rfl ?_
    refine r_getr (r := 18) (pc := 63) hC dX9_query_63 fl_RX9_26 lX_0 rfl ?_
    refine r_get (kd := 0) (v := qy_items_17) (pc := 66) hC dX9_query_66 fl_RX9_115 lX_18 rfl rfl ?_
    refine r_conv (w2 := (wB (wI (wI (wI (wI (wI (wI (wI (wI (wI (wI (wI (wI (wI (wA (wA (wA (wA (wA (wA (wA (wA (wA (wA (wA (wA w 19 qy_weights_11) 20 qy_termCounts_12) 21 qy_termSizes_13) 22 qy_letters_14) 24 dr_weights_2) 25 dr_termCounts_3) 26 dr_termSizes_4) 27 dr_letters_5) 30 mt_beginning_18) 31 mt_ending_19) 32 mt_touching_20) 40 sr_tooLike_23) 0 9 r1) 1 1 0) 18 4 qy_starredTerms_15) 18 5 qy_softItems_16) 18 6 qy_items_17) 23 4 dr_starredTerms_6) 23 5 dr_softItems_7) 23 6 dr_items_8) 28 2 rd_at_9) 28 3 rd_fault_10) 29 6 mt_total_21) 37 7 se_chosen_24) 37 10 se_bestKnown_25) 33 mt_tallies_22)) rfl ?_
    exact r_tri (pc := 69) (kd := 0) hC hQ ⟨Nat.le_of_ble_eq_true rfl, Nat.le_of_ble_eq_true rfl⟩ dX9_query_69 hr hk (by decide) (Or.inl rfl) ⟨qy_weights_11, qy_termCounts_12, qy_termSizes_13, qy_letters_14, dr_weights_2, dr_termCounts_3, dr_termSizes_4, dr_letters_5, mt_beginning_18, mt_ending_19, mt_touching_20, sr_tooLike_23, r1, 0, qy_starredTerms_15, qy_softItems_16, qy_items_17, dr_starredTerms_6, dr_softItems_7, dr_items_8, rd_at_9, rd_fault_10, mt_total_21, se_chosen_24, se_bestKnown_25, mt_tallies_22, rfl, h⟩
  have h := h.2 hc1
  exact r_thr (j := 2) 3 ["java/lang/RuntimeException", "java/lang/Exception"] hC hl hQ hk hnt tw_RX9_104_108 rfl ⟨rfl, rfl⟩ dX9_query_27 dX9_query_30 dX9_query_31 dX9_query_33 dX9_query_36 ⟨Nat.le_of_ble_eq_true rfl, Nat.le_of_ble_eq_true rfl⟩ ⟨Nat.le_of_ble_eq_true rfl, Nat.le_of_ble_eq_true rfl⟩ ⟨Nat.le_of_ble_eq_true rfl, Nat.le_of_ble_eq_true rfl⟩ ⟨(w.1 19), (w.1 20), (w.1 21), (w.1 22), dr_weights_2, dr_termCounts_3, dr_termSizes_4, dr_letters_5, (w.1 30), (w.1 31), (w.1 32), (w.1 40), r1, 0, (w.1 18 4), (w.1 18 5), (w.1 18 6), dr_starredTerms_6, dr_softItems_7, dr_items_8, rd_at_9, rd_fault_10, (w.1 29 6), (w.1 37 7), (w.1 37 10), (w.2 33), rfl, h⟩
def wp_Picker_requireWhat (a0 : Int) (a1 : Int) (Q : Prop) (E : Nat → Prop) : Prop := jn0 (fun (J1 : Prop) => (a0 < 0 → J1) ∧ (¬ a0 < 0 → (a0 ≤ a1 → Q) ∧ (¬ a0 ≤ a1 → J1))) (E 2)
set_option maxHeartbeats 4000000 in
set_option maxRecDepth 20000 in
theorem s_Picker_requireWhat (l : Launch) (hl : l.stackTraces = false) (w : St) (a0 : Int) (a1 : Int) (P : Prop) (E : Nat → Prop) (h : wp_Picker_requireWhat a0 a1 P E) : Ct l yX9_requireWhat cX9_requireWhat 2 none 6 1 LX w [aI a0, aI a1] (okV (fun w1 => w1 = w ∧ P)) (fun x w1 => pj w1 0 LX = pj w 0 LX ∧ E x) := by
  unfold wp_Picker_requireWhat at h
  refine Ct.of [some (aI a0), some (aI a1)] (by decide) (Nat.le_of_ble_eq_true rfl) rfl (fun p e s m args below meth c D cA ad A Q hQ hC hr hk hnt => ?_)
  refine r_iload_n (pc := 0) hC 0 dX9_requireWhat_0 rfl rfl ?_
  obtain ⟨J1, hJ1, h⟩ := h
  have S1 : J1 → Wd p l e (rmT 6 1) s m args below meth c Q 0 0 2 D cA ad A LX w 9 [none, none] [] := by
    intro hj
    have h := hJ1 hj
    exact r_thr13 (j := 3) 2 ["java/lang/RuntimeException", "java/lang/Exception"] hC hl hQ hk hnt tw_RX9_381_385 rfl ⟨rfl, rfl⟩ dX9_requireWhat_9 dX9_requireWhat_12 dX9_requireWhat_13 dX9_requireWhat_16 dX9_requireWhat_19 ⟨Nat.le_of_ble_eq_true rfl, Nat.le_of_ble_eq_true rfl⟩ ⟨Nat.le_of_ble_eq_true rfl, Nat.le_of_ble_eq_true rfl⟩ ⟨Nat.le_of_ble_eq_true rfl, Nat.le_of_ble_eq_true rfl⟩ ⟨rfl, h⟩
  refine r_if_lt (pc := 1) (tgt := 9) hC dX9_requireWhat_1 rfl (fun hc2 => ?_) (fun hc2 => ?_)
  · have h := h.1 hc2
    exact r_to [false, false] rfl rfl (S1 h)
  have h := h.2 hc2
  refine r_iload_n (pc := 4) hC 0 dX9_requireWhat_4 rfl rfl ?_
  refine r_iload_n (pc := 5) hC 1 dX9_requireWhat_5 rfl rfl ?_
  refine r_ic_le (pc := 6) (tgt := 20) hC dX9_requireWhat_6 rfl (fun hc1 => ?_) (fun hc1 => ?_)
  · have h := h.1 hc1
    exact r_trv (pc := 20) hC hQ ⟨Nat.le_of_ble_eq_true rfl, Nat.le_of_ble_eq_true rfl⟩ dX9_requireWhat_20 hr hk ⟨rfl, h⟩
  have h := h.2 hc1
  exact r_to [false, false] rfl rfl (S1 h)
def wp_Picker_requireNumber (a0 : Int) (a1 : Int) (a2 : Int) (Q : Prop) (E : Nat → Prop) : Prop := jn0 (fun (J1 : Prop) => (a0 < a1 → J1) ∧ (¬ a0 < a1 → (a0 ≤ a2 → Q) ∧ (¬ a0 ≤ a2 → J1))) (E 3)
set_option maxHeartbeats 4000000 in
set_option maxRecDepth 20000 in
theorem s_Picker_requireNumber (l : Launch) (hl : l.stackTraces = false) (w : St) (a0 : Int) (a1 : Int) (a2 : Int) (P : Prop) (E : Nat → Prop) (h : wp_Picker_requireNumber a0 a1 a2 P E) : Ct l yX9_requireNumber cX9_requireNumber 3 none 6 1 LX w [aI a0, aI a1, aI a2] (okV (fun w1 => w1 = w ∧ P)) (fun x w1 => pj w1 0 LX = pj w 0 LX ∧ E x) := by
  unfold wp_Picker_requireNumber at h
  refine Ct.of [some (aI a0), some (aI a1), some (aI a2)] (by decide) (Nat.le_of_ble_eq_true rfl) rfl (fun p e s m args below meth c D cA ad A Q hQ hC hr hk hnt => ?_)
  refine r_iload_n (pc := 0) hC 0 dX9_requireNumber_0 rfl rfl ?_
  refine r_iload_n (pc := 1) hC 1 dX9_requireNumber_1 rfl rfl ?_
  obtain ⟨J1, hJ1, h⟩ := h
  have S1 : J1 → Wd p l e (rmT 6 1) s m args below meth c Q 0 0 3 D cA ad A LX w 10 [none, none, none] [] := by
    intro hj
    have h := hJ1 hj
    exact r_thrW (j := 4) 3 ["java/lang/RuntimeException", "java/lang/Exception"] hC hl hQ hk hnt tw_RX9_104_108 rfl ⟨rfl, rfl⟩ dX9_requireNumber_10 dX9_requireNumber_13 dX9_requireNumber_14 dX9_requireNumber_17 dX9_requireNumber_20 ⟨Nat.le_of_ble_eq_true rfl, Nat.le_of_ble_eq_true rfl⟩ ⟨Nat.le_of_ble_eq_true rfl, Nat.le_of_ble_eq_true rfl⟩ ⟨Nat.le_of_ble_eq_true rfl, Nat.le_of_ble_eq_true rfl⟩ ⟨rfl, h⟩
  refine r_ic_lt (pc := 2) (tgt := 10) hC dX9_requireNumber_2 rfl (fun hc2 => ?_) (fun hc2 => ?_)
  · have h := h.1 hc2
    exact r_to [false, false, false] rfl rfl (S1 h)
  have h := h.2 hc2
  refine r_iload_n (pc := 5) hC 0 dX9_requireNumber_5 rfl rfl ?_
  refine r_iload_n (pc := 6) hC 2 dX9_requireNumber_6 rfl rfl ?_
  refine r_ic_le (pc := 7) (tgt := 21) hC dX9_requireNumber_7 rfl (fun hc1 => ?_) (fun hc1 => ?_)
  · have h := h.1 hc1
    exact r_trv (pc := 21) hC hQ ⟨Nat.le_of_ble_eq_true rfl, Nat.le_of_ble_eq_true rfl⟩ dX9_requireNumber_21 hr hk ⟨rfl, h⟩
  have h := h.2 hc1
  exact r_to [false, false, false] rfl rfl (S1 h)
def wp_Picker_tell (sr_tooLike : (Nat → Int)) (pg_sentences : Int) (se_budget : Int) (se_most : Int) (se_limit : Int) (se_chosen : Int) (se_bestKnown : Int) (pg_lowWords : (Nat → Int64)) (pg_highWords : (Nat → Int64)) (a1 : Int) (a2 : Int) (Q : Int → (Nat → Int) → Int → Int → Int → Int → Int → Prop) (E : Nat → (Nat → Int) → Int → Int → Int → Int → Int → Prop) : Prop := wp_Picker_requireWhat a1 2 (wp_Sets_setting se_budget se_most se_limit a1 (fun (r1 : Int) => jn3 (fun (J1 : Int → Int → Int → Prop) => (¬ a1 = 0 → (¬ a1 = 1 → wp_Picker_requireNumber a2 0 100 (J1 se_budget se_most a2) (fun (x9 : Nat) => E x9 sr_tooLike se_budget se_most se_limit se_chosen se_bestKnown)) ∧ (a1 = 1 → wp_Picker_requireNumber a2 1 6 (J1 se_budget a2 se_limit) (fun (x9 : Nat) => E x9 sr_tooLike se_budget se_most se_limit se_chosen se_bestKnown))) ∧ (a1 = 0 → wp_Picker_requireNumber a2 20 700 (J1 a2 se_most se_limit) (fun (x9 : Nat) => E x9 sr_tooLike se_budget se_most se_limit se_chosen se_bestKnown))) (fun (se_budget_2 : Int) (se_most_3 : Int) (se_limit_4 : Int) => wp_Sets_startAnew sr_tooLike pg_sentences se_limit_4 se_chosen se_bestKnown pg_lowWords pg_highWords (fun (sr_tooLike_5 : (Nat → Int)) (se_chosen_6 : Int) (se_bestKnown_7 : Int) => Q r1 sr_tooLike_5 se_budget_2 se_most_3 se_limit_4 se_chosen_6 se_bestKnown_7)))) (fun (x9 : Nat) => E x9 sr_tooLike se_budget se_most se_limit se_chosen se_bestKnown)
set_option maxHeartbeats 4000000 in
set_option maxRecDepth 20000 in
theorem s_Picker_tell (l : Launch) (hl : l.stackTraces = false) (w : St) (a1 : Int) (a2 : Int) (P : Int → (Nat → Int) → Int → Int → Int → Int → Int → Prop) (E : Nat → (Nat → Int) → Int → Int → Int → Int → Int → Prop) (h : wp_Picker_tell (w.1 40) (w.1 3 17) (w.1 37 4) (w.1 37 5) (w.1 37 6) (w.1 37 7) (w.1 37 10) (w.2 16) (w.2 17) a1 a2 P E) : Ct l yX9_tell cX9_tell 4 (some .int) 7 2 LX w [aR 0, aI a1, aI a2] (okI (fun r w1 => ∃ (o0 : (Nat → Int)) (o1 : Int) (o2 : Int) (o3 : Int) (o4 : Int) (o5 : Int), w1 = (wI (wI (wI (wI (wI (wA w 40 o0) 37 4 o1) 37 5 o2) 37 6 o3) 37 7 o4) 37 10 o5) ∧ P r o0 o1 o2 o3 o4 o5)) (fun x w1 => ∃ (o0 : (Nat → Int)) (o1 : Int) (o2 : Int) (o3 : Int) (o4 : Int) (o5 : Int), pj w1 0 LX = pj (wI (wI (wI (wI (wI (wA w 40 o0) 37 4 o1) 37 5 o2) 37 6 o3) 37 7 o4) 37 10 o5) 0 LX ∧ E x o0 o1 o2 o3 o4 o5) := by
  unfold wp_Picker_tell at h
  refine Ct.of [some (aR 0), some (aI a1), some (aI a2), none] (by decide) (Nat.le_of_ble_eq_true rfl) rfl (fun p e s m args below meth c D cA ad A Q hQ hC hr hk hnt => ?_)
  refine r_iload_n (pc := 0) hC 1 dX9_tell_0 rfl rfl ?_
  refine r_iconst (pc := 1) hC dX9_tell_1 (rng_lit rfl) ?_
  refine r_callTSv (pc := 2) hC [aI a1, aI 2] [] hQ hk hnt ⟨Nat.le_of_ble_eq_true rfl, Nat.le_of_ble_eq_true rfl⟩ dX9_tell_2 ml_RX9_118 my_X9_requireWhat ms_X9_requireWhat rfl ⟨Nat.le_of_ble_eq_true rfl, Nat.le_of_ble_eq_true rfl⟩ ⟨Nat.le_of_ble_eq_true rfl, Nat.le_of_ble_eq_true rfl⟩ (Nat.le_of_ble_eq_true rfl) rfl (s_Picker_requireWhat l hl _ _ _ _ _ h) (fun x9 w9 hx => ?_) (fun w1 hq => ?_)
  · obtain ⟨e9, h9⟩ := hx
    exact ⟨(w.1 40), (w.1 37 4), (w.1 37 5), (w.1 37 6), (w.1 37 7), (w.1 37 10), e9.trans rfl, h9⟩
  obtain ⟨e9, h⟩ := hq
  rw [e9]
  refine r_aload_n (pc := 5) hC 0 dX9_tell_5 rfl rfl ?_
  refine r_getr (r := 37) (pc := 6) hC dX9_tell_6 fl_RX9_63 lX_0 rfl ?_
  refine r_iload_n (pc := 9) hC 1 dX9_tell_9 rfl rfl ?_
  refine r_callVi (pc := 10) hC [aI a1] [] dX9_tell_10 ml_RX9_122 my_X5_setting mi_X5_setting lX_37 rfl rfl ⟨Nat.le_of_ble_eq_true rfl, Nat.le_of_ble_eq_true rfl⟩ ⟨Nat.le_of_ble_eq_true rfl, Nat.le_of_ble_eq_true rfl⟩ (Nat.le_of_ble_eq_true rfl) rfl (s_Sets_setting l _ _ _ h) (fun r1 w1 hq => ?_)
  obtain ⟨e9, h⟩ := hq
  rw [e9]
  refine r_istore_n (ls2 := [some (aR 0), some (aI a1), some (aI a2), some (aI r1)]) (pc := 13) hC 3 dX9_tell_13 rfl (by decide) rfl rfl ?_
  refine r_iload_n (pc := 14) hC 1 dX9_tell_14 rfl rfl ?_
  obtain ⟨J1, hJ1, h⟩ := h
  have S1 : ∀ (se_budget_2 : Int) (se_most_3 : Int) (se_limit_4 : Int), J1 se_budget_2 se_most_3 se_limit_4 → Wd p l e (rmT 7 2) s m args below meth c Q 2 12 4 D cA ad A LX (wI (wI (wI w 37 4 se_budget_2) 37 5 se_most_3) 37 6 se_limit_4) 76 [some (aR 0), none, none, some (aI r1)] [] := by
    intro se_budget_2 se_most_3 se_limit_4 hj
    have h := hJ1 se_budget_2 se_most_3 se_limit_4 hj
    refine r_aload_n (pc := 76) hC 0 dX9_tell_76 rfl rfl ?_
    refine r_getr (r := 37) (pc := 77) hC dX9_tell_77 fl_RX9_63 lX_0 rfl ?_
    refine r_callVv (pc := 80) hC [] [] dX9_tell_80 ml_RX9_94 my_X5_startAnew mi_X5_startAnew lX_37 rfl rfl ⟨Nat.le_of_ble_eq_true rfl, Nat.le_of_ble_eq_true rfl⟩ ⟨Nat.le_of_ble_eq_true rfl, Nat.le_of_ble_eq_true rfl⟩ (Nat.le_of_ble_eq_true rfl) rfl (s_Sets_startAnew l _ _ h) (fun w1 hq => ?_)
    obtain ⟨sr_tooLike_5, se_chosen_6, se_bestKnown_7, e9, h⟩ := hq
    rw [e9]
    refine r_iload_n (pc := 83) hC 3 dX9_tell_83 rfl rfl ?_
    refine r_conv (w2 := (wI (wI (wI (wI (wI (wA w 40 sr_tooLike_5) 37 4 se_budget_2) 37 5 se_most_3) 37 6 se_limit_4) 37 7 se_chosen_6) 37 10 se_bestKnown_7)) rfl ?_
    exact r_tri (pc := 84) (kd := 0) hC hQ ⟨Nat.le_of_ble_eq_true rfl, Nat.le_of_ble_eq_true rfl⟩ dX9_tell_84 hr hk (by decide) (Or.inl rfl) ⟨sr_tooLike_5, se_budget_2, se_most_3, se_limit_4, se_chosen_6, se_bestKnown_7, rfl, h⟩
  refine r_if_ne (pc := 15) (tgt := 38) hC dX9_tell_15 rfl (fun hc2 => ?_) (fun hc2 => ?_)
  · have h := h.1 hc2
    refine r_iload_n (pc := 38) hC 1 dX9_tell_38 rfl rfl ?_
    refine r_iconst (pc := 39) hC dX9_tell_39 (rng_lit rfl) ?_
    refine r_ic_ne (pc := 40) (tgt := 61) hC dX9_tell_40 rfl (fun hc1 => ?_) (fun hc1 => ?_)
    · have h := h.1 hc1
      refine r_iload_n (pc := 61) hC 2 dX9_tell_61 rfl rfl ?_
      refine r_iconst (pc := 62) hC dX9_tell_62 (rng_lit rfl) ?_
      refine r_bipush (pc := 63) hC dX9_tell_63 ⟨rfl, rng_lit rfl⟩ ?_
      refine r_callTSv (pc := 65) hC [aI a2, aI 0, aI 100] [] hQ hk hnt ⟨Nat.le_of_ble_eq_true rfl, Nat.le_of_ble_eq_true rfl⟩ dX9_tell_65 ml_RX9_126 my_X9_requireNumber ms_X9_requireNumber rfl ⟨Nat.le_of_ble_eq_true rfl, Nat.le_of_ble_eq_true rfl⟩ ⟨Nat.le_of_ble_eq_true rfl, Nat.le_of_ble_eq_true rfl⟩ (Nat.le_of_ble_eq_true rfl) rfl (s_Picker_requireNumber l hl _ _ _ _ _ _ h) (fun x9 w9 hx => ?_) (fun w1 hq => ?_)
      · obtain ⟨e9, h9⟩ := hx
        exact ⟨(w.1 40), (w.1 37 4), (w.1 37 5), (w.1 37 6), (w.1 37 7), (w.1 37 10), e9.trans rfl, h9⟩
      obtain ⟨e9, h⟩ := hq
      rw [e9]
      refine r_aload_n (pc := 68) hC 0 dX9_tell_68 rfl rfl ?_
      refine r_getr (r := 37) (pc := 69) hC dX9_tell_69 fl_RX9_63 lX_0 rfl ?_
      refine r_iload_n (pc := 72) hC 2 dX9_tell_72 rfl rfl ?_
      refine r_put (kd := 0) (pc := 73) hC dX9_tell_73 pl_RX9_136 lX_37 rfl (by decide) (Or.inl rfl) ?_
      exact r_to [true, false, false, true] rfl rfl (S1 (w.1 37 4) (w.1 37 5) a2 h)
    have h := h.2 hc1
    refine r_iload_n (pc := 43) hC 2 dX9_tell_43 rfl rfl ?_
    refine r_iconst (pc := 44) hC dX9_tell_44 (rng_lit rfl) ?_
    refine r_bipush (pc := 45) hC dX9_tell_45 ⟨rfl, rng_lit rfl⟩ ?_
    refine r_callTSv (pc := 47) hC [aI a2, aI 1, aI 6] [] hQ hk hnt ⟨Nat.le_of_ble_eq_true rfl, Nat.le_of_ble_eq_true rfl⟩ dX9_tell_47 ml_RX9_126 my_X9_requireNumber ms_X9_requireNumber rfl ⟨Nat.le_of_ble_eq_true rfl, Nat.le_of_ble_eq_true rfl⟩ ⟨Nat.le_of_ble_eq_true rfl, Nat.le_of_ble_eq_true rfl⟩ (Nat.le_of_ble_eq_true rfl) rfl (s_Picker_requireNumber l hl _ _ _ _ _ _ h) (fun x9 w9 hx => ?_) (fun w1 hq => ?_)
    · obtain ⟨e9, h9⟩ := hx
      exact ⟨(w.1 40), (w.1 37 4), (w.1 37 5), (w.1 37 6), (w.1 37 7), (w.1 37 10), e9.trans rfl, h9⟩
    obtain ⟨e9, h⟩ := hq
    rw [e9]
    refine r_aload_n (pc := 50) hC 0 dX9_tell_50 rfl rfl ?_
    refine r_getr (r := 37) (pc := 51) hC dX9_tell_51 fl_RX9_63 lX_0 rfl ?_
    refine r_iload_n (pc := 54) hC 2 dX9_tell_54 rfl rfl ?_
    refine r_put (kd := 0) (pc := 55) hC dX9_tell_55 pl_RX9_133 lX_37 rfl (by decide) (Or.inl rfl) ?_
    refine r_goto (tgt := 76) (pc := 58) hC dX9_tell_58 rfl ?_
    exact r_to [true, false, false, true] rfl rfl (S1 (w.1 37 4) a2 (w.1 37 6) h)
  have h := h.2 hc2
  refine r_iload_n (pc := 18) hC 2 dX9_tell_18 rfl rfl ?_
  refine r_bipush (pc := 19) hC dX9_tell_19 ⟨rfl, rng_lit rfl⟩ ?_
  refine r_sipush (pc := 21) hC dX9_tell_21 ⟨rfl, rng_lit rfl⟩ ?_
  refine r_callTSv (pc := 24) hC [aI a2, aI 20, aI 700] [] hQ hk hnt ⟨Nat.le_of_ble_eq_true rfl, Nat.le_of_ble_eq_true rfl⟩ dX9_tell_24 ml_RX9_126 my_X9_requireNumber ms_X9_requireNumber rfl ⟨Nat.le_of_ble_eq_true rfl, Nat.le_of_ble_eq_true rfl⟩ ⟨Nat.le_of_ble_eq_true rfl, Nat.le_of_ble_eq_true rfl⟩ (Nat.le_of_ble_eq_true rfl) rfl (s_Picker_requireNumber l hl _ _ _ _ _ _ h) (fun x9 w9 hx => ?_) (fun w1 hq => ?_)
  · obtain ⟨e9, h9⟩ := hx
    exact ⟨(w.1 40), (w.1 37 4), (w.1 37 5), (w.1 37 6), (w.1 37 7), (w.1 37 10), e9.trans rfl, h9⟩
  obtain ⟨e9, h⟩ := hq
  rw [e9]
  refine r_aload_n (pc := 27) hC 0 dX9_tell_27 rfl rfl ?_
  refine r_getr (r := 37) (pc := 28) hC dX9_tell_28 fl_RX9_63 lX_0 rfl ?_
  refine r_iload_n (pc := 31) hC 2 dX9_tell_31 rfl rfl ?_
  refine r_put (kd := 0) (pc := 32) hC dX9_tell_32 pl_RX9_130 lX_37 rfl (by decide) (Or.inl rfl) ?_
  refine r_goto (tgt := 76) (pc := 35) hC dX9_tell_35 rfl ?_
  exact r_to [true, false, false, true] rfl rfl (S1 a2 (w.1 37 5) (w.1 37 6) h)
def wp_Picker_requireIndex (a0 : Int) (a1 : Int) (Q : Prop) (E : Nat → Prop) : Prop := jn0 (fun (J1 : Prop) => (a0 < 0 → J1) ∧ (¬ a0 < 0 → (a0 < a1 → Q) ∧ (¬ a0 < a1 → J1))) (E 1)
set_option maxHeartbeats 4000000 in
set_option maxRecDepth 20000 in
theorem s_Picker_requireIndex (l : Launch) (hl : l.stackTraces = false) (w : St) (a0 : Int) (a1 : Int) (P : Prop) (E : Nat → Prop) (h : wp_Picker_requireIndex a0 a1 P E) : Ct l yX9_requireIndex cX9_requireIndex 2 none 6 1 LX w [aI a0, aI a1] (okV (fun w1 => w1 = w ∧ P)) (fun x w1 => pj w1 0 LX = pj w 0 LX ∧ E x) := by
  unfold wp_Picker_requireIndex at h
  refine Ct.of [some (aI a0), some (aI a1)] (by decide) (Nat.le_of_ble_eq_true rfl) rfl (fun p e s m args below meth c D cA ad A Q hQ hC hr hk hnt => ?_)
  refine r_iload_n (pc := 0) hC 0 dX9_requireIndex_0 rfl rfl ?_
  obtain ⟨J1, hJ1, h⟩ := h
  have S1 : J1 → Wd p l e (rmT 6 1) s m args below meth c Q 0 0 2 D cA ad A LX w 9 [none, none] [] := by
    intro hj
    have h := hJ1 hj
    exact r_thrW (j := 5) 1 ["java/lang/RuntimeException", "java/lang/Exception"] hC hl hQ hk hnt tw_RX9_376_380 rfl ⟨rfl, rfl⟩ dX9_requireIndex_9 dX9_requireIndex_12 dX9_requireIndex_13 dX9_requireIndex_16 dX9_requireIndex_19 ⟨Nat.le_of_ble_eq_true rfl, Nat.le_of_ble_eq_true rfl⟩ ⟨Nat.le_of_ble_eq_true rfl, Nat.le_of_ble_eq_true rfl⟩ ⟨Nat.le_of_ble_eq_true rfl, Nat.le_of_ble_eq_true rfl⟩ ⟨rfl, h⟩
  refine r_if_lt (pc := 1) (tgt := 9) hC dX9_requireIndex_1 rfl (fun hc2 => ?_) (fun hc2 => ?_)
  · have h := h.1 hc2
    exact r_to [false, false] rfl rfl (S1 h)
  have h := h.2 hc2
  refine r_iload_n (pc := 4) hC 0 dX9_requireIndex_4 rfl rfl ?_
  refine r_iload_n (pc := 5) hC 1 dX9_requireIndex_5 rfl rfl ?_
  refine r_ic_lt (pc := 6) (tgt := 20) hC dX9_requireIndex_6 rfl (fun hc1 => ?_) (fun hc1 => ?_)
  · have h := h.1 hc1
    exact r_trv (pc := 20) hC hQ ⟨Nat.le_of_ble_eq_true rfl, Nat.le_of_ble_eq_true rfl⟩ dX9_requireIndex_20 hr hk ⟨rfl, h⟩
  have h := h.2 hc1
  exact r_to [false, false] rfl rfl (S1 h)
def wp_Picker_word (pg_signAt : (Nat → Int)) (pg_wordBegin : (Nat → Int)) (pg_wordEnd : (Nat → Int)) (pg_wordSentence : (Nat → Int)) (pg_wordAlike : (Nat → Int)) (mt_touching : (Nat → Int)) (pg_words : Int) (a1 : Int) (a2 : Int) (Q : Int → Prop) (E : Nat → Prop) : Prop := wp_Picker_requireIndex a1 pg_words (wp_Picker_requireWhat a2 5 ((a2 = 0 → (0 ≤ a1 ∧ a1 < 100) ∧ (Q (pg_wordBegin (Int.toNat a1)))) ∧ (¬ a2 = 0 → (a2 = 1 → (0 ≤ a1 ∧ a1 < 100) ∧ ((0 ≤ a1 ∧ a1 < 100) ∧ ((rng ((pg_wordEnd (Int.toNat a1)) - (pg_wordBegin (Int.toNat a1)))) ∧ (Q ((pg_wordEnd (Int.toNat a1)) - (pg_wordBegin (Int.toNat a1))))))) ∧ (¬ a2 = 1 → (a2 = 2 → wp_Page_windowLength pg_signAt pg_wordBegin pg_wordEnd a1 a1 (fun (r1 : Int) => Q r1)) ∧ (¬ a2 = 2 → (a2 = 3 → (0 ≤ a1 ∧ a1 < 100) ∧ (Q (pg_wordSentence (Int.toNat a1)))) ∧ (¬ a2 = 3 → (a2 = 4 → (0 ≤ a1 ∧ a1 < 100) ∧ (Q (mt_touching (Int.toNat a1)))) ∧ (¬ a2 = 4 → (0 ≤ a1 ∧ a1 < 100) ∧ (Q (pg_wordAlike (Int.toNat a1))))))))) (fun (x9 : Nat) => E x9)) (fun (x9 : Nat) => E x9)
set_option maxHeartbeats 4000000 in
set_option maxRecDepth 20000 in
theorem s_Picker_word (l : Launch) (hl : l.stackTraces = false) (w : St) (a1 : Int) (a2 : Int) (P : Int → Prop) (E : Nat → Prop) (h : wp_Picker_word (w.1 6) (w.1 7) (w.1 8) (w.1 9) (w.1 10) (w.1 32) (w.1 3 16) a1 a2 P E) : Ct l yX9_word cX9_word 3 (some .int) 7 2 LX w [aR 0, aI a1, aI a2] (okI (fun r w1 => w1 = w ∧ P r)) (fun x w1 => pj w1 0 LX = pj w 0 LX ∧ E x) := by
  unfold wp_Picker_word at h
  refine Ct.of [some (aR 0), some (aI a1), some (aI a2)] (by decide) (Nat.le_of_ble_eq_true rfl) rfl (fun p e s m args below meth c D cA ad A Q hQ hC hr hk hnt => ?_)
  refine r_iload_n (pc := 0) hC 1 dX9_word_0 rfl rfl ?_
  refine r_aload_n (pc := 1) hC 0 dX9_word_1 rfl rfl ?_
  refine r_getr (r := 3) (pc := 2) hC dX9_word_2 fl_RX9_19 lX_0 rfl ?_
  refine r_get (kd := 0) (v := (w.1 3 16)) (pc := 5) hC dX9_word_5 fl_RX9_147 lX_3 rfl rfl ?_
  refine r_callTSv (pc := 8) hC [aI a1, aI (w.1 3 16)] [] hQ hk hnt ⟨Nat.le_of_ble_eq_true rfl, Nat.le_of_ble_eq_true rfl⟩ dX9_word_8 ml_RX9_150 my_X9_requireIndex ms_X9_requireIndex rfl ⟨Nat.le_of_ble_eq_true rfl, Nat.le_of_ble_eq_true rfl⟩ ⟨Nat.le_of_ble_eq_true rfl, Nat.le_of_ble_eq_true rfl⟩ (Nat.le_of_ble_eq_true rfl) rfl (s_Picker_requireIndex l hl _ _ _ _ _ h) (fun x9 w9 hx => ?_) (fun w1 hq => ?_)
  · obtain ⟨e9, h9⟩ := hx
    exact ⟨e9.trans rfl, h9⟩
  obtain ⟨e9, h⟩ := hq
  rw [e9]
  refine r_iload_n (pc := 11) hC 2 dX9_word_11 rfl rfl ?_
  refine r_iconst (pc := 12) hC dX9_word_12 (rng_lit rfl) ?_
  refine r_callTSv (pc := 13) hC [aI a2, aI 5] [] hQ hk hnt ⟨Nat.le_of_ble_eq_true rfl, Nat.le_of_ble_eq_true rfl⟩ dX9_word_13 ml_RX9_118 my_X9_requireWhat ms_X9_requireWhat rfl ⟨Nat.le_of_ble_eq_true rfl, Nat.le_of_ble_eq_true rfl⟩ ⟨Nat.le_of_ble_eq_true rfl, Nat.le_of_ble_eq_true rfl⟩ (Nat.le_of_ble_eq_true rfl) rfl (s_Picker_requireWhat l hl _ _ _ _ _ h) (fun x9 w9 hx => ?_) (fun w1 hq => ?_)
  · obtain ⟨e9, h9⟩ := hx
    exact ⟨e9.trans rfl, h9⟩
  obtain ⟨e9, h⟩ := hq
  rw [e9]
  refine r_iload_n (pc := 16) hC 2 dX9_word_16 rfl rfl ?_
  by_cases hc1 : a2 = 0
  · refine r_tblIn (pc := 17) (tgt := 52) hC dX9_word_17 (by rw [hc1]; decide) (by rw [hc1]; decide) (by rw [hc1]; rfl) rfl ?_
    have h := h.1 hc1
    refine r_aload_n (pc := 52) hC 0 dX9_word_52 rfl rfl ?_
    refine r_getr (r := 3) (pc := 53) hC dX9_word_53 fl_RX9_19 lX_0 rfl ?_
    refine r_getr (r := 7) (pc := 56) hC dX9_word_56 fl_RX9_153 lX_3 rfl ?_
    refine r_iload_n (pc := 59) hC 1 dX9_word_59 rfl rfl ?_
    refine r_iald (v := ((w.1 7) (Int.toNat a1))) (pc := 60) hC dX9_word_60 lX_7 h.1.1 h.1.2 rfl ?_
    have h := h.2
    exact r_tri (pc := 61) (kd := 0) hC hQ ⟨Nat.le_of_ble_eq_true rfl, Nat.le_of_ble_eq_true rfl⟩ dX9_word_61 hr hk (by decide) (Or.inl rfl) ⟨rfl, h⟩
  have h := h.2 hc1
  by_cases hc2 : a2 = 1
  · refine r_tblIn (pc := 17) (tgt := 62) hC dX9_word_17 (by rw [hc2]; decide) (by rw [hc2]; decide) (by rw [hc2]; rfl) rfl ?_
    have h := h.1 hc2
    refine r_aload_n (pc := 62) hC 0 dX9_word_62 rfl rfl ?_
    refine r_getr (r := 3) (pc := 63) hC dX9_word_63 fl_RX9_19 lX_0 rfl ?_
    refine r_getr (r := 8) (pc := 66) hC dX9_word_66 fl_RX9_156 lX_3 rfl ?_
    refine r_iload_n (pc := 69) hC 1 dX9_word_69 rfl rfl ?_
    refine r_iald (v := ((w.1 8) (Int.toNat a1))) (pc := 70) hC dX9_word_70 lX_8 h.1.1 h.1.2 rfl ?_
    have h := h.2
    refine r_aload_n (pc := 71) hC 0 dX9_word_71 rfl rfl ?_
    refine r_getr (r := 3) (pc := 72) hC dX9_word_72 fl_RX9_19 lX_0 rfl ?_
    refine r_getr (r := 7) (pc := 75) hC dX9_word_75 fl_RX9_153 lX_3 rfl ?_
    refine r_iload_n (pc := 78) hC 1 dX9_word_78 rfl rfl ?_
    refine r_iald (v := ((w.1 7) (Int.toNat a1))) (pc := 79) hC dX9_word_79 lX_7 h.1.1 h.1.2 rfl ?_
    have h := h.2
    refine r_isub (pc := 80) hC dX9_word_80 h.1 ?_
    have h := h.2
    exact r_tri (pc := 81) (kd := 0) hC hQ ⟨Nat.le_of_ble_eq_true rfl, Nat.le_of_ble_eq_true rfl⟩ dX9_word_81 hr hk (by decide) (Or.inl rfl) ⟨rfl, h⟩
  have h := h.2 hc2
  by_cases hc3 : a2 = 2
  · refine r_tblIn (pc := 17) (tgt := 82) hC dX9_word_17 (by rw [hc3]; decide) (by rw [hc3]; decide) (by rw [hc3]; rfl) rfl ?_
    have h := h.1 hc3
    refine r_aload_n (pc := 82) hC 0 dX9_word_82 rfl rfl ?_
    refine r_getr (r := 3) (pc := 83) hC dX9_word_83 fl_RX9_19 lX_0 rfl ?_
    refine r_iload_n (pc := 86) hC 1 dX9_word_86 rfl rfl ?_
    refine r_iload_n (pc := 87) hC 1 dX9_word_87 rfl rfl ?_
    refine r_callVi (pc := 88) hC [aI a1, aI a1] [] dX9_word_88 ml_RX9_159 my_X1_windowLength mi_X1_windowLength lX_3 rfl rfl ⟨Nat.le_of_ble_eq_true rfl, Nat.le_of_ble_eq_true rfl⟩ ⟨Nat.le_of_ble_eq_true rfl, Nat.le_of_ble_eq_true rfl⟩ (Nat.le_of_ble_eq_true rfl) rfl (s_Page_windowLength l _ _ _ _ h) (fun r1 w1 hq => ?_)
    obtain ⟨e9, h⟩ := hq
    rw [e9]
    exact r_tri (pc := 91) (kd := 0) hC hQ ⟨Nat.le_of_ble_eq_true rfl, Nat.le_of_ble_eq_true rfl⟩ dX9_word_91 hr hk (by decide) (Or.inl rfl) ⟨rfl, h⟩
  have h := h.2 hc3
  by_cases hc4 : a2 = 3
  · refine r_tblIn (pc := 17) (tgt := 92) hC dX9_word_17 (by rw [hc4]; decide) (by rw [hc4]; decide) (by rw [hc4]; rfl) rfl ?_
    have h := h.1 hc4
    refine r_aload_n (pc := 92) hC 0 dX9_word_92 rfl rfl ?_
    refine r_getr (r := 3) (pc := 93) hC dX9_word_93 fl_RX9_19 lX_0 rfl ?_
    refine r_getr (r := 9) (pc := 96) hC dX9_word_96 fl_RX9_163 lX_3 rfl ?_
    refine r_iload_n (pc := 99) hC 1 dX9_word_99 rfl rfl ?_
    refine r_iald (v := ((w.1 9) (Int.toNat a1))) (pc := 100) hC dX9_word_100 lX_9 h.1.1 h.1.2 rfl ?_
    have h := h.2
    exact r_tri (pc := 101) (kd := 0) hC hQ ⟨Nat.le_of_ble_eq_true rfl, Nat.le_of_ble_eq_true rfl⟩ dX9_word_101 hr hk (by decide) (Or.inl rfl) ⟨rfl, h⟩
  have h := h.2 hc4
  by_cases hc5 : a2 = 4
  · refine r_tblIn (pc := 17) (tgt := 102) hC dX9_word_17 (by rw [hc5]; decide) (by rw [hc5]; decide) (by rw [hc5]; rfl) rfl ?_
    have h := h.1 hc5
    refine r_aload_n (pc := 102) hC 0 dX9_word_102 rfl rfl ?_
    refine r_getr (r := 29) (pc := 103) hC dX9_word_103 fl_RX9_47 lX_0 rfl ?_
    refine r_getr (r := 32) (pc := 106) hC dX9_word_106 fl_RX9_166 lX_29 rfl ?_
    refine r_iload_n (pc := 109) hC 1 dX9_word_109 rfl rfl ?_
    refine r_iald (v := ((w.1 32) (Int.toNat a1))) (pc := 110) hC dX9_word_110 lX_32 h.1.1 h.1.2 rfl ?_
    have h := h.2
    exact r_tri (pc := 111) (kd := 0) hC hQ ⟨Nat.le_of_ble_eq_true rfl, Nat.le_of_ble_eq_true rfl⟩ dX9_word_111 hr hk (by decide) (Or.inl rfl) ⟨rfl, h⟩
  have h := h.2 hc5
  refine r_tblOut (pc := 17) (tgt := 112) hC dX9_word_17 (tb_out_4 hc1 hc2 hc3 hc4 hc5) rfl ?_
  refine r_aload_n (pc := 112) hC 0 dX9_word_112 rfl rfl ?_
  refine r_getr (r := 3) (pc := 113) hC dX9_word_113 fl_RX9_19 lX_0 rfl ?_
  refine r_getr (r := 10) (pc := 116) hC dX9_word_116 fl_RX9_169 lX_3 rfl ?_
  refine r_iload_n (pc := 119) hC 1 dX9_word_119 rfl rfl ?_
  refine r_iald (v := ((w.1 10) (Int.toNat a1))) (pc := 120) hC dX9_word_120 lX_10 h.1.1 h.1.2 rfl ?_
  have h := h.2
  exact r_tri (pc := 121) (kd := 0) hC hQ ⟨Nat.le_of_ble_eq_true rfl, Nat.le_of_ble_eq_true rfl⟩ dX9_word_121 hr hk (by decide) (Or.inl rfl) ⟨rfl, h⟩
def wp_Picker_sentence (pg_sentenceBegin : (Nat → Int)) (pg_sentenceEnd : (Nat → Int)) (pg_sentenceSigns : (Nat → Int)) (pg_sentenceFirst : (Nat → Int)) (pg_sentenceWords : (Nat → Int)) (qy_weights : (Nat → Int)) (sr_tooLike : (Nat → Int)) (pg_sentences : Int) (qy_items : Int) (se_budget : Int) (se_most : Int) (se_chosen : Int) (pg_lowWords : (Nat → Int64)) (pg_highWords : (Nat → Int64)) (mt_tallies : (Nat → Int64)) (a1 : Int) (a2 : Int) (Q : Int → Prop) (E : Nat → Prop) : Prop := wp_Picker_requireIndex a1 pg_sentences (wp_Picker_requireWhat a2 10 ((a2 = 0 → (0 ≤ a1 ∧ a1 < 14) ∧ (Q (pg_sentenceBegin (Int.toNat a1)))) ∧ (¬ a2 = 0 → (a2 = 1 → (0 ≤ a1 ∧ a1 < 14) ∧ ((0 ≤ a1 ∧ a1 < 14) ∧ ((rng ((pg_sentenceEnd (Int.toNat a1)) - (pg_sentenceBegin (Int.toNat a1)))) ∧ (Q ((pg_sentenceEnd (Int.toNat a1)) - (pg_sentenceBegin (Int.toNat a1))))))) ∧ (¬ a2 = 1 → (a2 = 2 → (0 ≤ a1 ∧ a1 < 14) ∧ (Q (pg_sentenceSigns (Int.toNat a1)))) ∧ (¬ a2 = 2 → (a2 = 3 → (0 ≤ a1 ∧ a1 < 14) ∧ (Q (pg_sentenceFirst (Int.toNat a1)))) ∧ (¬ a2 = 3 → (a2 = 4 → (0 ≤ a1 ∧ a1 < 14) ∧ (Q (pg_sentenceWords (Int.toNat a1)))) ∧ (¬ a2 = 4 → (a2 = 5 → wp_Page_unlikeWords pg_lowWords pg_highWords a1 (fun (r1 : Int) => Q r1)) ∧ (¬ a2 = 5 → (a2 = 6 → (0 ≤ a1 ∧ a1 < 14) ∧ (wp_Query_itemsOf qy_items (mt_tallies (Int.toNat a1)) (fun (r2 : Int) => Q r2))) ∧ (¬ a2 = 6 → (a2 = 7 → (0 ≤ a1 ∧ a1 < 14) ∧ (wp_Query_worthOf qy_weights qy_items (mt_tallies (Int.toNat a1)) (fun (r3 : Int) => Q r3))) ∧ (¬ a2 = 7 → (a2 = 8 → wp_Sets_gain qy_weights pg_sentences qy_items mt_tallies se_chosen a1 (fun (r4 : Int) => Q r4)) ∧ (¬ a2 = 8 → (a2 = 9 → wp_Sets_mayJoin pg_sentenceSigns sr_tooLike pg_sentences se_budget se_most se_chosen a1 (fun (r5 : Int) => (r5 = 0 → Q 0) ∧ (¬ r5 = 0 → Q 1))) ∧ (¬ a2 = 9 → wp_Page_echo pg_sentences pg_lowWords pg_highWords a1 (fun (r6 : Int) => Q r6)))))))))))) (fun (x9 : Nat) => E x9)) (fun (x9 : Nat) => E x9)
set_option maxHeartbeats 4000000 in
set_option maxRecDepth 20000 in
theorem s_Picker_sentence (l : Launch) (hl : l.stackTraces = false) (w : St) (a1 : Int) (a2 : Int) (P : Int → Prop) (E : Nat → Prop) (h : wp_Picker_sentence (w.1 11) (w.1 12) (w.1 13) (w.1 14) (w.1 15) (w.1 19) (w.1 40) (w.1 3 17) (w.1 18 6) (w.1 37 4) (w.1 37 5) (w.1 37 7) (w.2 16) (w.2 17) (w.2 33) a1 a2 P E) : Ct l yX9_sentence cX9_sentence 3 (some .int) 7 2 LX w [aR 0, aI a1, aI a2] (okI (fun r w1 => w1 = w ∧ P r)) (fun x w1 => pj w1 0 LX = pj w 0 LX ∧ E x) := by
  unfold wp_Picker_sentence at h
  refine Ct.of [some (aR 0), some (aI a1), some (aI a2)] (by decide) (Nat.le_of_ble_eq_true rfl) rfl (fun p e s m args below meth c D cA ad A Q hQ hC hr hk hnt => ?_)
  refine r_iload_n (pc := 0) hC 1 dX9_sentence_0 rfl rfl ?_
  refine r_aload_n (pc := 1) hC 0 dX9_sentence_1 rfl rfl ?_
  refine r_getr (r := 3) (pc := 2) hC dX9_sentence_2 fl_RX9_19 lX_0 rfl ?_
  refine r_get (kd := 0) (v := (w.1 3 17)) (pc := 5) hC dX9_sentence_5 fl_RX9_97 lX_3 rfl rfl ?_
  refine r_callTSv (pc := 8) hC [aI a1, aI (w.1 3 17)] [] hQ hk hnt ⟨Nat.le_of_ble_eq_true rfl, Nat.le_of_ble_eq_true rfl⟩ dX9_sentence_8 ml_RX9_150 my_X9_requireIndex ms_X9_requireIndex rfl ⟨Nat.le_of_ble_eq_true rfl, Nat.le_of_ble_eq_true rfl⟩ ⟨Nat.le_of_ble_eq_true rfl, Nat.le_of_ble_eq_true rfl⟩ (Nat.le_of_ble_eq_true rfl) rfl (s_Picker_requireIndex l hl _ _ _ _ _ h) (fun x9 w9 hx => ?_) (fun w1 hq => ?_)
  · obtain ⟨e9, h9⟩ := hx
    exact ⟨e9.trans rfl, h9⟩
  obtain ⟨e9, h⟩ := hq
  rw [e9]
  refine r_iload_n (pc := 11) hC 2 dX9_sentence_11 rfl rfl ?_
  refine r_bipush (pc := 12) hC dX9_sentence_12 ⟨rfl, rng_lit rfl⟩ ?_
  refine r_callTSv (pc := 14) hC [aI a2, aI 10] [] hQ hk hnt ⟨Nat.le_of_ble_eq_true rfl, Nat.le_of_ble_eq_true rfl⟩ dX9_sentence_14 ml_RX9_118 my_X9_requireWhat ms_X9_requireWhat rfl ⟨Nat.le_of_ble_eq_true rfl, Nat.le_of_ble_eq_true rfl⟩ ⟨Nat.le_of_ble_eq_true rfl, Nat.le_of_ble_eq_true rfl⟩ (Nat.le_of_ble_eq_true rfl) rfl (s_Picker_requireWhat l hl _ _ _ _ _ h) (fun x9 w9 hx => ?_) (fun w1 hq => ?_)
  · obtain ⟨e9, h9⟩ := hx
    exact ⟨e9.trans rfl, h9⟩
  obtain ⟨e9, h⟩ := hq
  rw [e9]
  refine r_iload_n (pc := 17) hC 2 dX9_sentence_17 rfl rfl ?_
  by_cases hc1 : a2 = 0
  · refine r_tblIn (pc := 18) (tgt := 72) hC dX9_sentence_18 (by rw [hc1]; decide) (by rw [hc1]; decide) (by rw [hc1]; rfl) rfl ?_
    have h := h.1 hc1
    refine r_aload_n (pc := 72) hC 0 dX9_sentence_72 rfl rfl ?_
    refine r_getr (r := 3) (pc := 73) hC dX9_sentence_73 fl_RX9_19 lX_0 rfl ?_
    refine r_getr (r := 11) (pc := 76) hC dX9_sentence_76 fl_RX9_172 lX_3 rfl ?_
    refine r_iload_n (pc := 79) hC 1 dX9_sentence_79 rfl rfl ?_
    refine r_iald (v := ((w.1 11) (Int.toNat a1))) (pc := 80) hC dX9_sentence_80 lX_11 h.1.1 h.1.2 rfl ?_
    have h := h.2
    exact r_tri (pc := 81) (kd := 0) hC hQ ⟨Nat.le_of_ble_eq_true rfl, Nat.le_of_ble_eq_true rfl⟩ dX9_sentence_81 hr hk (by decide) (Or.inl rfl) ⟨rfl, h⟩
  have h := h.2 hc1
  by_cases hc2 : a2 = 1
  · refine r_tblIn (pc := 18) (tgt := 82) hC dX9_sentence_18 (by rw [hc2]; decide) (by rw [hc2]; decide) (by rw [hc2]; rfl) rfl ?_
    have h := h.1 hc2
    refine r_aload_n (pc := 82) hC 0 dX9_sentence_82 rfl rfl ?_
    refine r_getr (r := 3) (pc := 83) hC dX9_sentence_83 fl_RX9_19 lX_0 rfl ?_
    refine r_getr (r := 12) (pc := 86) hC dX9_sentence_86 fl_RX9_175 lX_3 rfl ?_
    refine r_iload_n (pc := 89) hC 1 dX9_sentence_89 rfl rfl ?_
    refine r_iald (v := ((w.1 12) (Int.toNat a1))) (pc := 90) hC dX9_sentence_90 lX_12 h.1.1 h.1.2 rfl ?_
    have h := h.2
    refine r_aload_n (pc := 91) hC 0 dX9_sentence_91 rfl rfl ?_
    refine r_getr (r := 3) (pc := 92) hC dX9_sentence_92 fl_RX9_19 lX_0 rfl ?_
    refine r_getr (r := 11) (pc := 95) hC dX9_sentence_95 fl_RX9_172 lX_3 rfl ?_
    refine r_iload_n (pc := 98) hC 1 dX9_sentence_98 rfl rfl ?_
    refine r_iald (v := ((w.1 11) (Int.toNat a1))) (pc := 99) hC dX9_sentence_99 lX_11 h.1.1 h.1.2 rfl ?_
    have h := h.2
    refine r_isub (pc := 100) hC dX9_sentence_100 h.1 ?_
    have h := h.2
    exact r_tri (pc := 101) (kd := 0) hC hQ ⟨Nat.le_of_ble_eq_true rfl, Nat.le_of_ble_eq_true rfl⟩ dX9_sentence_101 hr hk (by decide) (Or.inl rfl) ⟨rfl, h⟩
  have h := h.2 hc2
  by_cases hc3 : a2 = 2
  · refine r_tblIn (pc := 18) (tgt := 102) hC dX9_sentence_18 (by rw [hc3]; decide) (by rw [hc3]; decide) (by rw [hc3]; rfl) rfl ?_
    have h := h.1 hc3
    refine r_aload_n (pc := 102) hC 0 dX9_sentence_102 rfl rfl ?_
    refine r_getr (r := 3) (pc := 103) hC dX9_sentence_103 fl_RX9_19 lX_0 rfl ?_
    refine r_getr (r := 13) (pc := 106) hC dX9_sentence_106 fl_RX9_178 lX_3 rfl ?_
    refine r_iload_n (pc := 109) hC 1 dX9_sentence_109 rfl rfl ?_
    refine r_iald (v := ((w.1 13) (Int.toNat a1))) (pc := 110) hC dX9_sentence_110 lX_13 h.1.1 h.1.2 rfl ?_
    have h := h.2
    exact r_tri (pc := 111) (kd := 0) hC hQ ⟨Nat.le_of_ble_eq_true rfl, Nat.le_of_ble_eq_true rfl⟩ dX9_sentence_111 hr hk (by decide) (Or.inl rfl) ⟨rfl, h⟩
  have h := h.2 hc3
  by_cases hc4 : a2 = 3
  · refine r_tblIn (pc := 18) (tgt := 112) hC dX9_sentence_18 (by rw [hc4]; decide) (by rw [hc4]; decide) (by rw [hc4]; rfl) rfl ?_
    have h := h.1 hc4
    refine r_aload_n (pc := 112) hC 0 dX9_sentence_112 rfl rfl ?_
    refine r_getr (r := 3) (pc := 113) hC dX9_sentence_113 fl_RX9_19 lX_0 rfl ?_
    refine r_getr (r := 14) (pc := 116) hC dX9_sentence_116 fl_RX9_181 lX_3 rfl ?_
    refine r_iload_n (pc := 119) hC 1 dX9_sentence_119 rfl rfl ?_
    refine r_iald (v := ((w.1 14) (Int.toNat a1))) (pc := 120) hC dX9_sentence_120 lX_14 h.1.1 h.1.2 rfl ?_
    have h := h.2
    exact r_tri (pc := 121) (kd := 0) hC hQ ⟨Nat.le_of_ble_eq_true rfl, Nat.le_of_ble_eq_true rfl⟩ dX9_sentence_121 hr hk (by decide) (Or.inl rfl) ⟨rfl, h⟩
  have h := h.2 hc4
  by_cases hc5 : a2 = 4
  · refine r_tblIn (pc := 18) (tgt := 122) hC dX9_sentence_18 (by rw [hc5]; decide) (by rw [hc5]; decide) (by rw [hc5]; rfl) rfl ?_
    have h := h.1 hc5
    refine r_aload_n (pc := 122) hC 0 dX9_sentence_122 rfl rfl ?_
    refine r_getr (r := 3) (pc := 123) hC dX9_sentence_123 fl_RX9_19 lX_0 rfl ?_
    refine r_getr (r := 15) (pc := 126) hC dX9_sentence_126 fl_RX9_184 lX_3 rfl ?_
    refine r_iload_n (pc := 129) hC 1 dX9_sentence_129 rfl rfl ?_
    refine r_iald (v := ((w.1 15) (Int.toNat a1))) (pc := 130) hC dX9_sentence_130 lX_15 h.1.1 h.1.2 rfl ?_
    have h := h.2
    exact r_tri (pc := 131) (kd := 0) hC hQ ⟨Nat.le_of_ble_eq_true rfl, Nat.le_of_ble_eq_true rfl⟩ dX9_sentence_131 hr hk (by decide) (Or.inl rfl) ⟨rfl, h⟩
  have h := h.2 hc5
  by_cases hc6 : a2 = 5
  · refine r_tblIn (pc := 18) (tgt := 132) hC dX9_sentence_18 (by rw [hc6]; decide) (by rw [hc6]; decide) (by rw [hc6]; rfl) rfl ?_
    have h := h.1 hc6
    refine r_aload_n (pc := 132) hC 0 dX9_sentence_132 rfl rfl ?_
    refine r_getr (r := 3) (pc := 133) hC dX9_sentence_133 fl_RX9_19 lX_0 rfl ?_
    refine r_iload_n (pc := 136) hC 1 dX9_sentence_136 rfl rfl ?_
    refine r_callVi (pc := 137) hC [aI a1] [] dX9_sentence_137 ml_RX9_187 my_X1_unlikeWords mi_X1_unlikeWords lX_3 rfl rfl ⟨Nat.le_of_ble_eq_true rfl, Nat.le_of_ble_eq_true rfl⟩ ⟨Nat.le_of_ble_eq_true rfl, Nat.le_of_ble_eq_true rfl⟩ (Nat.le_of_ble_eq_true rfl) rfl (s_Page_unlikeWords l _ _ _ h) (fun r1 w1 hq => ?_)
    obtain ⟨e9, h⟩ := hq
    rw [e9]
    exact r_tri (pc := 140) (kd := 0) hC hQ ⟨Nat.le_of_ble_eq_true rfl, Nat.le_of_ble_eq_true rfl⟩ dX9_sentence_140 hr hk (by decide) (Or.inl rfl) ⟨rfl, h⟩
  have h := h.2 hc6
  by_cases hc7 : a2 = 6
  · refine r_tblIn (pc := 18) (tgt := 141) hC dX9_sentence_18 (by rw [hc7]; decide) (by rw [hc7]; decide) (by rw [hc7]; rfl) rfl ?_
    have h := h.1 hc7
    refine r_aload_n (pc := 141) hC 0 dX9_sentence_141 rfl rfl ?_
    refine r_getr (r := 18) (pc := 142) hC dX9_sentence_142 fl_RX9_26 lX_0 rfl ?_
    refine r_aload_n (pc := 145) hC 0 dX9_sentence_145 rfl rfl ?_
    refine r_getr (r := 29) (pc := 146) hC dX9_sentence_146 fl_RX9_47 lX_0 rfl ?_
    refine r_getr (r := 33) (pc := 149) hC dX9_sentence_149 fl_RX9_190 lX_29 rfl ?_
    refine r_iload_n (pc := 152) hC 1 dX9_sentence_152 rfl rfl ?_
    refine r_lald (v := ((w.2 33) (Int.toNat a1))) (pc := 153) hC dX9_sentence_153 lX_33 h.1.1 h.1.2 rfl ?_
    have h := h.2
    refine r_callVi (pc := 154) hC [aL ((w.2 33) (Int.toNat a1))] [] dX9_sentence_154 ml_RX9_194 my_X2_itemsOf mi_X2_itemsOf lX_18 rfl rfl ⟨Nat.le_of_ble_eq_true rfl, Nat.le_of_ble_eq_true rfl⟩ ⟨Nat.le_of_ble_eq_true rfl, Nat.le_of_ble_eq_true rfl⟩ (Nat.le_of_ble_eq_true rfl) rfl (s_Query_itemsOf l _ _ _ h) (fun r2 w1 hq => ?_)
    obtain ⟨e9, h⟩ := hq
    rw [e9]
    exact r_tri (pc := 157) (kd := 0) hC hQ ⟨Nat.le_of_ble_eq_true rfl, Nat.le_of_ble_eq_true rfl⟩ dX9_sentence_157 hr hk (by decide) (Or.inl rfl) ⟨rfl, h⟩
  have h := h.2 hc7
  by_cases hc8 : a2 = 7
  · refine r_tblIn (pc := 18) (tgt := 158) hC dX9_sentence_18 (by rw [hc8]; decide) (by rw [hc8]; decide) (by rw [hc8]; rfl) rfl ?_
    have h := h.1 hc8
    refine r_aload_n (pc := 158) hC 0 dX9_sentence_158 rfl rfl ?_
    refine r_getr (r := 18) (pc := 159) hC dX9_sentence_159 fl_RX9_26 lX_0 rfl ?_
    refine r_aload_n (pc := 162) hC 0 dX9_sentence_162 rfl rfl ?_
    refine r_getr (r := 29) (pc := 163) hC dX9_sentence_163 fl_RX9_47 lX_0 rfl ?_
    refine r_getr (r := 33) (pc := 166) hC dX9_sentence_166 fl_RX9_190 lX_29 rfl ?_
    refine r_iload_n (pc := 169) hC 1 dX9_sentence_169 rfl rfl ?_
    refine r_lald (v := ((w.2 33) (Int.toNat a1))) (pc := 170) hC dX9_sentence_170 lX_33 h.1.1 h.1.2 rfl ?_
    have h := h.2
    refine r_callVi (pc := 171) hC [aL ((w.2 33) (Int.toNat a1))] [] dX9_sentence_171 ml_RX9_198 my_X2_worthOf mi_X2_worthOf lX_18 rfl rfl ⟨Nat.le_of_ble_eq_true rfl, Nat.le_of_ble_eq_true rfl⟩ ⟨Nat.le_of_ble_eq_true rfl, Nat.le_of_ble_eq_true rfl⟩ (Nat.le_of_ble_eq_true rfl) rfl (s_Query_worthOf l _ _ _ h) (fun r3 w1 hq => ?_)
    obtain ⟨e9, h⟩ := hq
    rw [e9]
    exact r_tri (pc := 174) (kd := 0) hC hQ ⟨Nat.le_of_ble_eq_true rfl, Nat.le_of_ble_eq_true rfl⟩ dX9_sentence_174 hr hk (by decide) (Or.inl rfl) ⟨rfl, h⟩
  have h := h.2 hc8
  by_cases hc9 : a2 = 8
  · refine r_tblIn (pc := 18) (tgt := 175) hC dX9_sentence_18 (by rw [hc9]; decide) (by rw [hc9]; decide) (by rw [hc9]; rfl) rfl ?_
    have h := h.1 hc9
    refine r_aload_n (pc := 175) hC 0 dX9_sentence_175 rfl rfl ?_
    refine r_getr (r := 37) (pc := 176) hC dX9_sentence_176 fl_RX9_63 lX_0 rfl ?_
    refine r_aload_n (pc := 179) hC 0 dX9_sentence_179 rfl rfl ?_
    refine r_getr (r := 37) (pc := 180) hC dX9_sentence_180 fl_RX9_63 lX_0 rfl ?_
    refine r_get (kd := 0) (v := (w.1 37 7)) (pc := 183) hC dX9_sentence_183 fl_RX9_201 lX_37 rfl rfl ?_
    refine r_iload_n (pc := 186) hC 1 dX9_sentence_186 rfl rfl ?_
    refine r_callVi (pc := 187) hC [aI (w.1 37 7), aI a1] [] dX9_sentence_187 ml_RX9_204 my_X5_gain mi_X5_gain lX_37 rfl rfl ⟨Nat.le_of_ble_eq_true rfl, Nat.le_of_ble_eq_true rfl⟩ ⟨Nat.le_of_ble_eq_true rfl, Nat.le_of_ble_eq_true rfl⟩ (Nat.le_of_ble_eq_true rfl) rfl (s_Sets_gain l _ _ _ _ h) (fun r4 w1 hq => ?_)
    obtain ⟨e9, h⟩ := hq
    rw [e9]
    exact r_tri (pc := 190) (kd := 0) hC hQ ⟨Nat.le_of_ble_eq_true rfl, Nat.le_of_ble_eq_true rfl⟩ dX9_sentence_190 hr hk (by decide) (Or.inl rfl) ⟨rfl, h⟩
  have h := h.2 hc9
  by_cases hc11 : a2 = 9
  · refine r_tblIn (pc := 18) (tgt := 191) hC dX9_sentence_18 (by rw [hc11]; decide) (by rw [hc11]; decide) (by rw [hc11]; rfl) rfl ?_
    have h := h.1 hc11
    refine r_aload_n (pc := 191) hC 0 dX9_sentence_191 rfl rfl ?_
    refine r_getr (r := 37) (pc := 192) hC dX9_sentence_192 fl_RX9_63 lX_0 rfl ?_
    refine r_aload_n (pc := 195) hC 0 dX9_sentence_195 rfl rfl ?_
    refine r_getr (r := 37) (pc := 196) hC dX9_sentence_196 fl_RX9_63 lX_0 rfl ?_
    refine r_get (kd := 0) (v := (w.1 37 7)) (pc := 199) hC dX9_sentence_199 fl_RX9_201 lX_37 rfl rfl ?_
    refine r_iload_n (pc := 202) hC 1 dX9_sentence_202 rfl rfl ?_
    refine r_callVi (pc := 203) hC [aI (w.1 37 7), aI a1] [] dX9_sentence_203 ml_RX9_207 my_X5_mayJoin mi_X5_mayJoin lX_37 rfl rfl ⟨Nat.le_of_ble_eq_true rfl, Nat.le_of_ble_eq_true rfl⟩ ⟨Nat.le_of_ble_eq_true rfl, Nat.le_of_ble_eq_true rfl⟩ (Nat.le_of_ble_eq_true rfl) rfl (s_Sets_mayJoin l _ _ _ _ h) (fun r5 w1 hq => ?_)
    obtain ⟨e9, h⟩ := hq
    rw [e9]
    refine r_if_eq (pc := 206) (tgt := 213) hC dX9_sentence_206 rfl (fun hc10 => ?_) (fun hc10 => ?_)
    · have h := h.1 hc10
      refine r_iconst (pc := 213) hC dX9_sentence_213 (rng_lit rfl) ?_
      exact r_tri (pc := 214) (kd := 0) hC hQ ⟨Nat.le_of_ble_eq_true rfl, Nat.le_of_ble_eq_true rfl⟩ dX9_sentence_214 hr hk (by decide) (Or.inl rfl) ⟨rfl, h⟩
    have h := h.2 hc10
    refine r_iconst (pc := 209) hC dX9_sentence_209 (rng_lit rfl) ?_
    refine r_goto (tgt := 214) (pc := 210) hC dX9_sentence_210 rfl ?_
    exact r_tri (pc := 214) (kd := 0) hC hQ ⟨Nat.le_of_ble_eq_true rfl, Nat.le_of_ble_eq_true rfl⟩ dX9_sentence_214 hr hk (by decide) (Or.inl rfl) ⟨rfl, h⟩
  have h := h.2 hc11
  refine r_tblOut (pc := 18) (tgt := 215) hC dX9_sentence_18 (tb_out_9 hc1 hc2 hc3 hc4 hc5 hc6 hc7 hc8 hc9 hc11) rfl ?_
  refine r_aload_n (pc := 215) hC 0 dX9_sentence_215 rfl rfl ?_
  refine r_getr (r := 3) (pc := 216) hC dX9_sentence_216 fl_RX9_19 lX_0 rfl ?_
  refine r_iload_n (pc := 219) hC 1 dX9_sentence_219 rfl rfl ?_
  refine r_callVi (pc := 220) hC [aI a1] [] dX9_sentence_220 ml_RX9_211 my_X1_echo mi_X1_echo lX_3 rfl rfl ⟨Nat.le_of_ble_eq_true rfl, Nat.le_of_ble_eq_true rfl⟩ ⟨Nat.le_of_ble_eq_true rfl, Nat.le_of_ble_eq_true rfl⟩ (Nat.le_of_ble_eq_true rfl) rfl (s_Page_echo l _ _ _ h) (fun r6 w1 hq => ?_)
  obtain ⟨e9, h⟩ := hq
  rw [e9]
  exact r_tri (pc := 223) (kd := 0) hC hQ ⟨Nat.le_of_ble_eq_true rfl, Nat.le_of_ble_eq_true rfl⟩ dX9_sentence_223 hr hk (by decide) (Or.inl rfl) ⟨rfl, h⟩
def wp_Picker_item (qy_weights : (Nat → Int)) (qy_termCounts : (Nat → Int)) (pg_sentences : Int) (qy_softItems : Int) (qy_items : Int) (mt_tallies : (Nat → Int64)) (a1 : Int) (a2 : Int) (Q : Int → Prop) (E : Nat → Prop) : Prop := wp_Picker_requireIndex a1 qy_items (wp_Picker_requireWhat a2 4 ((a2 = 0 → (0 ≤ a1 ∧ a1 < 8) ∧ (Q (qy_weights (Int.toNat a1)))) ∧ (¬ a2 = 0 → (a2 = 1 → wp_Query_isStrong qy_softItems a1 (fun (r1 : Int) => (r1 = 0 → Q 0) ∧ (¬ r1 = 0 → Q 1))) ∧ (¬ a2 = 1 → (a2 = 2 → (0 ≤ a1 ∧ a1 < 8) ∧ (Q (qy_termCounts (Int.toNat a1)))) ∧ (¬ a2 = 2 → (a2 = 3 → wp_Picker_allSentences pg_sentences (fun (r2 : Int) => wp_Matches_tallyOf pg_sentences mt_tallies r2 (fun (r3 : Int64) => wp_Query_countIn r3 a1 (fun (r4 : Int) => Q r4)))) ∧ (¬ a2 = 3 → wp_Matches_sentencesWith pg_sentences mt_tallies a1 (fun (r5 : Int) => Q r5)))))) (fun (x9 : Nat) => E x9)) (fun (x9 : Nat) => E x9)
set_option maxHeartbeats 4000000 in
set_option maxRecDepth 20000 in
theorem s_Picker_item (l : Launch) (hl : l.stackTraces = false) (w : St) (a1 : Int) (a2 : Int) (P : Int → Prop) (E : Nat → Prop) (h : wp_Picker_item (w.1 19) (w.1 20) (w.1 3 17) (w.1 18 5) (w.1 18 6) (w.2 33) a1 a2 P E) : Ct l yX9_item cX9_item 3 (some .int) 7 2 LX w [aR 0, aI a1, aI a2] (okI (fun r w1 => w1 = w ∧ P r)) (fun x w1 => pj w1 0 LX = pj w 0 LX ∧ E x) := by
  unfold wp_Picker_item at h
  refine Ct.of [some (aR 0), some (aI a1), some (aI a2)] (by decide) (Nat.le_of_ble_eq_true rfl) rfl (fun p e s m args below meth c D cA ad A Q hQ hC hr hk hnt => ?_)
  refine r_iload_n (pc := 0) hC 1 dX9_item_0 rfl rfl ?_
  refine r_aload_n (pc := 1) hC 0 dX9_item_1 rfl rfl ?_
  refine r_getr (r := 18) (pc := 2) hC dX9_item_2 fl_RX9_26 lX_0 rfl ?_
  refine r_get (kd := 0) (v := (w.1 18 6)) (pc := 5) hC dX9_item_5 fl_RX9_115 lX_18 rfl rfl ?_
  refine r_callTSv (pc := 8) hC [aI a1, aI (w.1 18 6)] [] hQ hk hnt ⟨Nat.le_of_ble_eq_true rfl, Nat.le_of_ble_eq_true rfl⟩ dX9_item_8 ml_RX9_150 my_X9_requireIndex ms_X9_requireIndex rfl ⟨Nat.le_of_ble_eq_true rfl, Nat.le_of_ble_eq_true rfl⟩ ⟨Nat.le_of_ble_eq_true rfl, Nat.le_of_ble_eq_true rfl⟩ (Nat.le_of_ble_eq_true rfl) rfl (s_Picker_requireIndex l hl _ _ _ _ _ h) (fun x9 w9 hx => ?_) (fun w1 hq => ?_)
  · obtain ⟨e9, h9⟩ := hx
    exact ⟨e9.trans rfl, h9⟩
  obtain ⟨e9, h⟩ := hq
  rw [e9]
  refine r_iload_n (pc := 11) hC 2 dX9_item_11 rfl rfl ?_
  refine r_iconst (pc := 12) hC dX9_item_12 (rng_lit rfl) ?_
  refine r_callTSv (pc := 13) hC [aI a2, aI 4] [] hQ hk hnt ⟨Nat.le_of_ble_eq_true rfl, Nat.le_of_ble_eq_true rfl⟩ dX9_item_13 ml_RX9_118 my_X9_requireWhat ms_X9_requireWhat rfl ⟨Nat.le_of_ble_eq_true rfl, Nat.le_of_ble_eq_true rfl⟩ ⟨Nat.le_of_ble_eq_true rfl, Nat.le_of_ble_eq_true rfl⟩ (Nat.le_of_ble_eq_true rfl) rfl (s_Picker_requireWhat l hl _ _ _ _ _ h) (fun x9 w9 hx => ?_) (fun w1 hq => ?_)
  · obtain ⟨e9, h9⟩ := hx
    exact ⟨e9.trans rfl, h9⟩
  obtain ⟨e9, h⟩ := hq
  rw [e9]
  refine r_iload_n (pc := 16) hC 2 dX9_item_16 rfl rfl ?_
  by_cases hc1 : a2 = 0
  · refine r_tblIn (pc := 17) (tgt := 48) hC dX9_item_17 (by rw [hc1]; decide) (by rw [hc1]; decide) (by rw [hc1]; rfl) rfl ?_
    have h := h.1 hc1
    refine r_aload_n (pc := 48) hC 0 dX9_item_48 rfl rfl ?_
    refine r_getr (r := 18) (pc := 49) hC dX9_item_49 fl_RX9_26 lX_0 rfl ?_
    refine r_getr (r := 19) (pc := 52) hC dX9_item_52 fl_RX9_214 lX_18 rfl ?_
    refine r_iload_n (pc := 55) hC 1 dX9_item_55 rfl rfl ?_
    refine r_iald (v := ((w.1 19) (Int.toNat a1))) (pc := 56) hC dX9_item_56 lX_19 h.1.1 h.1.2 rfl ?_
    have h := h.2
    exact r_tri (pc := 57) (kd := 0) hC hQ ⟨Nat.le_of_ble_eq_true rfl, Nat.le_of_ble_eq_true rfl⟩ dX9_item_57 hr hk (by decide) (Or.inl rfl) ⟨rfl, h⟩
  have h := h.2 hc1
  by_cases hc3 : a2 = 1
  · refine r_tblIn (pc := 17) (tgt := 58) hC dX9_item_17 (by rw [hc3]; decide) (by rw [hc3]; decide) (by rw [hc3]; rfl) rfl ?_
    have h := h.1 hc3
    refine r_aload_n (pc := 58) hC 0 dX9_item_58 rfl rfl ?_
    refine r_getr (r := 18) (pc := 59) hC dX9_item_59 fl_RX9_26 lX_0 rfl ?_
    refine r_iload_n (pc := 62) hC 1 dX9_item_62 rfl rfl ?_
    refine r_callVi (pc := 63) hC [aI a1] [] dX9_item_63 ml_RX9_217 my_X2_isStrong mi_X2_isStrong lX_18 rfl rfl ⟨Nat.le_of_ble_eq_true rfl, Nat.le_of_ble_eq_true rfl⟩ ⟨Nat.le_of_ble_eq_true rfl, Nat.le_of_ble_eq_true rfl⟩ (Nat.le_of_ble_eq_true rfl) rfl (s_Query_isStrong l _ _ _ h) (fun r1 w1 hq => ?_)
    obtain ⟨e9, h⟩ := hq
    rw [e9]
    refine r_if_eq (pc := 66) (tgt := 73) hC dX9_item_66 rfl (fun hc2 => ?_) (fun hc2 => ?_)
    · have h := h.1 hc2
      refine r_iconst (pc := 73) hC dX9_item_73 (rng_lit rfl) ?_
      exact r_tri (pc := 74) (kd := 0) hC hQ ⟨Nat.le_of_ble_eq_true rfl, Nat.le_of_ble_eq_true rfl⟩ dX9_item_74 hr hk (by decide) (Or.inl rfl) ⟨rfl, h⟩
    have h := h.2 hc2
    refine r_iconst (pc := 69) hC dX9_item_69 (rng_lit rfl) ?_
    refine r_goto (tgt := 74) (pc := 70) hC dX9_item_70 rfl ?_
    exact r_tri (pc := 74) (kd := 0) hC hQ ⟨Nat.le_of_ble_eq_true rfl, Nat.le_of_ble_eq_true rfl⟩ dX9_item_74 hr hk (by decide) (Or.inl rfl) ⟨rfl, h⟩
  have h := h.2 hc3
  by_cases hc4 : a2 = 2
  · refine r_tblIn (pc := 17) (tgt := 75) hC dX9_item_17 (by rw [hc4]; decide) (by rw [hc4]; decide) (by rw [hc4]; rfl) rfl ?_
    have h := h.1 hc4
    refine r_aload_n (pc := 75) hC 0 dX9_item_75 rfl rfl ?_
    refine r_getr (r := 18) (pc := 76) hC dX9_item_76 fl_RX9_26 lX_0 rfl ?_
    refine r_getr (r := 20) (pc := 79) hC dX9_item_79 fl_RX9_221 lX_18 rfl ?_
    refine r_iload_n (pc := 82) hC 1 dX9_item_82 rfl rfl ?_
    refine r_iald (v := ((w.1 20) (Int.toNat a1))) (pc := 83) hC dX9_item_83 lX_20 h.1.1 h.1.2 rfl ?_
    have h := h.2
    exact r_tri (pc := 84) (kd := 0) hC hQ ⟨Nat.le_of_ble_eq_true rfl, Nat.le_of_ble_eq_true rfl⟩ dX9_item_84 hr hk (by decide) (Or.inl rfl) ⟨rfl, h⟩
  have h := h.2 hc4
  by_cases hc5 : a2 = 3
  · refine r_tblIn (pc := 17) (tgt := 85) hC dX9_item_17 (by rw [hc5]; decide) (by rw [hc5]; decide) (by rw [hc5]; rfl) rfl ?_
    have h := h.1 hc5
    refine r_aload_n (pc := 85) hC 0 dX9_item_85 rfl rfl ?_
    refine r_getr (r := 18) (pc := 86) hC dX9_item_86 fl_RX9_26 lX_0 rfl ?_
    refine r_aload_n (pc := 89) hC 0 dX9_item_89 rfl rfl ?_
    refine r_getr (r := 29) (pc := 90) hC dX9_item_90 fl_RX9_47 lX_0 rfl ?_
    refine r_aload_n (pc := 93) hC 0 dX9_item_93 rfl rfl ?_
    refine r_callVi (pc := 94) hC [] [aR 29, aR 18] dX9_item_94 ml_RX9_224 my_X9_allSentences mi_X9_allSentences lX_0 rfl rfl ⟨Nat.le_of_ble_eq_true rfl, Nat.le_of_ble_eq_true rfl⟩ ⟨Nat.le_of_ble_eq_true rfl, Nat.le_of_ble_eq_true rfl⟩ (Nat.le_of_ble_eq_true rfl) rfl (s_Picker_allSentences l _ _ h) (fun r2 w1 hq => ?_)
    obtain ⟨e9, h⟩ := hq
    rw [e9]
    refine r_callVl (pc := 97) hC [aI r2] [aR 18] dX9_item_97 ml_RX9_227 my_X0_tallyOf mi_X0_tallyOf lX_29 rfl rfl ⟨Nat.le_of_ble_eq_true rfl, Nat.le_of_ble_eq_true rfl⟩ ⟨Nat.le_of_ble_eq_true rfl, Nat.le_of_ble_eq_true rfl⟩ (Nat.le_of_ble_eq_true rfl) rfl (s_Matches_tallyOf l _ _ _ h) (fun r3 w1 hq => ?_)
    obtain ⟨e9, h⟩ := hq
    rw [e9]
    refine r_iload_n (pc := 100) hC 1 dX9_item_100 rfl rfl ?_
    refine r_callVi (pc := 101) hC [aL r3, aI a1] [] dX9_item_101 ml_RX9_231 my_X2_countIn mi_X2_countIn lX_18 rfl rfl ⟨Nat.le_of_ble_eq_true rfl, Nat.le_of_ble_eq_true rfl⟩ ⟨Nat.le_of_ble_eq_true rfl, Nat.le_of_ble_eq_true rfl⟩ (Nat.le_of_ble_eq_true rfl) rfl (s_Query_countIn l _ _ _ _ h) (fun r4 w1 hq => ?_)
    obtain ⟨e9, h⟩ := hq
    rw [e9]
    exact r_tri (pc := 104) (kd := 0) hC hQ ⟨Nat.le_of_ble_eq_true rfl, Nat.le_of_ble_eq_true rfl⟩ dX9_item_104 hr hk (by decide) (Or.inl rfl) ⟨rfl, h⟩
  have h := h.2 hc5
  refine r_tblOut (pc := 17) (tgt := 105) hC dX9_item_17 (tb_out_3 hc1 hc3 hc4 hc5) rfl ?_
  refine r_aload_n (pc := 105) hC 0 dX9_item_105 rfl rfl ?_
  refine r_getr (r := 29) (pc := 106) hC dX9_item_106 fl_RX9_47 lX_0 rfl ?_
  refine r_iload_n (pc := 109) hC 1 dX9_item_109 rfl rfl ?_
  refine r_callVi (pc := 110) hC [aI a1] [] dX9_item_110 ml_RX9_235 my_X0_sentencesWith mi_X0_sentencesWith lX_29 rfl rfl ⟨Nat.le_of_ble_eq_true rfl, Nat.le_of_ble_eq_true rfl⟩ ⟨Nat.le_of_ble_eq_true rfl, Nat.le_of_ble_eq_true rfl⟩ (Nat.le_of_ble_eq_true rfl) rfl (s_Matches_sentencesWith l _ _ _ h) (fun r5 w1 hq => ?_)
  obtain ⟨e9, h⟩ := hq
  rw [e9]
  exact r_tri (pc := 113) (kd := 0) hC hQ ⟨Nat.le_of_ble_eq_true rfl, Nat.le_of_ble_eq_true rfl⟩ dX9_item_113 hr hk (by decide) (Or.inl rfl) ⟨rfl, h⟩
def wp_Picker_fits (pg_bytes : (Nat → Int)) (pg_wordBegin : (Nat → Int)) (pg_wordEnd : (Nat → Int)) (qy_termCounts : (Nat → Int)) (qy_termSizes : (Nat → Int)) (qy_letters : (Nat → Int)) (pg_length : Int) (pg_words : Int) (qy_starredTerms : Int) (qy_items : Int) (a1 : Int) (a2 : Int) (a3 : Int) (Q : Int → Prop) (E : Nat → Prop) : Prop := wp_Picker_requireIndex a1 qy_items (wp_Picker_requireIndex a3 pg_words ((a2 < 0 → Q 0) ∧ (¬ a2 < 0 → (0 ≤ a1 ∧ a1 < 8) ∧ ((a2 < (qy_termCounts (Int.toNat a1)) → wp_Matches_termFits pg_bytes pg_wordBegin pg_wordEnd qy_termSizes qy_letters pg_length qy_starredTerms a1 a2 a3 (fun (r1 : Int) => (0 ≤ r1 ∧ r1 ≤ 1) ∧ (Q r1))) ∧ (¬ a2 < (qy_termCounts (Int.toNat a1)) → Q 0)))) (fun (x9 : Nat) => E x9)) (fun (x9 : Nat) => E x9)
set_option maxHeartbeats 4000000 in
set_option maxRecDepth 20000 in
theorem s_Picker_fits (l : Launch) (hl : l.stackTraces = false) (w : St) (a1 : Int) (a2 : Int) (a3 : Int) (P : Int → Prop) (E : Nat → Prop) (h : wp_Picker_fits (w.1 4) (w.1 7) (w.1 8) (w.1 20) (w.1 21) (w.1 22) (w.1 3 14) (w.1 3 16) (w.1 18 4) (w.1 18 6) a1 a2 a3 P E) : Ct l yX9_fits cX9_fits 4 (some .boolean) 7 2 LX w [aR 0, aI a1, aI a2, aI a3] (okI (fun r w1 => w1 = w ∧ P r)) (fun x w1 => pj w1 0 LX = pj w 0 LX ∧ E x) := by
  unfold wp_Picker_fits at h
  refine Ct.of [some (aR 0), some (aI a1), some (aI a2), some (aI a3)] (by decide) (Nat.le_of_ble_eq_true rfl) rfl (fun p e s m args below meth c D cA ad A Q hQ hC hr hk hnt => ?_)
  refine r_iload_n (pc := 0) hC 1 dX9_fits_0 rfl rfl ?_
  refine r_aload_n (pc := 1) hC 0 dX9_fits_1 rfl rfl ?_
  refine r_getr (r := 18) (pc := 2) hC dX9_fits_2 fl_RX9_26 lX_0 rfl ?_
  refine r_get (kd := 0) (v := (w.1 18 6)) (pc := 5) hC dX9_fits_5 fl_RX9_115 lX_18 rfl rfl ?_
  refine r_callTSv (pc := 8) hC [aI a1, aI (w.1 18 6)] [] hQ hk hnt ⟨Nat.le_of_ble_eq_true rfl, Nat.le_of_ble_eq_true rfl⟩ dX9_fits_8 ml_RX9_150 my_X9_requireIndex ms_X9_requireIndex rfl ⟨Nat.le_of_ble_eq_true rfl, Nat.le_of_ble_eq_true rfl⟩ ⟨Nat.le_of_ble_eq_true rfl, Nat.le_of_ble_eq_true rfl⟩ (Nat.le_of_ble_eq_true rfl) rfl (s_Picker_requireIndex l hl _ _ _ _ _ h) (fun x9 w9 hx => ?_) (fun w1 hq => ?_)
  · obtain ⟨e9, h9⟩ := hx
    exact ⟨e9.trans rfl, h9⟩
  obtain ⟨e9, h⟩ := hq
  rw [e9]
  refine r_iload_n (pc := 11) hC 3 dX9_fits_11 rfl rfl ?_
  refine r_aload_n (pc := 12) hC 0 dX9_fits_12 rfl rfl ?_
  refine r_getr (r := 3) (pc := 13) hC dX9_fits_13 fl_RX9_19 lX_0 rfl ?_
  refine r_get (kd := 0) (v := (w.1 3 16)) (pc := 16) hC dX9_fits_16 fl_RX9_147 lX_3 rfl rfl ?_
  refine r_callTSv (pc := 19) hC [aI a3, aI (w.1 3 16)] [] hQ hk hnt ⟨Nat.le_of_ble_eq_true rfl, Nat.le_of_ble_eq_true rfl⟩ dX9_fits_19 ml_RX9_150 my_X9_requireIndex ms_X9_requireIndex rfl ⟨Nat.le_of_ble_eq_true rfl, Nat.le_of_ble_eq_true rfl⟩ ⟨Nat.le_of_ble_eq_true rfl, Nat.le_of_ble_eq_true rfl⟩ (Nat.le_of_ble_eq_true rfl) rfl (s_Picker_requireIndex l hl _ _ _ _ _ h) (fun x9 w9 hx => ?_) (fun w1 hq => ?_)
  · obtain ⟨e9, h9⟩ := hx
    exact ⟨e9.trans rfl, h9⟩
  obtain ⟨e9, h⟩ := hq
  rw [e9]
  refine r_iload_n (pc := 22) hC 2 dX9_fits_22 rfl rfl ?_
  refine r_if_lt (pc := 23) (tgt := 39) hC dX9_fits_23 rfl (fun hc2 => ?_) (fun hc2 => ?_)
  · have h := h.1 hc2
    refine r_iconst (pc := 39) hC dX9_fits_39 (rng_lit rfl) ?_
    exact r_tri (pc := 40) (kd := 1) hC hQ ⟨Nat.le_of_ble_eq_true rfl, Nat.le_of_ble_eq_true rfl⟩ dX9_fits_40 hr hk (by decide) (Or.inr okK1_0) ⟨rfl, h⟩
  have h := h.2 hc2
  refine r_iload_n (pc := 26) hC 2 dX9_fits_26 rfl rfl ?_
  refine r_aload_n (pc := 27) hC 0 dX9_fits_27 rfl rfl ?_
  refine r_getr (r := 18) (pc := 28) hC dX9_fits_28 fl_RX9_26 lX_0 rfl ?_
  refine r_getr (r := 20) (pc := 31) hC dX9_fits_31 fl_RX9_221 lX_18 rfl ?_
  refine r_iload_n (pc := 34) hC 1 dX9_fits_34 rfl rfl ?_
  refine r_iald (v := ((w.1 20) (Int.toNat a1))) (pc := 35) hC dX9_fits_35 lX_20 h.1.1 h.1.2 rfl ?_
  have h := h.2
  refine r_ic_lt (pc := 36) (tgt := 41) hC dX9_fits_36 rfl (fun hc1 => ?_) (fun hc1 => ?_)
  · have h := h.1 hc1
    refine r_aload_n (pc := 41) hC 0 dX9_fits_41 rfl rfl ?_
    refine r_getr (r := 29) (pc := 42) hC dX9_fits_42 fl_RX9_47 lX_0 rfl ?_
    refine r_iload_n (pc := 45) hC 1 dX9_fits_45 rfl rfl ?_
    refine r_iload_n (pc := 46) hC 2 dX9_fits_46 rfl rfl ?_
    refine r_iload_n (pc := 47) hC 3 dX9_fits_47 rfl rfl ?_
    refine r_callVi (pc := 48) hC [aI a1, aI a2, aI a3] [] dX9_fits_48 ml_RX9_238 my_X0_termFits mi_X0_termFits lX_29 rfl rfl ⟨Nat.le_of_ble_eq_true rfl, Nat.le_of_ble_eq_true rfl⟩ ⟨Nat.le_of_ble_eq_true rfl, Nat.le_of_ble_eq_true rfl⟩ (Nat.le_of_ble_eq_true rfl) rfl (s_Matches_termFits l _ _ _ _ _ h) (fun r1 w1 hq => ?_)
    obtain ⟨e9, h⟩ := hq
    rw [e9]
    exact r_tri (pc := 51) (kd := 1) hC hQ ⟨Nat.le_of_ble_eq_true rfl, Nat.le_of_ble_eq_true rfl⟩ dX9_fits_51 hr hk (by decide) (Or.inr h.1) ⟨rfl, h.2⟩
  have h := h.2 hc1
  refine r_iconst (pc := 39) hC dX9_fits_39 (rng_lit rfl) ?_
  exact r_tri (pc := 40) (kd := 1) hC hQ ⟨Nat.le_of_ble_eq_true rfl, Nat.le_of_ble_eq_true rfl⟩ dX9_fits_40 hr hk (by decide) (Or.inr okK1_0) ⟨rfl, h⟩
def wp_Picker_match (qy_termCounts : (Nat → Int)) (mt_beginning : (Nat → Int)) (pg_words : Int) (qy_items : Int) (mt_total : Int) (a1 : Int) (a2 : Int) (Q : Int → Prop) (E : Nat → Prop) : Prop := wp_Picker_requireIndex a1 mt_total (wp_Picker_requireWhat a2 2 (wp_Matches_firstWordOf mt_beginning pg_words a1 (fun (r1 : Int) => wp_Matches_itemOf mt_beginning pg_words qy_items a1 (fun (r2 : Int) => (a2 = 0 → Q r2) ∧ (¬ a2 = 0 → (a2 = 1 → Q r1) ∧ (¬ a2 = 1 → (0 ≤ r2 ∧ r2 < 8) ∧ ((rng (r1 + (qy_termCounts (Int.toNat r2)))) ∧ ((rng ((r1 + (qy_termCounts (Int.toNat r2))) - 1)) ∧ (Q ((r1 + (qy_termCounts (Int.toNat r2))) - 1))))))))) (fun (x9 : Nat) => E x9)) (fun (x9 : Nat) => E x9)
set_option maxHeartbeats 4000000 in
set_option maxRecDepth 20000 in
theorem s_Picker_match (l : Launch) (hl : l.stackTraces = false) (w : St) (a1 : Int) (a2 : Int) (P : Int → Prop) (E : Nat → Prop) (h : wp_Picker_match (w.1 20) (w.1 30) (w.1 3 16) (w.1 18 6) (w.1 29 6) a1 a2 P E) : Ct l yX9_match cX9_match 5 (some .int) 7 2 LX w [aR 0, aI a1, aI a2] (okI (fun r w1 => w1 = w ∧ P r)) (fun x w1 => pj w1 0 LX = pj w 0 LX ∧ E x) := by
  unfold wp_Picker_match at h
  refine Ct.of [some (aR 0), some (aI a1), some (aI a2), none, none] (by decide) (Nat.le_of_ble_eq_true rfl) rfl (fun p e s m args below meth c D cA ad A Q hQ hC hr hk hnt => ?_)
  refine r_iload_n (pc := 0) hC 1 dX9_match_0 rfl rfl ?_
  refine r_aload_n (pc := 1) hC 0 dX9_match_1 rfl rfl ?_
  refine r_getr (r := 29) (pc := 2) hC dX9_match_2 fl_RX9_47 lX_0 rfl ?_
  refine r_get (kd := 0) (v := (w.1 29 6)) (pc := 5) hC dX9_match_5 fl_RX9_242 lX_29 rfl rfl ?_
  refine r_callTSv (pc := 8) hC [aI a1, aI (w.1 29 6)] [] hQ hk hnt ⟨Nat.le_of_ble_eq_true rfl, Nat.le_of_ble_eq_true rfl⟩ dX9_match_8 ml_RX9_150 my_X9_requireIndex ms_X9_requireIndex rfl ⟨Nat.le_of_ble_eq_true rfl, Nat.le_of_ble_eq_true rfl⟩ ⟨Nat.le_of_ble_eq_true rfl, Nat.le_of_ble_eq_true rfl⟩ (Nat.le_of_ble_eq_true rfl) rfl (s_Picker_requireIndex l hl _ _ _ _ _ h) (fun x9 w9 hx => ?_) (fun w1 hq => ?_)
  · obtain ⟨e9, h9⟩ := hx
    exact ⟨e9.trans rfl, h9⟩
  obtain ⟨e9, h⟩ := hq
  rw [e9]
  refine r_iload_n (pc := 11) hC 2 dX9_match_11 rfl rfl ?_
  refine r_iconst (pc := 12) hC dX9_match_12 (rng_lit rfl) ?_
  refine r_callTSv (pc := 13) hC [aI a2, aI 2] [] hQ hk hnt ⟨Nat.le_of_ble_eq_true rfl, Nat.le_of_ble_eq_true rfl⟩ dX9_match_13 ml_RX9_118 my_X9_requireWhat ms_X9_requireWhat rfl ⟨Nat.le_of_ble_eq_true rfl, Nat.le_of_ble_eq_true rfl⟩ ⟨Nat.le_of_ble_eq_true rfl, Nat.le_of_ble_eq_true rfl⟩ (Nat.le_of_ble_eq_true rfl) rfl (s_Picker_requireWhat l hl _ _ _ _ _ h) (fun x9 w9 hx => ?_) (fun w1 hq => ?_)
  · obtain ⟨e9, h9⟩ := hx
    exact ⟨e9.trans rfl, h9⟩
  obtain ⟨e9, h⟩ := hq
  rw [e9]
  refine r_aload_n (pc := 16) hC 0 dX9_match_16 rfl rfl ?_
  refine r_getr (r := 29) (pc := 17) hC dX9_match_17 fl_RX9_47 lX_0 rfl ?_
  refine r_iload_n (pc := 20) hC 1 dX9_match_20 rfl rfl ?_
  refine r_callVi (pc := 21) hC [aI a1] [] dX9_match_21 ml_RX9_245 my_X0_firstWordOf mi_X0_firstWordOf lX_29 rfl rfl ⟨Nat.le_of_ble_eq_true rfl, Nat.le_of_ble_eq_true rfl⟩ ⟨Nat.le_of_ble_eq_true rfl, Nat.le_of_ble_eq_true rfl⟩ (Nat.le_of_ble_eq_true rfl) rfl (s_Matches_firstWordOf l _ _ _ h) (fun r1 w1 hq => ?_)
  obtain ⟨e9, h⟩ := hq
  rw [e9]
  refine r_istore_n (ls2 := [some (aR 0), some (aI a1), some (aI a2), some (aI r1), none]) (pc := 24) hC 3 dX9_match_24 rfl (by decide) rfl rfl ?_
  refine r_aload_n (pc := 25) hC 0 dX9_match_25 rfl rfl ?_
  refine r_getr (r := 29) (pc := 26) hC dX9_match_26 fl_RX9_47 lX_0 rfl ?_
  refine r_iload_n (pc := 29) hC 1 dX9_match_29 rfl rfl ?_
  refine r_callVi (pc := 30) hC [aI a1] [] dX9_match_30 ml_RX9_248 my_X0_itemOf mi_X0_itemOf lX_29 rfl rfl ⟨Nat.le_of_ble_eq_true rfl, Nat.le_of_ble_eq_true rfl⟩ ⟨Nat.le_of_ble_eq_true rfl, Nat.le_of_ble_eq_true rfl⟩ (Nat.le_of_ble_eq_true rfl) rfl (s_Matches_itemOf l _ _ _ h) (fun r2 w1 hq => ?_)
  obtain ⟨e9, h⟩ := hq
  rw [e9]
  refine r_istore (ls2 := [some (aR 0), some (aI a1), some (aI a2), some (aI r1), some (aI r2)]) (pc := 33) hC dX9_match_33 (by decide) rfl rfl ?_
  refine r_iload_n (pc := 35) hC 2 dX9_match_35 rfl rfl ?_
  by_cases hc1 : a2 = 0
  · refine r_lkp (pc := 36) (tgt := 64) hC dX9_match_36 (by decide) (by rw [hc1]; try rfl) rfl ?_
    have h := h.1 hc1
    refine r_iload (pc := 64) hC dX9_match_64 rfl ?_
    exact r_tri (pc := 66) (kd := 0) hC hQ ⟨Nat.le_of_ble_eq_true rfl, Nat.le_of_ble_eq_true rfl⟩ dX9_match_66 hr hk (by decide) (Or.inl rfl) ⟨rfl, h⟩
  have h := h.2 hc1
  by_cases hc2 : a2 = 1
  · refine r_lkp (pc := 36) (tgt := 67) hC dX9_match_36 (by decide) (by rw [hc2]; try rfl) rfl ?_
    have h := h.1 hc2
    refine r_iload_n (pc := 67) hC 3 dX9_match_67 rfl rfl ?_
    exact r_tri (pc := 68) (kd := 0) hC hQ ⟨Nat.le_of_ble_eq_true rfl, Nat.le_of_ble_eq_true rfl⟩ dX9_match_68 hr hk (by decide) (Or.inl rfl) ⟨rfl, h⟩
  have h := h.2 hc2
  refine r_lkp (pc := 36) (tgt := 69) hC dX9_match_36 (by decide) (by simp only [Array.toList]; rw [Op.lookupswitch.offset_cons, if_neg (fun q9 => hc1 q9.symm), Op.lookupswitch.offset_cons, if_neg (fun q9 => hc2 q9.symm)]; try rfl) rfl ?_
  refine r_iload_n (pc := 69) hC 3 dX9_match_69 rfl rfl ?_
  refine r_aload_n (pc := 70) hC 0 dX9_match_70 rfl rfl ?_
  refine r_getr (r := 18) (pc := 71) hC dX9_match_71 fl_RX9_26 lX_0 rfl ?_
  refine r_getr (r := 20) (pc := 74) hC dX9_match_74 fl_RX9_221 lX_18 rfl ?_
  refine r_iload (pc := 77) hC dX9_match_77 rfl ?_
  refine r_iald (v := ((w.1 20) (Int.toNat r2))) (pc := 79) hC dX9_match_79 lX_20 h.1.1 h.1.2 rfl ?_
  have h := h.2
  refine r_iadd (pc := 80) hC dX9_match_80 h.1 ?_
  have h := h.2
  refine r_iconst (pc := 81) hC dX9_match_81 (rng_lit rfl) ?_
  refine r_isub (pc := 82) hC dX9_match_82 h.1 ?_
  have h := h.2
  exact r_tri (pc := 83) (kd := 0) hC hQ ⟨Nat.le_of_ble_eq_true rfl, Nat.le_of_ble_eq_true rfl⟩ dX9_match_83 hr hk (by decide) (Or.inl rfl) ⟨rfl, h⟩
def wp_Picker_requireItems (qy_items : Int) (a1 : Int) (Q : Prop) (E : Nat → Prop) : Prop := jn0 (fun (J1 : Prop) => (a1 = 0 → J1) ∧ (¬ a1 = 0 → ((iUshr a1 qy_items) = 0 → Q) ∧ (¬ (iUshr a1 qy_items) = 0 → J1))) (E 3)
set_option maxHeartbeats 4000000 in
set_option maxRecDepth 20000 in
theorem s_Picker_requireItems (l : Launch) (hl : l.stackTraces = false) (w : St) (a1 : Int) (P : Prop) (E : Nat → Prop) (h : wp_Picker_requireItems (w.1 18 6) a1 P E) : Ct l yX9_requireItems cX9_requireItems 2 none 6 1 LX w [aR 0, aI a1] (okV (fun w1 => w1 = w ∧ P)) (fun x w1 => pj w1 0 LX = pj w 0 LX ∧ E x) := by
  unfold wp_Picker_requireItems at h
  refine Ct.of [some (aR 0), some (aI a1)] (by decide) (Nat.le_of_ble_eq_true rfl) rfl (fun p e s m args below meth c D cA ad A Q hQ hC hr hk hnt => ?_)
  refine r_iload_n (pc := 0) hC 1 dX9_requireItems_0 rfl rfl ?_
  obtain ⟨J1, hJ1, h⟩ := h
  have S1 : J1 → Wd p l e (rmT 6 1) s m args below meth c Q 0 0 2 D cA ad A LX w 16 [none, none] [] := by
    intro hj
    have h := hJ1 hj
    exact r_thrW (j := 6) 3 ["java/lang/RuntimeException", "java/lang/Exception"] hC hl hQ hk hnt tw_RX9_104_108 rfl ⟨rfl, rfl⟩ dX9_requireItems_16 dX9_requireItems_19 dX9_requireItems_20 dX9_requireItems_23 dX9_requireItems_26 ⟨Nat.le_of_ble_eq_true rfl, Nat.le_of_ble_eq_true rfl⟩ ⟨Nat.le_of_ble_eq_true rfl, Nat.le_of_ble_eq_true rfl⟩ ⟨Nat.le_of_ble_eq_true rfl, Nat.le_of_ble_eq_true rfl⟩ ⟨rfl, h⟩
  refine r_if_eq (pc := 1) (tgt := 16) hC dX9_requireItems_1 rfl (fun hc2 => ?_) (fun hc2 => ?_)
  · have h := h.1 hc2
    exact r_to [false, false] rfl rfl (S1 h)
  have h := h.2 hc2
  refine r_iload_n (pc := 4) hC 1 dX9_requireItems_4 rfl rfl ?_
  refine r_aload_n (pc := 5) hC 0 dX9_requireItems_5 rfl rfl ?_
  refine r_getr (r := 18) (pc := 6) hC dX9_requireItems_6 fl_RX9_26 lX_0 rfl ?_
  refine r_get (kd := 0) (v := (w.1 18 6)) (pc := 9) hC dX9_requireItems_9 fl_RX9_115 lX_18 rfl rfl ?_
  refine r_iushr (pc := 12) hC dX9_requireItems_12 ?_
  refine r_if_eq (pc := 13) (tgt := 27) hC dX9_requireItems_13 rfl (fun hc1 => ?_) (fun hc1 => ?_)
  · have h := h.1 hc1
    exact r_trv (pc := 27) hC hQ ⟨Nat.le_of_ble_eq_true rfl, Nat.le_of_ble_eq_true rfl⟩ dX9_requireItems_27 hr hk ⟨rfl, h⟩
  have h := h.2 hc1
  exact r_to [false, false] rfl rfl (S1 h)
def wp_Picker_window (pg_signAt : (Nat → Int)) (pg_wordBegin : (Nat → Int)) (pg_wordEnd : (Nat → Int)) (qy_termCounts : (Nat → Int)) (mt_beginning : (Nat → Int)) (wi_nextEnds : (Nat → Int)) (wi_reach : (Nat → Int)) (pg_words : Int) (qy_items : Int) (wi_first : Int) (wi_last : Int) (wi_worth : Int) (wi_whole : Int) (a1 : Int) (a2 : Int) (a3 : Int) (Q : Int → (Nat → Int) → (Nat → Int) → Int → Int → Int → Int → Prop) (E : Nat → (Nat → Int) → (Nat → Int) → Int → Int → Int → Int → Prop) : Prop := wp_Picker_requireWhat a3 2 (wp_Picker_requireItems qy_items a1 ((¬ a2 = (-1) → wp_Windows_seekMinimal qy_termCounts mt_beginning wi_nextEnds wi_reach pg_words qy_items wi_first wi_last wi_worth wi_whole a1 a2 (fun (wi_nextEnds_1 : (Nat → Int)) (wi_reach_2 : (Nat → Int)) (wi_first_3 : Int) (wi_last_4 : Int) (wi_worth_5 : Int) (wi_whole_6 : Int) => wp_Windows_found pg_signAt pg_wordBegin pg_wordEnd wi_first_3 wi_last_4 a3 (fun (r7 : Int) => Q r7 wi_nextEnds_1 wi_reach_2 wi_first_3 wi_last_4 wi_worth_5 wi_whole_6))) ∧ (a2 = (-1) → wp_Windows_countMinimal qy_termCounts mt_beginning wi_nextEnds wi_reach pg_words qy_items a1 (fun (r8 : Int) (wi_nextEnds_9 : (Nat → Int)) (wi_reach_10 : (Nat → Int)) => Q r8 wi_nextEnds_9 wi_reach_10 wi_first wi_last wi_worth wi_whole))) (fun (x9 : Nat) => E x9 wi_nextEnds wi_reach wi_first wi_last wi_worth wi_whole)) (fun (x9 : Nat) => E x9 wi_nextEnds wi_reach wi_first wi_last wi_worth wi_whole)
set_option maxHeartbeats 4000000 in
set_option maxRecDepth 20000 in
theorem s_Picker_window (l : Launch) (hl : l.stackTraces = false) (w : St) (a1 : Int) (a2 : Int) (a3 : Int) (P : Int → (Nat → Int) → (Nat → Int) → Int → Int → Int → Int → Prop) (E : Nat → (Nat → Int) → (Nat → Int) → Int → Int → Int → Int → Prop) (h : wp_Picker_window (w.1 6) (w.1 7) (w.1 8) (w.1 20) (w.1 30) (w.1 35) (w.1 36) (w.1 3 16) (w.1 18 6) (w.1 34 5) (w.1 34 6) (w.1 34 7) (w.1 34 8) a1 a2 a3 P E) : Ct l yX9_window cX9_window 4 (some .int) 7 2 LX w [aR 0, aI a1, aI a2, aI a3] (okI (fun r w1 => ∃ (o0 : (Nat → Int)) (o1 : (Nat → Int)) (o2 : Int) (o3 : Int) (o4 : Int) (o5 : Int), w1 = (wI (wI (wI (wI (wA (wA w 35 o0) 36 o1) 34 5 o2) 34 6 o3) 34 7 o4) 34 8 o5) ∧ P r o0 o1 o2 o3 o4 o5)) (fun x w1 => ∃ (o0 : (Nat → Int)) (o1 : (Nat → Int)) (o2 : Int) (o3 : Int) (o4 : Int) (o5 : Int), pj w1 0 LX = pj (wI (wI (wI (wI (wA (wA w 35 o0) 36 o1) 34 5 o2) 34 6 o3) 34 7 o4) 34 8 o5) 0 LX ∧ E x o0 o1 o2 o3 o4 o5) := by
  unfold wp_Picker_window at h
  refine Ct.of [some (aR 0), some (aI a1), some (aI a2), some (aI a3)] (by decide) (Nat.le_of_ble_eq_true rfl) rfl (fun p e s m args below meth c D cA ad A Q hQ hC hr hk hnt => ?_)
  refine r_iload_n (pc := 0) hC 3 dX9_window_0 rfl rfl ?_
  refine r_iconst (pc := 1) hC dX9_window_1 (rng_lit rfl) ?_
  refine r_callTSv (pc := 2) hC [aI a3, aI 2] [] hQ hk hnt ⟨Nat.le_of_ble_eq_true rfl, Nat.le_of_ble_eq_true rfl⟩ dX9_window_2 ml_RX9_118 my_X9_requireWhat ms_X9_requireWhat rfl ⟨Nat.le_of_ble_eq_true rfl, Nat.le_of_ble_eq_true rfl⟩ ⟨Nat.le_of_ble_eq_true rfl, Nat.le_of_ble_eq_true rfl⟩ (Nat.le_of_ble_eq_true rfl) rfl (s_Picker_requireWhat l hl _ _ _ _ _ h) (fun x9 w9 hx => ?_) (fun w1 hq => ?_)
  · obtain ⟨e9, h9⟩ := hx
    exact ⟨(w.1 35), (w.1 36), (w.1 34 5), (w.1 34 6), (w.1 34 7), (w.1 34 8), e9.trans rfl, h9⟩
  obtain ⟨e9, h⟩ := hq
  rw [e9]
  refine r_aload_n (pc := 5) hC 0 dX9_window_5 rfl rfl ?_
  refine r_iload_n (pc := 6) hC 1 dX9_window_6 rfl rfl ?_
  refine r_callTVv (pc := 7) hC [aI a1] [] hQ hk hnt ⟨Nat.le_of_ble_eq_true rfl, Nat.le_of_ble_eq_true rfl⟩ dX9_window_7 ml_RX9_251 my_X9_requireItems mi_X9_requireItems lX_0 rfl rfl ⟨Nat.le_of_ble_eq_true rfl, Nat.le_of_ble_eq_true rfl⟩ ⟨Nat.le_of_ble_eq_true rfl, Nat.le_of_ble_eq_true rfl⟩ (Nat.le_of_ble_eq_true rfl) rfl (s_Picker_requireItems l hl _ _ _ _ h) (fun x9 w9 hx => ?_) (fun w1 hq => ?_)
  · obtain ⟨e9, h9⟩ := hx
    exact ⟨(w.1 35), (w.1 36), (w.1 34 5), (w.1 34 6), (w.1 34 7), (w.1 34 8), e9.trans rfl, h9⟩
  obtain ⟨e9, h⟩ := hq
  rw [e9]
  refine r_iload_n (pc := 10) hC 2 dX9_window_10 rfl rfl ?_
  refine r_iconst (pc := 11) hC dX9_window_11 (rng_lit rfl) ?_
  refine r_ic_ne (pc := 12) (tgt := 24) hC dX9_window_12 rfl (fun hc1 => ?_) (fun hc1 => ?_)
  · have h := h.1 hc1
    refine r_aload_n (pc := 24) hC 0 dX9_window_24 rfl rfl ?_
    refine r_getr (r := 34) (pc := 25) hC dX9_window_25 fl_RX9_56 lX_0 rfl ?_
    refine r_iload_n (pc := 28) hC 1 dX9_window_28 rfl rfl ?_
    refine r_iload_n (pc := 29) hC 2 dX9_window_29 rfl rfl ?_
    refine r_callVv (pc := 30) hC [aI a1, aI a2] [] dX9_window_30 ml_RX9_257 my_X7_seekMinimal mi_X7_seekMinimal lX_34 rfl rfl ⟨Nat.le_of_ble_eq_true rfl, Nat.le_of_ble_eq_true rfl⟩ ⟨Nat.le_of_ble_eq_true rfl, Nat.le_of_ble_eq_true rfl⟩ (Nat.le_of_ble_eq_true rfl) rfl (s_Windows_seekMinimal l _ _ _ _ h) (fun w1 hq => ?_)
    obtain ⟨wi_nextEnds_1, wi_reach_2, wi_first_3, wi_last_4, wi_worth_5, wi_whole_6, e9, h⟩ := hq
    rw [e9]
    refine r_aload_n (pc := 33) hC 0 dX9_window_33 rfl rfl ?_
    refine r_getr (r := 34) (pc := 34) hC dX9_window_34 fl_RX9_56 lX_0 rfl ?_
    refine r_iload_n (pc := 37) hC 3 dX9_window_37 rfl rfl ?_
    refine r_callVi (pc := 38) hC [aI a3] [] dX9_window_38 ml_RX9_260 my_X7_found mi_X7_found lX_34 rfl rfl ⟨Nat.le_of_ble_eq_true rfl, Nat.le_of_ble_eq_true rfl⟩ ⟨Nat.le_of_ble_eq_true rfl, Nat.le_of_ble_eq_true rfl⟩ (Nat.le_of_ble_eq_true rfl) rfl (s_Windows_found l _ _ _ h) (fun r7 w1 hq => ?_)
    obtain ⟨e9, h⟩ := hq
    rw [e9]
    refine r_conv (w2 := (wI (wI (wI (wI (wA (wA w 35 wi_nextEnds_1) 36 wi_reach_2) 34 5 wi_first_3) 34 6 wi_last_4) 34 7 wi_worth_5) 34 8 wi_whole_6)) rfl ?_
    exact r_tri (pc := 41) (kd := 0) hC hQ ⟨Nat.le_of_ble_eq_true rfl, Nat.le_of_ble_eq_true rfl⟩ dX9_window_41 hr hk (by decide) (Or.inl rfl) ⟨wi_nextEnds_1, wi_reach_2, wi_first_3, wi_last_4, wi_worth_5, wi_whole_6, rfl, h⟩
  have h := h.2 hc1
  refine r_aload_n (pc := 15) hC 0 dX9_window_15 rfl rfl ?_
  refine r_getr (r := 34) (pc := 16) hC dX9_window_16 fl_RX9_56 lX_0 rfl ?_
  refine r_iload_n (pc := 19) hC 1 dX9_window_19 rfl rfl ?_
  refine r_callVi (pc := 20) hC [aI a1] [] dX9_window_20 ml_RX9_254 my_X7_countMinimal mi_X7_countMinimal lX_34 rfl rfl ⟨Nat.le_of_ble_eq_true rfl, Nat.le_of_ble_eq_true rfl⟩ ⟨Nat.le_of_ble_eq_true rfl, Nat.le_of_ble_eq_true rfl⟩ (Nat.le_of_ble_eq_true rfl) rfl (s_Windows_countMinimal l _ _ _ h) (fun r8 w1 hq => ?_)
  obtain ⟨wi_nextEnds_9, wi_reach_10, e9, h⟩ := hq
  rw [e9]
  refine r_conv (w2 := (wI (wI (wI (wI (wA (wA w 35 wi_nextEnds_9) 36 wi_reach_10) 34 5 (w.1 34 5)) 34 6 (w.1 34 6)) 34 7 (w.1 34 7)) 34 8 (w.1 34 8))) rfl ?_
  exact r_tri (pc := 23) (kd := 0) hC hQ ⟨Nat.le_of_ble_eq_true rfl, Nat.le_of_ble_eq_true rfl⟩ dX9_window_23 hr hk (by decide) (Or.inl rfl) ⟨wi_nextEnds_9, wi_reach_10, (w.1 34 5), (w.1 34 6), (w.1 34 7), (w.1 34 8), rfl, h⟩
def wp_Picker_least (pg_signAt : (Nat → Int)) (pg_wordBegin : (Nat → Int)) (pg_wordEnd : (Nat → Int)) (qy_termCounts : (Nat → Int)) (mt_beginning : (Nat → Int)) (wi_nextEnds : (Nat → Int)) (wi_reach : (Nat → Int)) (pg_words : Int) (qy_items : Int) (wi_first : Int) (wi_last : Int) (wi_worth : Int) (wi_whole : Int) (a1 : Int) (a2 : Int) (Q : Int → (Nat → Int) → (Nat → Int) → Int → Int → Int → Int → Prop) (E : Nat → (Nat → Int) → (Nat → Int) → Int → Int → Int → Int → Prop) : Prop := wp_Picker_requireWhat a2 2 (wp_Picker_requireItems qy_items a1 (wp_Windows_seekLeast pg_signAt pg_wordBegin pg_wordEnd qy_termCounts mt_beginning wi_nextEnds wi_reach pg_words qy_items wi_first wi_last wi_worth wi_whole a1 (fun (wi_nextEnds_1 : (Nat → Int)) (wi_reach_2 : (Nat → Int)) (wi_first_3 : Int) (wi_last_4 : Int) (wi_worth_5 : Int) (wi_whole_6 : Int) => wp_Windows_found pg_signAt pg_wordBegin pg_wordEnd wi_first_3 wi_last_4 a2 (fun (r7 : Int) => Q r7 wi_nextEnds_1 wi_reach_2 wi_first_3 wi_last_4 wi_worth_5 wi_whole_6))) (fun (x9 : Nat) => E x9 wi_nextEnds wi_reach wi_first wi_last wi_worth wi_whole)) (fun (x9 : Nat) => E x9 wi_nextEnds wi_reach wi_first wi_last wi_worth wi_whole)
set_option maxHeartbeats 4000000 in
set_option maxRecDepth 20000 in
theorem s_Picker_least (l : Launch) (hl : l.stackTraces = false) (w : St) (a1 : Int) (a2 : Int) (P : Int → (Nat → Int) → (Nat → Int) → Int → Int → Int → Int → Prop) (E : Nat → (Nat → Int) → (Nat → Int) → Int → Int → Int → Int → Prop) (h : wp_Picker_least (w.1 6) (w.1 7) (w.1 8) (w.1 20) (w.1 30) (w.1 35) (w.1 36) (w.1 3 16) (w.1 18 6) (w.1 34 5) (w.1 34 6) (w.1 34 7) (w.1 34 8) a1 a2 P E) : Ct l yX9_least cX9_least 3 (some .int) 7 2 LX w [aR 0, aI a1, aI a2] (okI (fun r w1 => ∃ (o0 : (Nat → Int)) (o1 : (Nat → Int)) (o2 : Int) (o3 : Int) (o4 : Int) (o5 : Int), w1 = (wI (wI (wI (wI (wA (wA w 35 o0) 36 o1) 34 5 o2) 34 6 o3) 34 7 o4) 34 8 o5) ∧ P r o0 o1 o2 o3 o4 o5)) (fun x w1 => ∃ (o0 : (Nat → Int)) (o1 : (Nat → Int)) (o2 : Int) (o3 : Int) (o4 : Int) (o5 : Int), pj w1 0 LX = pj (wI (wI (wI (wI (wA (wA w 35 o0) 36 o1) 34 5 o2) 34 6 o3) 34 7 o4) 34 8 o5) 0 LX ∧ E x o0 o1 o2 o3 o4 o5) := by
  unfold wp_Picker_least at h
  refine Ct.of [some (aR 0), some (aI a1), some (aI a2)] (by decide) (Nat.le_of_ble_eq_true rfl) rfl (fun p e s m args below meth c D cA ad A Q hQ hC hr hk hnt => ?_)
  refine r_iload_n (pc := 0) hC 2 dX9_least_0 rfl rfl ?_
  refine r_iconst (pc := 1) hC dX9_least_1 (rng_lit rfl) ?_
  refine r_callTSv (pc := 2) hC [aI a2, aI 2] [] hQ hk hnt ⟨Nat.le_of_ble_eq_true rfl, Nat.le_of_ble_eq_true rfl⟩ dX9_least_2 ml_RX9_118 my_X9_requireWhat ms_X9_requireWhat rfl ⟨Nat.le_of_ble_eq_true rfl, Nat.le_of_ble_eq_true rfl⟩ ⟨Nat.le_of_ble_eq_true rfl, Nat.le_of_ble_eq_true rfl⟩ (Nat.le_of_ble_eq_true rfl) rfl (s_Picker_requireWhat l hl _ _ _ _ _ h) (fun x9 w9 hx => ?_) (fun w1 hq => ?_)
  · obtain ⟨e9, h9⟩ := hx
    exact ⟨(w.1 35), (w.1 36), (w.1 34 5), (w.1 34 6), (w.1 34 7), (w.1 34 8), e9.trans rfl, h9⟩
  obtain ⟨e9, h⟩ := hq
  rw [e9]
  refine r_aload_n (pc := 5) hC 0 dX9_least_5 rfl rfl ?_
  refine r_iload_n (pc := 6) hC 1 dX9_least_6 rfl rfl ?_
  refine r_callTVv (pc := 7) hC [aI a1] [] hQ hk hnt ⟨Nat.le_of_ble_eq_true rfl, Nat.le_of_ble_eq_true rfl⟩ dX9_least_7 ml_RX9_251 my_X9_requireItems mi_X9_requireItems lX_0 rfl rfl ⟨Nat.le_of_ble_eq_true rfl, Nat.le_of_ble_eq_true rfl⟩ ⟨Nat.le_of_ble_eq_true rfl, Nat.le_of_ble_eq_true rfl⟩ (Nat.le_of_ble_eq_true rfl) rfl (s_Picker_requireItems l hl _ _ _ _ h) (fun x9 w9 hx => ?_) (fun w1 hq => ?_)
  · obtain ⟨e9, h9⟩ := hx
    exact ⟨(w.1 35), (w.1 36), (w.1 34 5), (w.1 34 6), (w.1 34 7), (w.1 34 8), e9.trans rfl, h9⟩
  obtain ⟨e9, h⟩ := hq
  rw [e9]
  refine r_aload_n (pc := 10) hC 0 dX9_least_10 rfl rfl ?_
  refine r_getr (r := 34) (pc := 11) hC dX9_least_11 fl_RX9_56 lX_0 rfl ?_
  refine r_iload_n (pc := 14) hC 1 dX9_least_14 rfl rfl ?_
  refine r_callVv (pc := 15) hC [aI a1] [] dX9_least_15 ml_RX9_263 my_X7_seekLeast mi_X7_seekLeast lX_34 rfl rfl ⟨Nat.le_of_ble_eq_true rfl, Nat.le_of_ble_eq_true rfl⟩ ⟨Nat.le_of_ble_eq_true rfl, Nat.le_of_ble_eq_true rfl⟩ (Nat.le_of_ble_eq_true rfl) rfl (s_Windows_seekLeast l _ _ _ h) (fun w1 hq => ?_)
  obtain ⟨wi_nextEnds_1, wi_reach_2, wi_first_3, wi_last_4, wi_worth_5, wi_whole_6, e9, h⟩ := hq
  rw [e9]
  refine r_aload_n (pc := 18) hC 0 dX9_least_18 rfl rfl ?_
  refine r_getr (r := 34) (pc := 19) hC dX9_least_19 fl_RX9_56 lX_0 rfl ?_
  refine r_iload_n (pc := 22) hC 2 dX9_least_22 rfl rfl ?_
  refine r_callVi (pc := 23) hC [aI a2] [] dX9_least_23 ml_RX9_260 my_X7_found mi_X7_found lX_34 rfl rfl ⟨Nat.le_of_ble_eq_true rfl, Nat.le_of_ble_eq_true rfl⟩ ⟨Nat.le_of_ble_eq_true rfl, Nat.le_of_ble_eq_true rfl⟩ (Nat.le_of_ble_eq_true rfl) rfl (s_Windows_found l _ _ _ h) (fun r7 w1 hq => ?_)
  obtain ⟨e9, h⟩ := hq
  rw [e9]
  refine r_conv (w2 := (wI (wI (wI (wI (wA (wA w 35 wi_nextEnds_1) 36 wi_reach_2) 34 5 wi_first_3) 34 6 wi_last_4) 34 7 wi_worth_5) 34 8 wi_whole_6)) rfl ?_
  exact r_tri (pc := 26) (kd := 0) hC hQ ⟨Nat.le_of_ble_eq_true rfl, Nat.le_of_ble_eq_true rfl⟩ dX9_least_26 hr hk (by decide) (Or.inl rfl) ⟨wi_nextEnds_1, wi_reach_2, wi_first_3, wi_last_4, wi_worth_5, wi_whole_6, rfl, h⟩
def wp_Picker_most (pg_signAt : (Nat → Int)) (pg_wordBegin : (Nat → Int)) (pg_wordEnd : (Nat → Int)) (qy_termCounts : (Nat → Int)) (mt_ending : (Nat → Int)) (pg_words : Int) (qy_items : Int) (a1 : Int) (Q : Int → Prop) (E : Nat → Prop) : Prop := wp_Picker_requireNumber a1 1 600 (wp_Windows_mostItems pg_signAt pg_wordBegin pg_wordEnd qy_termCounts mt_ending pg_words qy_items a1 (fun (r1 : Int) => Q r1)) (fun (x9 : Nat) => E x9)
set_option maxHeartbeats 4000000 in
set_option maxRecDepth 20000 in
theorem s_Picker_most (l : Launch) (hl : l.stackTraces = false) (w : St) (a1 : Int) (P : Int → Prop) (E : Nat → Prop) (h : wp_Picker_most (w.1 6) (w.1 7) (w.1 8) (w.1 20) (w.1 31) (w.1 3 16) (w.1 18 6) a1 P E) : Ct l yX9_most cX9_most 2 (some .int) 7 1 LX w [aR 0, aI a1] (okI (fun r w1 => w1 = w ∧ P r)) (fun x w1 => pj w1 0 LX = pj w 0 LX ∧ E x) := by
  unfold wp_Picker_most at h
  refine Ct.of [some (aR 0), some (aI a1)] (by decide) (Nat.le_of_ble_eq_true rfl) rfl (fun p e s m args below meth c D cA ad A Q hQ hC hr hk hnt => ?_)
  refine r_iload_n (pc := 0) hC 1 dX9_most_0 rfl rfl ?_
  refine r_iconst (pc := 1) hC dX9_most_1 (rng_lit rfl) ?_
  refine r_sipush (pc := 2) hC dX9_most_2 ⟨rfl, rng_lit rfl⟩ ?_
  refine r_callTSv (pc := 5) hC [aI a1, aI 1, aI 600] [] hQ hk hnt ⟨Nat.le_of_ble_eq_true rfl, Nat.le_of_ble_eq_true rfl⟩ dX9_most_5 ml_RX9_126 my_X9_requireNumber ms_X9_requireNumber rfl ⟨Nat.le_of_ble_eq_true rfl, Nat.le_of_ble_eq_true rfl⟩ ⟨Nat.le_of_ble_eq_true rfl, Nat.le_of_ble_eq_true rfl⟩ (Nat.le_of_ble_eq_true rfl) rfl (s_Picker_requireNumber l hl _ _ _ _ _ _ h) (fun x9 w9 hx => ?_) (fun w1 hq => ?_)
  · obtain ⟨e9, h9⟩ := hx
    exact ⟨e9.trans rfl, h9⟩
  obtain ⟨e9, h⟩ := hq
  rw [e9]
  refine r_aload_n (pc := 8) hC 0 dX9_most_8 rfl rfl ?_
  refine r_getr (r := 34) (pc := 9) hC dX9_most_9 fl_RX9_56 lX_0 rfl ?_
  refine r_iload_n (pc := 12) hC 1 dX9_most_12 rfl rfl ?_
  refine r_callVi (pc := 13) hC [aI a1] [] dX9_most_13 ml_RX9_266 my_X7_mostItems mi_X7_mostItems lX_34 rfl rfl ⟨Nat.le_of_ble_eq_true rfl, Nat.le_of_ble_eq_true rfl⟩ ⟨Nat.le_of_ble_eq_true rfl, Nat.le_of_ble_eq_true rfl⟩ (Nat.le_of_ble_eq_true rfl) rfl (s_Windows_mostItems l _ _ _ h) (fun r1 w1 hq => ?_)
  obtain ⟨e9, h⟩ := hq
  rw [e9]
  exact r_tri (pc := 16) (kd := 0) hC hQ ⟨Nat.le_of_ble_eq_true rfl, Nat.le_of_ble_eq_true rfl⟩ dX9_most_16 hr hk (by decide) (Or.inl rfl) ⟨rfl, h⟩
def wp_Picker_widest (pg_signAt : (Nat → Int)) (pg_wordBegin : (Nat → Int)) (pg_wordEnd : (Nat → Int)) (qy_weights : (Nat → Int)) (qy_termCounts : (Nat → Int)) (mt_beginning : (Nat → Int)) (mt_ending : (Nat → Int)) (pg_words : Int) (qy_items : Int) (wi_first : Int) (wi_last : Int) (wi_worth : Int) (wi_whole : Int) (a1 : Int) (a2 : Int) (Q : Int → Int → Int → Int → Int → Prop) (E : Nat → Int → Int → Int → Int → Prop) : Prop := wp_Picker_requireWhat a2 3 (wp_Picker_requireNumber a1 1 600 ((rng (pg_words - 1)) ∧ (wp_Windows_seekWidest pg_signAt pg_wordBegin pg_wordEnd qy_weights qy_termCounts mt_beginning mt_ending qy_items wi_first wi_last wi_worth wi_whole 0 (pg_words - 1) a1 (fun (wi_first_1 : Int) (wi_last_2 : Int) (wi_worth_3 : Int) (wi_whole_4 : Int) => (¬ a2 = 3 → wp_Windows_found pg_signAt pg_wordBegin pg_wordEnd wi_first_1 wi_last_2 a2 (fun (r5 : Int) => Q r5 wi_first_1 wi_last_2 wi_worth_3 wi_whole_4)) ∧ (a2 = 3 → Q wi_worth_3 wi_first_1 wi_last_2 wi_worth_3 wi_whole_4)))) (fun (x9 : Nat) => E x9 wi_first wi_last wi_worth wi_whole)) (fun (x9 : Nat) => E x9 wi_first wi_last wi_worth wi_whole)
set_option maxHeartbeats 4000000 in
set_option maxRecDepth 20000 in
theorem s_Picker_widest (l : Launch) (hl : l.stackTraces = false) (w : St) (a1 : Int) (a2 : Int) (P : Int → Int → Int → Int → Int → Prop) (E : Nat → Int → Int → Int → Int → Prop) (h : wp_Picker_widest (w.1 6) (w.1 7) (w.1 8) (w.1 19) (w.1 20) (w.1 30) (w.1 31) (w.1 3 16) (w.1 18 6) (w.1 34 5) (w.1 34 6) (w.1 34 7) (w.1 34 8) a1 a2 P E) : Ct l yX9_widest cX9_widest 3 (some .int) 7 2 LX w [aR 0, aI a1, aI a2] (okI (fun r w1 => ∃ (o0 : Int) (o1 : Int) (o2 : Int) (o3 : Int), w1 = (wI (wI (wI (wI w 34 5 o0) 34 6 o1) 34 7 o2) 34 8 o3) ∧ P r o0 o1 o2 o3)) (fun x w1 => ∃ (o0 : Int) (o1 : Int) (o2 : Int) (o3 : Int), pj w1 0 LX = pj (wI (wI (wI (wI w 34 5 o0) 34 6 o1) 34 7 o2) 34 8 o3) 0 LX ∧ E x o0 o1 o2 o3) := by
  unfold wp_Picker_widest at h
  refine Ct.of [some (aR 0), some (aI a1), some (aI a2)] (by decide) (Nat.le_of_ble_eq_true rfl) rfl (fun p e s m args below meth c D cA ad A Q hQ hC hr hk hnt => ?_)
  refine r_iload_n (pc := 0) hC 2 dX9_widest_0 rfl rfl ?_
  refine r_iconst (pc := 1) hC dX9_widest_1 (rng_lit rfl) ?_
  refine r_callTSv (pc := 2) hC [aI a2, aI 3] [] hQ hk hnt ⟨Nat.le_of_ble_eq_true rfl, Nat.le_of_ble_eq_true rfl⟩ dX9_widest_2 ml_RX9_118 my_X9_requireWhat ms_X9_requireWhat rfl ⟨Nat.le_of_ble_eq_true rfl, Nat.le_of_ble_eq_true rfl⟩ ⟨Nat.le_of_ble_eq_true rfl, Nat.le_of_ble_eq_true rfl⟩ (Nat.le_of_ble_eq_true rfl) rfl (s_Picker_requireWhat l hl _ _ _ _ _ h) (fun x9 w9 hx => ?_) (fun w1 hq => ?_)
  · obtain ⟨e9, h9⟩ := hx
    exact ⟨(w.1 34 5), (w.1 34 6), (w.1 34 7), (w.1 34 8), e9.trans rfl, h9⟩
  obtain ⟨e9, h⟩ := hq
  rw [e9]
  refine r_iload_n (pc := 5) hC 1 dX9_widest_5 rfl rfl ?_
  refine r_iconst (pc := 6) hC dX9_widest_6 (rng_lit rfl) ?_
  refine r_sipush (pc := 7) hC dX9_widest_7 ⟨rfl, rng_lit rfl⟩ ?_
  refine r_callTSv (pc := 10) hC [aI a1, aI 1, aI 600] [] hQ hk hnt ⟨Nat.le_of_ble_eq_true rfl, Nat.le_of_ble_eq_true rfl⟩ dX9_widest_10 ml_RX9_126 my_X9_requireNumber ms_X9_requireNumber rfl ⟨Nat.le_of_ble_eq_true rfl, Nat.le_of_ble_eq_true rfl⟩ ⟨Nat.le_of_ble_eq_true rfl, Nat.le_of_ble_eq_true rfl⟩ (Nat.le_of_ble_eq_true rfl) rfl (s_Picker_requireNumber l hl _ _ _ _ _ _ h) (fun x9 w9 hx => ?_) (fun w1 hq => ?_)
  · obtain ⟨e9, h9⟩ := hx
    exact ⟨(w.1 34 5), (w.1 34 6), (w.1 34 7), (w.1 34 8), e9.trans rfl, h9⟩
  obtain ⟨e9, h⟩ := hq
  rw [e9]
  refine r_aload_n (pc := 13) hC 0 dX9_widest_13 rfl rfl ?_
  refine r_getr (r := 34) (pc := 14) hC dX9_widest_14 fl_RX9_56 lX_0 rfl ?_
  refine r_iconst (pc := 17) hC dX9_widest_17 (rng_lit rfl) ?_
  refine r_aload_n (pc := 18) hC 0 dX9_widest_18 rfl rfl ?_
  refine r_getr (r := 3) (pc := 19) hC dX9_widest_19 fl_RX9_19 lX_0 rfl ?_
  refine r_get (kd := 0) (v := (w.1 3 16)) (pc := 22) hC dX9_widest_22 fl_RX9_147 lX_3 rfl rfl ?_
  refine r_iconst (pc := 25) hC dX9_widest_25 (rng_lit rfl) ?_
  refine r_isub (pc := 26) hC dX9_widest_26 h.1 ?_
  have h := h.2
  refine r_iload_n (pc := 27) hC 1 dX9_widest_27 rfl rfl ?_
  refine r_callVv (pc := 28) hC [aI 0, aI ((w.1 3 16) - 1), aI a1] [] dX9_widest_28 ml_RX9_269 my_X7_seekWidest mi_X7_seekWidest lX_34 rfl rfl ⟨Nat.le_of_ble_eq_true rfl, Nat.le_of_ble_eq_true rfl⟩ ⟨Nat.le_of_ble_eq_true rfl, Nat.le_of_ble_eq_true rfl⟩ (Nat.le_of_ble_eq_true rfl) rfl (s_Windows_seekWidest l _ _ _ _ _ h) (fun w1 hq => ?_)
  obtain ⟨wi_first_1, wi_last_2, wi_worth_3, wi_whole_4, e9, h⟩ := hq
  rw [e9]
  refine r_iload_n (pc := 31) hC 2 dX9_widest_31 rfl rfl ?_
  refine r_iconst (pc := 32) hC dX9_widest_32 (rng_lit rfl) ?_
  refine r_ic_ne (pc := 33) (tgt := 46) hC dX9_widest_33 rfl (fun hc1 => ?_) (fun hc1 => ?_)
  · have h := h.1 hc1
    refine r_aload_n (pc := 46) hC 0 dX9_widest_46 rfl rfl ?_
    refine r_getr (r := 34) (pc := 47) hC dX9_widest_47 fl_RX9_56 lX_0 rfl ?_
    refine r_iload_n (pc := 50) hC 2 dX9_widest_50 rfl rfl ?_
    refine r_callVi (pc := 51) hC [aI a2] [] dX9_widest_51 ml_RX9_260 my_X7_found mi_X7_found lX_34 rfl rfl ⟨Nat.le_of_ble_eq_true rfl, Nat.le_of_ble_eq_true rfl⟩ ⟨Nat.le_of_ble_eq_true rfl, Nat.le_of_ble_eq_true rfl⟩ (Nat.le_of_ble_eq_true rfl) rfl (s_Windows_found l _ _ _ h) (fun r5 w1 hq => ?_)
    obtain ⟨e9, h⟩ := hq
    rw [e9]
    refine r_conv (w2 := (wI (wI (wI (wI w 34 5 wi_first_1) 34 6 wi_last_2) 34 7 wi_worth_3) 34 8 wi_whole_4)) rfl ?_
    exact r_tri (pc := 54) (kd := 0) hC hQ ⟨Nat.le_of_ble_eq_true rfl, Nat.le_of_ble_eq_true rfl⟩ dX9_widest_54 hr hk (by decide) (Or.inl rfl) ⟨wi_first_1, wi_last_2, wi_worth_3, wi_whole_4, rfl, h⟩
  have h := h.2 hc1
  refine r_aload_n (pc := 36) hC 0 dX9_widest_36 rfl rfl ?_
  refine r_getr (r := 34) (pc := 37) hC dX9_widest_37 fl_RX9_56 lX_0 rfl ?_
  refine r_get (kd := 0) (v := wi_worth_3) (pc := 40) hC dX9_widest_40 fl_RX9_272 lX_34 rfl rfl ?_
  refine r_goto (tgt := 54) (pc := 43) hC dX9_widest_43 rfl ?_
  refine r_conv (w2 := (wI (wI (wI (wI w 34 5 wi_first_1) 34 6 wi_last_2) 34 7 wi_worth_3) 34 8 wi_whole_4)) rfl ?_
  exact r_tri (pc := 54) (kd := 0) hC hQ ⟨Nat.le_of_ble_eq_true rfl, Nat.le_of_ble_eq_true rfl⟩ dX9_widest_54 hr hk (by decide) (Or.inl rfl) ⟨wi_first_1, wi_last_2, wi_worth_3, wi_whole_4, rfl, h⟩
def wp_Picker_cut (pg_signAt : (Nat → Int)) (pg_wordBegin : (Nat → Int)) (pg_wordEnd : (Nat → Int)) (pg_sentenceSigns : (Nat → Int)) (pg_sentenceFirst : (Nat → Int)) (pg_sentenceWords : (Nat → Int)) (qy_weights : (Nat → Int)) (qy_termCounts : (Nat → Int)) (mt_beginning : (Nat → Int)) (mt_ending : (Nat → Int)) (pg_sentences : Int) (qy_items : Int) (wi_first : Int) (wi_last : Int) (wi_worth : Int) (wi_whole : Int) (a1 : Int) (a2 : Int) (a3 : Int) (Q : Int → Int → Int → Int → Int → Prop) (E : Nat → Int → Int → Int → Int → Prop) : Prop := wp_Picker_requireIndex a1 pg_sentences (wp_Picker_requireWhat a3 2 (wp_Picker_requireNumber a2 10 600 (wp_Windows_seekCut pg_signAt pg_wordBegin pg_wordEnd pg_sentenceSigns pg_sentenceFirst pg_sentenceWords qy_weights qy_termCounts mt_beginning mt_ending qy_items wi_first wi_last wi_worth wi_whole a1 a2 (fun (wi_first_1 : Int) (wi_last_2 : Int) (wi_worth_3 : Int) (wi_whole_4 : Int) => (¬ a3 = 2 → wp_Windows_found pg_signAt pg_wordBegin pg_wordEnd wi_first_1 wi_last_2 a3 (fun (r5 : Int) => Q r5 wi_first_1 wi_last_2 wi_worth_3 wi_whole_4)) ∧ (a3 = 2 → (wi_whole_4 = 0 → Q 0 wi_first_1 wi_last_2 wi_worth_3 wi_whole_4) ∧ (¬ wi_whole_4 = 0 → Q 1 wi_first_1 wi_last_2 wi_worth_3 wi_whole_4)))) (fun (x9 : Nat) => E x9 wi_first wi_last wi_worth wi_whole)) (fun (x9 : Nat) => E x9 wi_first wi_last wi_worth wi_whole)) (fun (x9 : Nat) => E x9 wi_first wi_last wi_worth wi_whole)
set_option maxHeartbeats 4000000 in
set_option maxRecDepth 20000 in
theorem s_Picker_cut (l : Launch) (hl : l.stackTraces = false) (w : St) (a1 : Int) (a2 : Int) (a3 : Int) (P : Int → Int → Int → Int → Int → Prop) (E : Nat → Int → Int → Int → Int → Prop) (h : wp_Picker_cut (w.1 6) (w.1 7) (w.1 8) (w.1 13) (w.1 14) (w.1 15) (w.1 19) (w.1 20) (w.1 30) (w.1 31) (w.1 3 17) (w.1 18 6) (w.1 34 5) (w.1 34 6) (w.1 34 7) (w.1 34 8) a1 a2 a3 P E) : Ct l yX9_cut cX9_cut 4 (some .int) 7 3 LX w [aR 0, aI a1, aI a2, aI a3] (okI (fun r w1 => ∃ (o0 : Int) (o1 : Int) (o2 : Int) (o3 : Int), w1 = (wI (wI (wI (wI w 34 5 o0) 34 6 o1) 34 7 o2) 34 8 o3) ∧ P r o0 o1 o2 o3)) (fun x w1 => ∃ (o0 : Int) (o1 : Int) (o2 : Int) (o3 : Int), pj w1 0 LX = pj (wI (wI (wI (wI w 34 5 o0) 34 6 o1) 34 7 o2) 34 8 o3) 0 LX ∧ E x o0 o1 o2 o3) := by
  unfold wp_Picker_cut at h
  refine Ct.of [some (aR 0), some (aI a1), some (aI a2), some (aI a3)] (by decide) (Nat.le_of_ble_eq_true rfl) rfl (fun p e s m args below meth c D cA ad A Q hQ hC hr hk hnt => ?_)
  refine r_iload_n (pc := 0) hC 1 dX9_cut_0 rfl rfl ?_
  refine r_aload_n (pc := 1) hC 0 dX9_cut_1 rfl rfl ?_
  refine r_getr (r := 3) (pc := 2) hC dX9_cut_2 fl_RX9_19 lX_0 rfl ?_
  refine r_get (kd := 0) (v := (w.1 3 17)) (pc := 5) hC dX9_cut_5 fl_RX9_97 lX_3 rfl rfl ?_
  refine r_callTSv (pc := 8) hC [aI a1, aI (w.1 3 17)] [] hQ hk hnt ⟨Nat.le_of_ble_eq_true rfl, Nat.le_of_ble_eq_true rfl⟩ dX9_cut_8 ml_RX9_150 my_X9_requireIndex ms_X9_requireIndex rfl ⟨Nat.le_of_ble_eq_true rfl, Nat.le_of_ble_eq_true rfl⟩ ⟨Nat.le_of_ble_eq_true rfl, Nat.le_of_ble_eq_true rfl⟩ (Nat.le_of_ble_eq_true rfl) rfl (s_Picker_requireIndex l hl _ _ _ _ _ h) (fun x9 w9 hx => ?_) (fun w1 hq => ?_)
  · obtain ⟨e9, h9⟩ := hx
    exact ⟨(w.1 34 5), (w.1 34 6), (w.1 34 7), (w.1 34 8), e9.trans rfl, h9⟩
  obtain ⟨e9, h⟩ := hq
  rw [e9]
  refine r_iload_n (pc := 11) hC 3 dX9_cut_11 rfl rfl ?_
  refine r_iconst (pc := 12) hC dX9_cut_12 (rng_lit rfl) ?_
  refine r_callTSv (pc := 13) hC [aI a3, aI 2] [] hQ hk hnt ⟨Nat.le_of_ble_eq_true rfl, Nat.le_of_ble_eq_true rfl⟩ dX9_cut_13 ml_RX9_118 my_X9_requireWhat ms_X9_requireWhat rfl ⟨Nat.le_of_ble_eq_true rfl, Nat.le_of_ble_eq_true rfl⟩ ⟨Nat.le_of_ble_eq_true rfl, Nat.le_of_ble_eq_true rfl⟩ (Nat.le_of_ble_eq_true rfl) rfl (s_Picker_requireWhat l hl _ _ _ _ _ h) (fun x9 w9 hx => ?_) (fun w1 hq => ?_)
  · obtain ⟨e9, h9⟩ := hx
    exact ⟨(w.1 34 5), (w.1 34 6), (w.1 34 7), (w.1 34 8), e9.trans rfl, h9⟩
  obtain ⟨e9, h⟩ := hq
  rw [e9]
  refine r_iload_n (pc := 16) hC 2 dX9_cut_16 rfl rfl ?_
  refine r_bipush (pc := 17) hC dX9_cut_17 ⟨rfl, rng_lit rfl⟩ ?_
  refine r_sipush (pc := 19) hC dX9_cut_19 ⟨rfl, rng_lit rfl⟩ ?_
  refine r_callTSv (pc := 22) hC [aI a2, aI 10, aI 600] [] hQ hk hnt ⟨Nat.le_of_ble_eq_true rfl, Nat.le_of_ble_eq_true rfl⟩ dX9_cut_22 ml_RX9_126 my_X9_requireNumber ms_X9_requireNumber rfl ⟨Nat.le_of_ble_eq_true rfl, Nat.le_of_ble_eq_true rfl⟩ ⟨Nat.le_of_ble_eq_true rfl, Nat.le_of_ble_eq_true rfl⟩ (Nat.le_of_ble_eq_true rfl) rfl (s_Picker_requireNumber l hl _ _ _ _ _ _ h) (fun x9 w9 hx => ?_) (fun w1 hq => ?_)
  · obtain ⟨e9, h9⟩ := hx
    exact ⟨(w.1 34 5), (w.1 34 6), (w.1 34 7), (w.1 34 8), e9.trans rfl, h9⟩
  obtain ⟨e9, h⟩ := hq
  rw [e9]
  refine r_aload_n (pc := 25) hC 0 dX9_cut_25 rfl rfl ?_
  refine r_getr (r := 34) (pc := 26) hC dX9_cut_26 fl_RX9_56 lX_0 rfl ?_
  refine r_iload_n (pc := 29) hC 1 dX9_cut_29 rfl rfl ?_
  refine r_iload_n (pc := 30) hC 2 dX9_cut_30 rfl rfl ?_
  refine r_callVv (pc := 31) hC [aI a1, aI a2] [] dX9_cut_31 ml_RX9_275 my_X7_seekCut mi_X7_seekCut lX_34 rfl rfl ⟨Nat.le_of_ble_eq_true rfl, Nat.le_of_ble_eq_true rfl⟩ ⟨Nat.le_of_ble_eq_true rfl, Nat.le_of_ble_eq_true rfl⟩ (Nat.le_of_ble_eq_true rfl) rfl (s_Windows_seekCut l _ _ _ _ h) (fun w1 hq => ?_)
  obtain ⟨wi_first_1, wi_last_2, wi_worth_3, wi_whole_4, e9, h⟩ := hq
  rw [e9]
  refine r_iload_n (pc := 34) hC 3 dX9_cut_34 rfl rfl ?_
  refine r_iconst (pc := 35) hC dX9_cut_35 (rng_lit rfl) ?_
  refine r_ic_ne (pc := 36) (tgt := 55) hC dX9_cut_36 rfl (fun hc2 => ?_) (fun hc2 => ?_)
  · have h := h.1 hc2
    refine r_aload_n (pc := 55) hC 0 dX9_cut_55 rfl rfl ?_
    refine r_getr (r := 34) (pc := 56) hC dX9_cut_56 fl_RX9_56 lX_0 rfl ?_
    refine r_iload_n (pc := 59) hC 3 dX9_cut_59 rfl rfl ?_
    refine r_callVi (pc := 60) hC [aI a3] [] dX9_cut_60 ml_RX9_260 my_X7_found mi_X7_found lX_34 rfl rfl ⟨Nat.le_of_ble_eq_true rfl, Nat.le_of_ble_eq_true rfl⟩ ⟨Nat.le_of_ble_eq_true rfl, Nat.le_of_ble_eq_true rfl⟩ (Nat.le_of_ble_eq_true rfl) rfl (s_Windows_found l _ _ _ h) (fun r5 w1 hq => ?_)
    obtain ⟨e9, h⟩ := hq
    rw [e9]
    refine r_conv (w2 := (wI (wI (wI (wI w 34 5 wi_first_1) 34 6 wi_last_2) 34 7 wi_worth_3) 34 8 wi_whole_4)) rfl ?_
    exact r_tri (pc := 63) (kd := 0) hC hQ ⟨Nat.le_of_ble_eq_true rfl, Nat.le_of_ble_eq_true rfl⟩ dX9_cut_63 hr hk (by decide) (Or.inl rfl) ⟨wi_first_1, wi_last_2, wi_worth_3, wi_whole_4, rfl, h⟩
  have h := h.2 hc2
  refine r_aload_n (pc := 39) hC 0 dX9_cut_39 rfl rfl ?_
  refine r_getr (r := 34) (pc := 40) hC dX9_cut_40 fl_RX9_56 lX_0 rfl ?_
  refine r_get (kd := 1) (v := wi_whole_4) (pc := 43) hC dX9_cut_43 fl_RX9_278 lX_34 rfl rfl ?_
  refine r_if_eq (pc := 46) (tgt := 53) hC dX9_cut_46 rfl (fun hc1 => ?_) (fun hc1 => ?_)
  · have h := h.1 hc1
    refine r_iconst (pc := 53) hC dX9_cut_53 (rng_lit rfl) ?_
    refine r_conv (w2 := (wI (wI (wI (wI w 34 5 wi_first_1) 34 6 wi_last_2) 34 7 wi_worth_3) 34 8 wi_whole_4)) rfl ?_
    exact r_tri (pc := 54) (kd := 0) hC hQ ⟨Nat.le_of_ble_eq_true rfl, Nat.le_of_ble_eq_true rfl⟩ dX9_cut_54 hr hk (by decide) (Or.inl rfl) ⟨wi_first_1, wi_last_2, wi_worth_3, wi_whole_4, rfl, h⟩
  have h := h.2 hc1
  refine r_iconst (pc := 49) hC dX9_cut_49 (rng_lit rfl) ?_
  refine r_goto (tgt := 54) (pc := 50) hC dX9_cut_50 rfl ?_
  refine r_conv (w2 := (wI (wI (wI (wI w 34 5 wi_first_1) 34 6 wi_last_2) 34 7 wi_worth_3) 34 8 wi_whole_4)) rfl ?_
  exact r_tri (pc := 54) (kd := 0) hC hQ ⟨Nat.le_of_ble_eq_true rfl, Nat.le_of_ble_eq_true rfl⟩ dX9_cut_54 hr hk (by decide) (Or.inl rfl) ⟨wi_first_1, wi_last_2, wi_worth_3, wi_whole_4, rfl, h⟩
def wp_Picker_requireSentences (pg_sentences : Int) (a1 : Int) (Q : Prop) (E : Nat → Prop) : Prop := ((iUshr a1 pg_sentences) = 0 → Q) ∧ (¬ (iUshr a1 pg_sentences) = 0 → E 3)
set_option maxHeartbeats 4000000 in
set_option maxRecDepth 20000 in
theorem s_Picker_requireSentences (l : Launch) (hl : l.stackTraces = false) (w : St) (a1 : Int) (P : Prop) (E : Nat → Prop) (h : wp_Picker_requireSentences (w.1 3 17) a1 P E) : Ct l yX9_requireSentences cX9_requireSentences 2 none 6 1 LX w [aR 0, aI a1] (okV (fun w1 => w1 = w ∧ P)) (fun x w1 => pj w1 0 LX = pj w 0 LX ∧ E x) := by
  unfold wp_Picker_requireSentences at h
  refine Ct.of [some (aR 0), some (aI a1)] (by decide) (Nat.le_of_ble_eq_true rfl) rfl (fun p e s m args below meth c D cA ad A Q hQ hC hr hk hnt => ?_)
  refine r_iload_n (pc := 0) hC 1 dX9_requireSentences_0 rfl rfl ?_
  refine r_aload_n (pc := 1) hC 0 dX9_requireSentences_1 rfl rfl ?_
  refine r_getr (r := 3) (pc := 2) hC dX9_requireSentences_2 fl_RX9_19 lX_0 rfl ?_
  refine r_get (kd := 0) (v := (w.1 3 17)) (pc := 5) hC dX9_requireSentences_5 fl_RX9_97 lX_3 rfl rfl ?_
  refine r_iushr (pc := 8) hC dX9_requireSentences_8 ?_
  refine r_if_eq (pc := 9) (tgt := 23) hC dX9_requireSentences_9 rfl (fun hc1 => ?_) (fun hc1 => ?_)
  · have h := h.1 hc1
    exact r_trv (pc := 23) hC hQ ⟨Nat.le_of_ble_eq_true rfl, Nat.le_of_ble_eq_true rfl⟩ dX9_requireSentences_23 hr hk ⟨rfl, h⟩
  have h := h.2 hc1
  exact r_thrW (j := 7) 3 ["java/lang/RuntimeException", "java/lang/Exception"] hC hl hQ hk hnt tw_RX9_104_108 rfl ⟨rfl, rfl⟩ dX9_requireSentences_12 dX9_requireSentences_15 dX9_requireSentences_16 dX9_requireSentences_19 dX9_requireSentences_22 ⟨Nat.le_of_ble_eq_true rfl, Nat.le_of_ble_eq_true rfl⟩ ⟨Nat.le_of_ble_eq_true rfl, Nat.le_of_ble_eq_true rfl⟩ ⟨Nat.le_of_ble_eq_true rfl, Nat.le_of_ble_eq_true rfl⟩ ⟨rfl, h⟩
def wp_Picker_set (pg_sentenceSigns : (Nat → Int)) (qy_weights : (Nat → Int)) (sr_tooLike : (Nat → Int)) (pg_sentences : Int) (qy_items : Int) (se_budget : Int) (se_most : Int) (mt_tallies : (Nat → Int64)) (a1 : Int) (a2 : Int) (Q : Int → Prop) (E : Nat → Prop) : Prop := wp_Picker_requireWhat a2 3 (wp_Picker_requireSentences pg_sentences a1 ((a2 = 0 → wp_Sets_worthOfSet qy_weights pg_sentences qy_items mt_tallies a1 (fun (r1 : Int) => Q r1)) ∧ (¬ a2 = 0 → (a2 = 1 → wp_Sets_lengthOfSet pg_sentenceSigns pg_sentences a1 (fun (r2 : Int) => Q r2)) ∧ (¬ a2 = 1 → (a2 = 2 → wp_Sets_mayBe pg_sentenceSigns sr_tooLike pg_sentences se_budget se_most a1 (fun (r3 : Int) => (r3 = 0 → Q 0) ∧ (¬ r3 = 0 → Q 1))) ∧ (¬ a2 = 2 → wp_Matches_tallyOf pg_sentences mt_tallies a1 (fun (r4 : Int64) => wp_Query_itemsOf qy_items r4 (fun (r5 : Int) => Q r5)))))) (fun (x9 : Nat) => E x9)) (fun (x9 : Nat) => E x9)
set_option maxHeartbeats 4000000 in
set_option maxRecDepth 20000 in
theorem s_Picker_set (l : Launch) (hl : l.stackTraces = false) (w : St) (a1 : Int) (a2 : Int) (P : Int → Prop) (E : Nat → Prop) (h : wp_Picker_set (w.1 13) (w.1 19) (w.1 40) (w.1 3 17) (w.1 18 6) (w.1 37 4) (w.1 37 5) (w.2 33) a1 a2 P E) : Ct l yX9_set cX9_set 3 (some .int) 7 2 LX w [aR 0, aI a1, aI a2] (okI (fun r w1 => w1 = w ∧ P r)) (fun x w1 => pj w1 0 LX = pj w 0 LX ∧ E x) := by
  unfold wp_Picker_set at h
  refine Ct.of [some (aR 0), some (aI a1), some (aI a2)] (by decide) (Nat.le_of_ble_eq_true rfl) rfl (fun p e s m args below meth c D cA ad A Q hQ hC hr hk hnt => ?_)
  refine r_iload_n (pc := 0) hC 2 dX9_set_0 rfl rfl ?_
  refine r_iconst (pc := 1) hC dX9_set_1 (rng_lit rfl) ?_
  refine r_callTSv (pc := 2) hC [aI a2, aI 3] [] hQ hk hnt ⟨Nat.le_of_ble_eq_true rfl, Nat.le_of_ble_eq_true rfl⟩ dX9_set_2 ml_RX9_118 my_X9_requireWhat ms_X9_requireWhat rfl ⟨Nat.le_of_ble_eq_true rfl, Nat.le_of_ble_eq_true rfl⟩ ⟨Nat.le_of_ble_eq_true rfl, Nat.le_of_ble_eq_true rfl⟩ (Nat.le_of_ble_eq_true rfl) rfl (s_Picker_requireWhat l hl _ _ _ _ _ h) (fun x9 w9 hx => ?_) (fun w1 hq => ?_)
  · obtain ⟨e9, h9⟩ := hx
    exact ⟨e9.trans rfl, h9⟩
  obtain ⟨e9, h⟩ := hq
  rw [e9]
  refine r_aload_n (pc := 5) hC 0 dX9_set_5 rfl rfl ?_
  refine r_iload_n (pc := 6) hC 1 dX9_set_6 rfl rfl ?_
  refine r_callTVv (pc := 7) hC [aI a1] [] hQ hk hnt ⟨Nat.le_of_ble_eq_true rfl, Nat.le_of_ble_eq_true rfl⟩ dX9_set_7 ml_RX9_282 my_X9_requireSentences mi_X9_requireSentences lX_0 rfl rfl ⟨Nat.le_of_ble_eq_true rfl, Nat.le_of_ble_eq_true rfl⟩ ⟨Nat.le_of_ble_eq_true rfl, Nat.le_of_ble_eq_true rfl⟩ (Nat.le_of_ble_eq_true rfl) rfl (s_Picker_requireSentences l hl _ _ _ _ h) (fun x9 w9 hx => ?_) (fun w1 hq => ?_)
  · obtain ⟨e9, h9⟩ := hx
    exact ⟨e9.trans rfl, h9⟩
  obtain ⟨e9, h⟩ := hq
  rw [e9]
  refine r_iload_n (pc := 10) hC 2 dX9_set_10 rfl rfl ?_
  by_cases hc1 : a2 = 0
  · refine r_tblIn (pc := 11) (tgt := 36) hC dX9_set_11 (by rw [hc1]; decide) (by rw [hc1]; decide) (by rw [hc1]; rfl) rfl ?_
    have h := h.1 hc1
    refine r_aload_n (pc := 36) hC 0 dX9_set_36 rfl rfl ?_
    refine r_getr (r := 37) (pc := 37) hC dX9_set_37 fl_RX9_63 lX_0 rfl ?_
    refine r_iload_n (pc := 40) hC 1 dX9_set_40 rfl rfl ?_
    refine r_callVi (pc := 41) hC [aI a1] [] dX9_set_41 ml_RX9_285 my_X5_worthOfSet mi_X5_worthOfSet lX_37 rfl rfl ⟨Nat.le_of_ble_eq_true rfl, Nat.le_of_ble_eq_true rfl⟩ ⟨Nat.le_of_ble_eq_true rfl, Nat.le_of_ble_eq_true rfl⟩ (Nat.le_of_ble_eq_true rfl) rfl (s_Sets_worthOfSet l _ _ _ h) (fun r1 w1 hq => ?_)
    obtain ⟨e9, h⟩ := hq
    rw [e9]
    exact r_tri (pc := 44) (kd := 0) hC hQ ⟨Nat.le_of_ble_eq_true rfl, Nat.le_of_ble_eq_true rfl⟩ dX9_set_44 hr hk (by decide) (Or.inl rfl) ⟨rfl, h⟩
  have h := h.2 hc1
  by_cases hc2 : a2 = 1
  · refine r_tblIn (pc := 11) (tgt := 45) hC dX9_set_11 (by rw [hc2]; decide) (by rw [hc2]; decide) (by rw [hc2]; rfl) rfl ?_
    have h := h.1 hc2
    refine r_aload_n (pc := 45) hC 0 dX9_set_45 rfl rfl ?_
    refine r_getr (r := 37) (pc := 46) hC dX9_set_46 fl_RX9_63 lX_0 rfl ?_
    refine r_iload_n (pc := 49) hC 1 dX9_set_49 rfl rfl ?_
    refine r_callVi (pc := 50) hC [aI a1] [] dX9_set_50 ml_RX9_288 my_X5_lengthOfSet mi_X5_lengthOfSet lX_37 rfl rfl ⟨Nat.le_of_ble_eq_true rfl, Nat.le_of_ble_eq_true rfl⟩ ⟨Nat.le_of_ble_eq_true rfl, Nat.le_of_ble_eq_true rfl⟩ (Nat.le_of_ble_eq_true rfl) rfl (s_Sets_lengthOfSet l _ _ _ h) (fun r2 w1 hq => ?_)
    obtain ⟨e9, h⟩ := hq
    rw [e9]
    exact r_tri (pc := 53) (kd := 0) hC hQ ⟨Nat.le_of_ble_eq_true rfl, Nat.le_of_ble_eq_true rfl⟩ dX9_set_53 hr hk (by decide) (Or.inl rfl) ⟨rfl, h⟩
  have h := h.2 hc2
  by_cases hc4 : a2 = 2
  · refine r_tblIn (pc := 11) (tgt := 54) hC dX9_set_11 (by rw [hc4]; decide) (by rw [hc4]; decide) (by rw [hc4]; rfl) rfl ?_
    have h := h.1 hc4
    refine r_aload_n (pc := 54) hC 0 dX9_set_54 rfl rfl ?_
    refine r_getr (r := 37) (pc := 55) hC dX9_set_55 fl_RX9_63 lX_0 rfl ?_
    refine r_iload_n (pc := 58) hC 1 dX9_set_58 rfl rfl ?_
    refine r_callVi (pc := 59) hC [aI a1] [] dX9_set_59 ml_RX9_291 my_X5_mayBe mi_X5_mayBe lX_37 rfl rfl ⟨Nat.le_of_ble_eq_true rfl, Nat.le_of_ble_eq_true rfl⟩ ⟨Nat.le_of_ble_eq_true rfl, Nat.le_of_ble_eq_true rfl⟩ (Nat.le_of_ble_eq_true rfl) rfl (s_Sets_mayBe l _ _ _ h) (fun r3 w1 hq => ?_)
    obtain ⟨e9, h⟩ := hq
    rw [e9]
    refine r_if_eq (pc := 62) (tgt := 69) hC dX9_set_62 rfl (fun hc3 => ?_) (fun hc3 => ?_)
    · have h := h.1 hc3
      refine r_iconst (pc := 69) hC dX9_set_69 (rng_lit rfl) ?_
      exact r_tri (pc := 70) (kd := 0) hC hQ ⟨Nat.le_of_ble_eq_true rfl, Nat.le_of_ble_eq_true rfl⟩ dX9_set_70 hr hk (by decide) (Or.inl rfl) ⟨rfl, h⟩
    have h := h.2 hc3
    refine r_iconst (pc := 65) hC dX9_set_65 (rng_lit rfl) ?_
    refine r_goto (tgt := 70) (pc := 66) hC dX9_set_66 rfl ?_
    exact r_tri (pc := 70) (kd := 0) hC hQ ⟨Nat.le_of_ble_eq_true rfl, Nat.le_of_ble_eq_true rfl⟩ dX9_set_70 hr hk (by decide) (Or.inl rfl) ⟨rfl, h⟩
  have h := h.2 hc4
  refine r_tblOut (pc := 11) (tgt := 71) hC dX9_set_11 (tb_out_2 hc1 hc2 hc4) rfl ?_
  refine r_aload_n (pc := 71) hC 0 dX9_set_71 rfl rfl ?_
  refine r_getr (r := 18) (pc := 72) hC dX9_set_72 fl_RX9_26 lX_0 rfl ?_
  refine r_aload_n (pc := 75) hC 0 dX9_set_75 rfl rfl ?_
  refine r_getr (r := 29) (pc := 76) hC dX9_set_76 fl_RX9_47 lX_0 rfl ?_
  refine r_iload_n (pc := 79) hC 1 dX9_set_79 rfl rfl ?_
  refine r_callVl (pc := 80) hC [aI a1] [aR 18] dX9_set_80 ml_RX9_227 my_X0_tallyOf mi_X0_tallyOf lX_29 rfl rfl ⟨Nat.le_of_ble_eq_true rfl, Nat.le_of_ble_eq_true rfl⟩ ⟨Nat.le_of_ble_eq_true rfl, Nat.le_of_ble_eq_true rfl⟩ (Nat.le_of_ble_eq_true rfl) rfl (s_Matches_tallyOf l _ _ _ h) (fun r4 w1 hq => ?_)
  obtain ⟨e9, h⟩ := hq
  rw [e9]
  refine r_callVi (pc := 83) hC [aL r4] [] dX9_set_83 ml_RX9_194 my_X2_itemsOf mi_X2_itemsOf lX_18 rfl rfl ⟨Nat.le_of_ble_eq_true rfl, Nat.le_of_ble_eq_true rfl⟩ ⟨Nat.le_of_ble_eq_true rfl, Nat.le_of_ble_eq_true rfl⟩ (Nat.le_of_ble_eq_true rfl) rfl (s_Query_itemsOf l _ _ _ h) (fun r5 w1 hq => ?_)
  obtain ⟨e9, h⟩ := hq
  rw [e9]
  exact r_tri (pc := 86) (kd := 0) hC hQ ⟨Nat.le_of_ble_eq_true rfl, Nat.le_of_ble_eq_true rfl⟩ dX9_set_86 hr hk (by decide) (Or.inl rfl) ⟨rfl, h⟩
def wp_Picker_common (pg_sentences : Int) (pg_lowWords : (Nat → Int64)) (pg_highWords : (Nat → Int64)) (a1 : Int) (a2 : Int) (Q : Int → Prop) (E : Nat → Prop) : Prop := wp_Picker_requireIndex a1 pg_sentences (wp_Picker_requireIndex a2 pg_sentences (wp_Page_inCommon pg_lowWords pg_highWords a1 a2 (fun (r1 : Int) => Q r1)) (fun (x9 : Nat) => E x9)) (fun (x9 : Nat) => E x9)
set_option maxHeartbeats 4000000 in
set_option maxRecDepth 20000 in
theorem s_Picker_common (l : Launch) (hl : l.stackTraces = false) (w : St) (a1 : Int) (a2 : Int) (P : Int → Prop) (E : Nat → Prop) (h : wp_Picker_common (w.1 3 17) (w.2 16) (w.2 17) a1 a2 P E) : Ct l yX9_common cX9_common 3 (some .int) 7 2 LX w [aR 0, aI a1, aI a2] (okI (fun r w1 => w1 = w ∧ P r)) (fun x w1 => pj w1 0 LX = pj w 0 LX ∧ E x) := by
  unfold wp_Picker_common at h
  refine Ct.of [some (aR 0), some (aI a1), some (aI a2)] (by decide) (Nat.le_of_ble_eq_true rfl) rfl (fun p e s m args below meth c D cA ad A Q hQ hC hr hk hnt => ?_)
  refine r_iload_n (pc := 0) hC 1 dX9_common_0 rfl rfl ?_
  refine r_aload_n (pc := 1) hC 0 dX9_common_1 rfl rfl ?_
  refine r_getr (r := 3) (pc := 2) hC dX9_common_2 fl_RX9_19 lX_0 rfl ?_
  refine r_get (kd := 0) (v := (w.1 3 17)) (pc := 5) hC dX9_common_5 fl_RX9_97 lX_3 rfl rfl ?_
  refine r_callTSv (pc := 8) hC [aI a1, aI (w.1 3 17)] [] hQ hk hnt ⟨Nat.le_of_ble_eq_true rfl, Nat.le_of_ble_eq_true rfl⟩ dX9_common_8 ml_RX9_150 my_X9_requireIndex ms_X9_requireIndex rfl ⟨Nat.le_of_ble_eq_true rfl, Nat.le_of_ble_eq_true rfl⟩ ⟨Nat.le_of_ble_eq_true rfl, Nat.le_of_ble_eq_true rfl⟩ (Nat.le_of_ble_eq_true rfl) rfl (s_Picker_requireIndex l hl _ _ _ _ _ h) (fun x9 w9 hx => ?_) (fun w1 hq => ?_)
  · obtain ⟨e9, h9⟩ := hx
    exact ⟨e9.trans rfl, h9⟩
  obtain ⟨e9, h⟩ := hq
  rw [e9]
  refine r_iload_n (pc := 11) hC 2 dX9_common_11 rfl rfl ?_
  refine r_aload_n (pc := 12) hC 0 dX9_common_12 rfl rfl ?_
  refine r_getr (r := 3) (pc := 13) hC dX9_common_13 fl_RX9_19 lX_0 rfl ?_
  refine r_get (kd := 0) (v := (w.1 3 17)) (pc := 16) hC dX9_common_16 fl_RX9_97 lX_3 rfl rfl ?_
  refine r_callTSv (pc := 19) hC [aI a2, aI (w.1 3 17)] [] hQ hk hnt ⟨Nat.le_of_ble_eq_true rfl, Nat.le_of_ble_eq_true rfl⟩ dX9_common_19 ml_RX9_150 my_X9_requireIndex ms_X9_requireIndex rfl ⟨Nat.le_of_ble_eq_true rfl, Nat.le_of_ble_eq_true rfl⟩ ⟨Nat.le_of_ble_eq_true rfl, Nat.le_of_ble_eq_true rfl⟩ (Nat.le_of_ble_eq_true rfl) rfl (s_Picker_requireIndex l hl _ _ _ _ _ h) (fun x9 w9 hx => ?_) (fun w1 hq => ?_)
  · obtain ⟨e9, h9⟩ := hx
    exact ⟨e9.trans rfl, h9⟩
  obtain ⟨e9, h⟩ := hq
  rw [e9]
  refine r_aload_n (pc := 22) hC 0 dX9_common_22 rfl rfl ?_
  refine r_getr (r := 3) (pc := 23) hC dX9_common_23 fl_RX9_19 lX_0 rfl ?_
  refine r_iload_n (pc := 26) hC 1 dX9_common_26 rfl rfl ?_
  refine r_iload_n (pc := 27) hC 2 dX9_common_27 rfl rfl ?_
  refine r_callVi (pc := 28) hC [aI a1, aI a2] [] dX9_common_28 ml_RX9_294 my_X1_inCommon mi_X1_inCommon lX_3 rfl rfl ⟨Nat.le_of_ble_eq_true rfl, Nat.le_of_ble_eq_true rfl⟩ ⟨Nat.le_of_ble_eq_true rfl, Nat.le_of_ble_eq_true rfl⟩ (Nat.le_of_ble_eq_true rfl) rfl (s_Page_inCommon l _ _ _ _ h) (fun r1 w1 hq => ?_)
  obtain ⟨e9, h⟩ := hq
  rw [e9]
  exact r_tri (pc := 31) (kd := 0) hC hQ ⟨Nat.le_of_ble_eq_true rfl, Nat.le_of_ble_eq_true rfl⟩ dX9_common_31 hr hk (by decide) (Or.inl rfl) ⟨rfl, h⟩
def wp_Picker_choose (pg_sentenceSigns : (Nat → Int)) (qy_weights : (Nat → Int)) (sr_tooLike : (Nat → Int)) (pg_sentences : Int) (qy_items : Int) (se_budget : Int) (se_most : Int) (se_chosen : Int) (mt_tallies : (Nat → Int64)) (a1 : Int) (Q : Int → Int → Prop) (E : Nat → Int → Prop) : Prop := wp_Picker_requireIndex a1 pg_sentences (wp_Sets_mayJoin pg_sentenceSigns sr_tooLike pg_sentences se_budget se_most se_chosen a1 (fun (r1 : Int) => (¬ r1 = 0 → wp_Sets_worthOfSet qy_weights pg_sentences qy_items mt_tallies (iOr se_chosen (iShl 1 a1)) (fun (r2 : Int) => Q r2 (iOr se_chosen (iShl 1 a1)))) ∧ (r1 = 0 → E 4 se_chosen))) (fun (x9 : Nat) => E x9 se_chosen)
set_option maxHeartbeats 4000000 in
set_option maxRecDepth 20000 in
theorem s_Picker_choose (l : Launch) (hl : l.stackTraces = false) (w : St) (a1 : Int) (P : Int → Int → Prop) (E : Nat → Int → Prop) (h : wp_Picker_choose (w.1 13) (w.1 19) (w.1 40) (w.1 3 17) (w.1 18 6) (w.1 37 4) (w.1 37 5) (w.1 37 7) (w.2 33) a1 P E) : Ct l yX9_choose cX9_choose 2 (some .int) 7 2 LX w [aR 0, aI a1] (okI (fun r w1 => ∃ (o0 : Int), w1 = (wI w 37 7 o0) ∧ P r o0)) (fun x w1 => ∃ (o0 : Int), pj w1 0 LX = pj (wI w 37 7 o0) 0 LX ∧ E x o0) := by
  unfold wp_Picker_choose at h
  refine Ct.of [some (aR 0), some (aI a1)] (by decide) (Nat.le_of_ble_eq_true rfl) rfl (fun p e s m args below meth c D cA ad A Q hQ hC hr hk hnt => ?_)
  refine r_iload_n (pc := 0) hC 1 dX9_choose_0 rfl rfl ?_
  refine r_aload_n (pc := 1) hC 0 dX9_choose_1 rfl rfl ?_
  refine r_getr (r := 3) (pc := 2) hC dX9_choose_2 fl_RX9_19 lX_0 rfl ?_
  refine r_get (kd := 0) (v := (w.1 3 17)) (pc := 5) hC dX9_choose_5 fl_RX9_97 lX_3 rfl rfl ?_
  refine r_callTSv (pc := 8) hC [aI a1, aI (w.1 3 17)] [] hQ hk hnt ⟨Nat.le_of_ble_eq_true rfl, Nat.le_of_ble_eq_true rfl⟩ dX9_choose_8 ml_RX9_150 my_X9_requireIndex ms_X9_requireIndex rfl ⟨Nat.le_of_ble_eq_true rfl, Nat.le_of_ble_eq_true rfl⟩ ⟨Nat.le_of_ble_eq_true rfl, Nat.le_of_ble_eq_true rfl⟩ (Nat.le_of_ble_eq_true rfl) rfl (s_Picker_requireIndex l hl _ _ _ _ _ h) (fun x9 w9 hx => ?_) (fun w1 hq => ?_)
  · obtain ⟨e9, h9⟩ := hx
    exact ⟨(w.1 37 7), e9.trans rfl, h9⟩
  obtain ⟨e9, h⟩ := hq
  rw [e9]
  refine r_aload_n (pc := 11) hC 0 dX9_choose_11 rfl rfl ?_
  refine r_getr (r := 37) (pc := 12) hC dX9_choose_12 fl_RX9_63 lX_0 rfl ?_
  refine r_aload_n (pc := 15) hC 0 dX9_choose_15 rfl rfl ?_
  refine r_getr (r := 37) (pc := 16) hC dX9_choose_16 fl_RX9_63 lX_0 rfl ?_
  refine r_get (kd := 0) (v := (w.1 37 7)) (pc := 19) hC dX9_choose_19 fl_RX9_201 lX_37 rfl rfl ?_
  refine r_iload_n (pc := 22) hC 1 dX9_choose_22 rfl rfl ?_
  refine r_callVi (pc := 23) hC [aI (w.1 37 7), aI a1] [] dX9_choose_23 ml_RX9_207 my_X5_mayJoin mi_X5_mayJoin lX_37 rfl rfl ⟨Nat.le_of_ble_eq_true rfl, Nat.le_of_ble_eq_true rfl⟩ ⟨Nat.le_of_ble_eq_true rfl, Nat.le_of_ble_eq_true rfl⟩ (Nat.le_of_ble_eq_true rfl) rfl (s_Sets_mayJoin l _ _ _ _ h) (fun r1 w1 hq => ?_)
  obtain ⟨e9, h⟩ := hq
  rw [e9]
  refine r_if_ne (pc := 26) (tgt := 40) hC dX9_choose_26 rfl (fun hc1 => ?_) (fun hc1 => ?_)
  · have h := h.1 hc1
    refine r_aload_n (pc := 40) hC 0 dX9_choose_40 rfl rfl ?_
    refine r_getr (r := 37) (pc := 41) hC dX9_choose_41 fl_RX9_63 lX_0 rfl ?_
    refine r_dup (pc := 44) hC dX9_choose_44 rfl ?_
    refine r_get (kd := 0) (v := (w.1 37 7)) (pc := 45) hC dX9_choose_45 fl_RX9_201 lX_37 rfl rfl ?_
    refine r_iconst (pc := 48) hC dX9_choose_48 (rng_lit rfl) ?_
    refine r_iload_n (pc := 49) hC 1 dX9_choose_49 rfl rfl ?_
    refine r_ishl (pc := 50) hC dX9_choose_50 ?_
    refine r_ior (pc := 51) hC dX9_choose_51 ?_
    refine r_put (kd := 0) (pc := 52) hC dX9_choose_52 pl_RX9_201 lX_37 rfl (by decide) (Or.inl rfl) ?_
    refine r_aload_n (pc := 55) hC 0 dX9_choose_55 rfl rfl ?_
    refine r_getr (r := 37) (pc := 56) hC dX9_choose_56 fl_RX9_63 lX_0 rfl ?_
    refine r_aload_n (pc := 59) hC 0 dX9_choose_59 rfl rfl ?_
    refine r_getr (r := 37) (pc := 60) hC dX9_choose_60 fl_RX9_63 lX_0 rfl ?_
    refine r_get (kd := 0) (v := (iOr (w.1 37 7) (iShl 1 a1))) (pc := 63) hC dX9_choose_63 fl_RX9_201 lX_37 rfl rfl ?_
    refine r_callVi (pc := 66) hC [aI (iOr (w.1 37 7) (iShl 1 a1))] [] dX9_choose_66 ml_RX9_285 my_X5_worthOfSet mi_X5_worthOfSet lX_37 rfl rfl ⟨Nat.le_of_ble_eq_true rfl, Nat.le_of_ble_eq_true rfl⟩ ⟨Nat.le_of_ble_eq_true rfl, Nat.le_of_ble_eq_true rfl⟩ (Nat.le_of_ble_eq_true rfl) rfl (s_Sets_worthOfSet l _ _ _ h) (fun r2 w1 hq => ?_)
    obtain ⟨e9, h⟩ := hq
    rw [e9]
    refine r_conv (w2 := (wI w 37 7 (iOr (w.1 37 7) (iShl 1 a1)))) rfl ?_
    exact r_tri (pc := 69) (kd := 0) hC hQ ⟨Nat.le_of_ble_eq_true rfl, Nat.le_of_ble_eq_true rfl⟩ dX9_choose_69 hr hk (by decide) (Or.inl rfl) ⟨(iOr (w.1 37 7) (iShl 1 a1)), rfl, h⟩
  have h := h.2 hc1
  exact r_thrW (j := 8) 4 ["java/lang/RuntimeException", "java/lang/Exception"] hC hl hQ hk hnt tw_RX9_312_316 rfl ⟨rfl, rfl⟩ dX9_choose_29 dX9_choose_32 dX9_choose_33 dX9_choose_36 dX9_choose_39 ⟨Nat.le_of_ble_eq_true rfl, Nat.le_of_ble_eq_true rfl⟩ ⟨Nat.le_of_ble_eq_true rfl, Nat.le_of_ble_eq_true rfl⟩ ⟨Nat.le_of_ble_eq_true rfl, Nat.le_of_ble_eq_true rfl⟩ ⟨(w.1 37 7), rfl, h⟩
def wp_Picker_drop (qy_weights : (Nat → Int)) (pg_sentences : Int) (qy_items : Int) (se_chosen : Int) (mt_tallies : (Nat → Int64)) (a1 : Int) (Q : Int → Int → Prop) (E : Nat → Int → Prop) : Prop := wp_Picker_requireIndex a1 pg_sentences (wp_Picker_has se_chosen a1 (fun (r1 : Int) => (¬ r1 = 0 → wp_Sets_worthOfSet qy_weights pg_sentences qy_items mt_tallies (iAnd se_chosen (iXor (iShl 1 a1) (-1))) (fun (r2 : Int) => Q r2 (iAnd se_chosen (iXor (iShl 1 a1) (-1))))) ∧ (r1 = 0 → E 4 se_chosen))) (fun (x9 : Nat) => E x9 se_chosen)
set_option maxHeartbeats 4000000 in
set_option maxRecDepth 20000 in
theorem s_Picker_drop (l : Launch) (hl : l.stackTraces = false) (w : St) (a1 : Int) (P : Int → Int → Prop) (E : Nat → Int → Prop) (h : wp_Picker_drop (w.1 19) (w.1 3 17) (w.1 18 6) (w.1 37 7) (w.2 33) a1 P E) : Ct l yX9_drop cX9_drop 2 (some .int) 7 2 LX w [aR 0, aI a1] (okI (fun r w1 => ∃ (o0 : Int), w1 = (wI w 37 7 o0) ∧ P r o0)) (fun x w1 => ∃ (o0 : Int), pj w1 0 LX = pj (wI w 37 7 o0) 0 LX ∧ E x o0) := by
  unfold wp_Picker_drop at h
  refine Ct.of [some (aR 0), some (aI a1)] (by decide) (Nat.le_of_ble_eq_true rfl) rfl (fun p e s m args below meth c D cA ad A Q hQ hC hr hk hnt => ?_)
  refine r_iload_n (pc := 0) hC 1 dX9_drop_0 rfl rfl ?_
  refine r_aload_n (pc := 1) hC 0 dX9_drop_1 rfl rfl ?_
  refine r_getr (r := 3) (pc := 2) hC dX9_drop_2 fl_RX9_19 lX_0 rfl ?_
  refine r_get (kd := 0) (v := (w.1 3 17)) (pc := 5) hC dX9_drop_5 fl_RX9_97 lX_3 rfl rfl ?_
  refine r_callTSv (pc := 8) hC [aI a1, aI (w.1 3 17)] [] hQ hk hnt ⟨Nat.le_of_ble_eq_true rfl, Nat.le_of_ble_eq_true rfl⟩ dX9_drop_8 ml_RX9_150 my_X9_requireIndex ms_X9_requireIndex rfl ⟨Nat.le_of_ble_eq_true rfl, Nat.le_of_ble_eq_true rfl⟩ ⟨Nat.le_of_ble_eq_true rfl, Nat.le_of_ble_eq_true rfl⟩ (Nat.le_of_ble_eq_true rfl) rfl (s_Picker_requireIndex l hl _ _ _ _ _ h) (fun x9 w9 hx => ?_) (fun w1 hq => ?_)
  · obtain ⟨e9, h9⟩ := hx
    exact ⟨(w.1 37 7), e9.trans rfl, h9⟩
  obtain ⟨e9, h⟩ := hq
  rw [e9]
  refine r_aload_n (pc := 11) hC 0 dX9_drop_11 rfl rfl ?_
  refine r_getr (r := 37) (pc := 12) hC dX9_drop_12 fl_RX9_63 lX_0 rfl ?_
  refine r_get (kd := 0) (v := (w.1 37 7)) (pc := 15) hC dX9_drop_15 fl_RX9_201 lX_37 rfl rfl ?_
  refine r_iload_n (pc := 18) hC 1 dX9_drop_18 rfl rfl ?_
  refine r_callSi (pc := 19) hC [aI (w.1 37 7), aI a1] [] dX9_drop_19 ml_RX9_317 my_X9_has ms_X9_has rfl ⟨Nat.le_of_ble_eq_true rfl, Nat.le_of_ble_eq_true rfl⟩ ⟨Nat.le_of_ble_eq_true rfl, Nat.le_of_ble_eq_true rfl⟩ (Nat.le_of_ble_eq_true rfl) rfl (s_Picker_has l _ _ _ _ h) (fun r1 w1 hq => ?_)
  obtain ⟨e9, h⟩ := hq
  rw [e9]
  refine r_if_ne (pc := 22) (tgt := 36) hC dX9_drop_22 rfl (fun hc1 => ?_) (fun hc1 => ?_)
  · have h := h.1 hc1
    refine r_aload_n (pc := 36) hC 0 dX9_drop_36 rfl rfl ?_
    refine r_getr (r := 37) (pc := 37) hC dX9_drop_37 fl_RX9_63 lX_0 rfl ?_
    refine r_dup (pc := 40) hC dX9_drop_40 rfl ?_
    refine r_get (kd := 0) (v := (w.1 37 7)) (pc := 41) hC dX9_drop_41 fl_RX9_201 lX_37 rfl rfl ?_
    refine r_iconst (pc := 44) hC dX9_drop_44 (rng_lit rfl) ?_
    refine r_iload_n (pc := 45) hC 1 dX9_drop_45 rfl rfl ?_
    refine r_ishl (pc := 46) hC dX9_drop_46 ?_
    refine r_iconst (pc := 47) hC dX9_drop_47 (rng_lit rfl) ?_
    refine r_ixor (pc := 48) hC dX9_drop_48 ?_
    refine r_iand (pc := 49) hC dX9_drop_49 ?_
    refine r_put (kd := 0) (pc := 50) hC dX9_drop_50 pl_RX9_201 lX_37 rfl (by decide) (Or.inl rfl) ?_
    refine r_aload_n (pc := 53) hC 0 dX9_drop_53 rfl rfl ?_
    refine r_getr (r := 37) (pc := 54) hC dX9_drop_54 fl_RX9_63 lX_0 rfl ?_
    refine r_aload_n (pc := 57) hC 0 dX9_drop_57 rfl rfl ?_
    refine r_getr (r := 37) (pc := 58) hC dX9_drop_58 fl_RX9_63 lX_0 rfl ?_
    refine r_get (kd := 0) (v := (iAnd (w.1 37 7) (iXor (iShl 1 a1) (-1)))) (pc := 61) hC dX9_drop_61 fl_RX9_201 lX_37 rfl rfl ?_
    refine r_callVi (pc := 64) hC [aI (iAnd (w.1 37 7) (iXor (iShl 1 a1) (-1)))] [] dX9_drop_64 ml_RX9_285 my_X5_worthOfSet mi_X5_worthOfSet lX_37 rfl rfl ⟨Nat.le_of_ble_eq_true rfl, Nat.le_of_ble_eq_true rfl⟩ ⟨Nat.le_of_ble_eq_true rfl, Nat.le_of_ble_eq_true rfl⟩ (Nat.le_of_ble_eq_true rfl) rfl (s_Sets_worthOfSet l _ _ _ h) (fun r2 w1 hq => ?_)
    obtain ⟨e9, h⟩ := hq
    rw [e9]
    refine r_conv (w2 := (wI w 37 7 (iAnd (w.1 37 7) (iXor (iShl 1 a1) (-1))))) rfl ?_
    exact r_tri (pc := 67) (kd := 0) hC hQ ⟨Nat.le_of_ble_eq_true rfl, Nat.le_of_ble_eq_true rfl⟩ dX9_drop_67 hr hk (by decide) (Or.inl rfl) ⟨(iAnd (w.1 37 7) (iXor (iShl 1 a1) (-1))), rfl, h⟩
  have h := h.2 hc1
  exact r_thrW (j := 9) 4 ["java/lang/RuntimeException", "java/lang/Exception"] hC hl hQ hk hnt tw_RX9_312_316 rfl ⟨rfl, rfl⟩ dX9_drop_25 dX9_drop_28 dX9_drop_29 dX9_drop_32 dX9_drop_35 ⟨Nat.le_of_ble_eq_true rfl, Nat.le_of_ble_eq_true rfl⟩ ⟨Nat.le_of_ble_eq_true rfl, Nat.le_of_ble_eq_true rfl⟩ ⟨Nat.le_of_ble_eq_true rfl, Nat.le_of_ble_eq_true rfl⟩ ⟨(w.1 37 7), rfl, h⟩
def wp_Picker_exchange (pg_sentenceSigns : (Nat → Int)) (qy_weights : (Nat → Int)) (sr_tooLike : (Nat → Int)) (pg_sentences : Int) (qy_items : Int) (se_budget : Int) (se_most : Int) (se_chosen : Int) (se_leaving : Int) (se_coming : Int) (se_surplus : Int) (mt_tallies : (Nat → Int64)) (a1 : Int) (Q : Int → Int → Int → Int → Prop) (E : Nat → Int → Int → Int → Prop) : Prop := wp_Picker_requireWhat a1 2 (wp_Sets_seekExchange pg_sentenceSigns qy_weights sr_tooLike pg_sentences qy_items se_budget se_most se_chosen se_leaving se_coming se_surplus mt_tallies (fun (se_leaving_1 : Int) (se_coming_2 : Int) (se_surplus_3 : Int) => (a1 = 0 → Q se_leaving_1 se_leaving_1 se_coming_2 se_surplus_3) ∧ (¬ a1 = 0 → (a1 = 1 → Q se_coming_2 se_leaving_1 se_coming_2 se_surplus_3) ∧ (¬ a1 = 1 → Q se_surplus_3 se_leaving_1 se_coming_2 se_surplus_3)))) (fun (x9 : Nat) => E x9 se_leaving se_coming se_surplus)
set_option maxHeartbeats 4000000 in
set_option maxRecDepth 20000 in
theorem s_Picker_exchange (l : Launch) (hl : l.stackTraces = false) (w : St) (a1 : Int) (P : Int → Int → Int → Int → Prop) (E : Nat → Int → Int → Int → Prop) (h : wp_Picker_exchange (w.1 13) (w.1 19) (w.1 40) (w.1 3 17) (w.1 18 6) (w.1 37 4) (w.1 37 5) (w.1 37 7) (w.1 37 12) (w.1 37 13) (w.1 37 14) (w.2 33) a1 P E) : Ct l yX9_exchange cX9_exchange 2 (some .int) 7 1 LX w [aR 0, aI a1] (okI (fun r w1 => ∃ (o0 : Int) (o1 : Int) (o2 : Int), w1 = (wI (wI (wI w 37 12 o0) 37 13 o1) 37 14 o2) ∧ P r o0 o1 o2)) (fun x w1 => ∃ (o0 : Int) (o1 : Int) (o2 : Int), pj w1 0 LX = pj (wI (wI (wI w 37 12 o0) 37 13 o1) 37 14 o2) 0 LX ∧ E x o0 o1 o2) := by
  unfold wp_Picker_exchange at h
  refine Ct.of [some (aR 0), some (aI a1)] (by decide) (Nat.le_of_ble_eq_true rfl) rfl (fun p e s m args below meth c D cA ad A Q hQ hC hr hk hnt => ?_)
  refine r_iload_n (pc := 0) hC 1 dX9_exchange_0 rfl rfl ?_
  refine r_iconst (pc := 1) hC dX9_exchange_1 (rng_lit rfl) ?_
  refine r_callTSv (pc := 2) hC [aI a1, aI 2] [] hQ hk hnt ⟨Nat.le_of_ble_eq_true rfl, Nat.le_of_ble_eq_true rfl⟩ dX9_exchange_2 ml_RX9_118 my_X9_requireWhat ms_X9_requireWhat rfl ⟨Nat.le_of_ble_eq_true rfl, Nat.le_of_ble_eq_true rfl⟩ ⟨Nat.le_of_ble_eq_true rfl, Nat.le_of_ble_eq_true rfl⟩ (Nat.le_of_ble_eq_true rfl) rfl (s_Picker_requireWhat l hl _ _ _ _ _ h) (fun x9 w9 hx => ?_) (fun w1 hq => ?_)
  · obtain ⟨e9, h9⟩ := hx
    exact ⟨(w.1 37 12), (w.1 37 13), (w.1 37 14), e9.trans rfl, h9⟩
  obtain ⟨e9, h⟩ := hq
  rw [e9]
  refine r_aload_n (pc := 5) hC 0 dX9_exchange_5 rfl rfl ?_
  refine r_getr (r := 37) (pc := 6) hC dX9_exchange_6 fl_RX9_63 lX_0 rfl ?_
  refine r_callVv (pc := 9) hC [] [] dX9_exchange_9 ml_RX9_322 my_X5_seekExchange mi_X5_seekExchange lX_37 rfl rfl ⟨Nat.le_of_ble_eq_true rfl, Nat.le_of_ble_eq_true rfl⟩ ⟨Nat.le_of_ble_eq_true rfl, Nat.le_of_ble_eq_true rfl⟩ (Nat.le_of_ble_eq_true rfl) rfl (s_Sets_seekExchange l _ _ h) (fun w1 hq => ?_)
  obtain ⟨se_leaving_1, se_coming_2, se_surplus_3, e9, h⟩ := hq
  rw [e9]
  refine r_iload_n (pc := 12) hC 1 dX9_exchange_12 rfl rfl ?_
  by_cases hc1 : a1 = 0
  · refine r_lkp (pc := 13) (tgt := 40) hC dX9_exchange_13 (by decide) (by rw [hc1]; try rfl) rfl ?_
    have h := h.1 hc1
    refine r_aload_n (pc := 40) hC 0 dX9_exchange_40 rfl rfl ?_
    refine r_getr (r := 37) (pc := 41) hC dX9_exchange_41 fl_RX9_63 lX_0 rfl ?_
    refine r_get (kd := 0) (v := se_leaving_1) (pc := 44) hC dX9_exchange_44 fl_RX9_325 lX_37 rfl rfl ?_
    refine r_conv (w2 := (wI (wI (wI w 37 12 se_leaving_1) 37 13 se_coming_2) 37 14 se_surplus_3)) rfl ?_
    exact r_tri (pc := 47) (kd := 0) hC hQ ⟨Nat.le_of_ble_eq_true rfl, Nat.le_of_ble_eq_true rfl⟩ dX9_exchange_47 hr hk (by decide) (Or.inl rfl) ⟨se_leaving_1, se_coming_2, se_surplus_3, rfl, h⟩
  have h := h.2 hc1
  by_cases hc2 : a1 = 1
  · refine r_lkp (pc := 13) (tgt := 48) hC dX9_exchange_13 (by decide) (by rw [hc2]; try rfl) rfl ?_
    have h := h.1 hc2
    refine r_aload_n (pc := 48) hC 0 dX9_exchange_48 rfl rfl ?_
    refine r_getr (r := 37) (pc := 49) hC dX9_exchange_49 fl_RX9_63 lX_0 rfl ?_
    refine r_get (kd := 0) (v := se_coming_2) (pc := 52) hC dX9_exchange_52 fl_RX9_328 lX_37 rfl rfl ?_
    refine r_conv (w2 := (wI (wI (wI w 37 12 se_leaving_1) 37 13 se_coming_2) 37 14 se_surplus_3)) rfl ?_
    exact r_tri (pc := 55) (kd := 0) hC hQ ⟨Nat.le_of_ble_eq_true rfl, Nat.le_of_ble_eq_true rfl⟩ dX9_exchange_55 hr hk (by decide) (Or.inl rfl) ⟨se_leaving_1, se_coming_2, se_surplus_3, rfl, h⟩
  have h := h.2 hc2
  refine r_lkp (pc := 13) (tgt := 56) hC dX9_exchange_13 (by decide) (by simp only [Array.toList]; rw [Op.lookupswitch.offset_cons, if_neg (fun q9 => hc1 q9.symm), Op.lookupswitch.offset_cons, if_neg (fun q9 => hc2 q9.symm)]; try rfl) rfl ?_
  refine r_aload_n (pc := 56) hC 0 dX9_exchange_56 rfl rfl ?_
  refine r_getr (r := 37) (pc := 57) hC dX9_exchange_57 fl_RX9_63 lX_0 rfl ?_
  refine r_get (kd := 0) (v := se_surplus_3) (pc := 60) hC dX9_exchange_60 fl_RX9_331 lX_37 rfl rfl ?_
  refine r_conv (w2 := (wI (wI (wI w 37 12 se_leaving_1) 37 13 se_coming_2) 37 14 se_surplus_3)) rfl ?_
  exact r_tri (pc := 63) (kd := 0) hC hQ ⟨Nat.le_of_ble_eq_true rfl, Nat.le_of_ble_eq_true rfl⟩ dX9_exchange_63 hr hk (by decide) (Or.inl rfl) ⟨se_leaving_1, se_coming_2, se_surplus_3, rfl, h⟩
def wp_Picker_trade (pg_sentenceSigns : (Nat → Int)) (qy_weights : (Nat → Int)) (sr_tooLike : (Nat → Int)) (pg_sentences : Int) (qy_items : Int) (se_budget : Int) (se_most : Int) (se_chosen : Int) (se_leaving : Int) (se_coming : Int) (se_surplus : Int) (mt_tallies : (Nat → Int64)) (Q : Int → Int → Int → Int → Int → Prop) (E : Nat → Int → Int → Int → Int → Prop) : Prop := wp_Sets_seekExchange pg_sentenceSigns qy_weights sr_tooLike pg_sentences qy_items se_budget se_most se_chosen se_leaving se_coming se_surplus mt_tallies (fun (se_leaving_1 : Int) (se_coming_2 : Int) (se_surplus_3 : Int) => (¬ se_leaving_1 = (-1) → wp_Sets_exchanged se_chosen se_leaving_1 se_coming_2 (fun (r4 : Int) => wp_Sets_worthOfSet qy_weights pg_sentences qy_items mt_tallies r4 (fun (r5 : Int) => Q r5 r4 se_leaving_1 se_coming_2 se_surplus_3))) ∧ (se_leaving_1 = (-1) → E 4 se_chosen se_leaving_1 se_coming_2 se_surplus_3))
set_option maxHeartbeats 4000000 in
set_option maxRecDepth 20000 in
theorem s_Picker_trade (l : Launch) (hl : l.stackTraces = false) (w : St) (P : Int → Int → Int → Int → Int → Prop) (E : Nat → Int → Int → Int → Int → Prop) (h : wp_Picker_trade (w.1 13) (w.1 19) (w.1 40) (w.1 3 17) (w.1 18 6) (w.1 37 4) (w.1 37 5) (w.1 37 7) (w.1 37 12) (w.1 37 13) (w.1 37 14) (w.2 33) P E) : Ct l yX9_trade cX9_trade 1 (some .int) 6 1 LX w [aR 0] (okI (fun r w1 => ∃ (o0 : Int) (o1 : Int) (o2 : Int) (o3 : Int), w1 = (wI (wI (wI (wI w 37 7 o0) 37 12 o1) 37 13 o2) 37 14 o3) ∧ P r o0 o1 o2 o3)) (fun x w1 => ∃ (o0 : Int) (o1 : Int) (o2 : Int) (o3 : Int), pj w1 0 LX = pj (wI (wI (wI (wI w 37 7 o0) 37 12 o1) 37 13 o2) 37 14 o3) 0 LX ∧ E x o0 o1 o2 o3) := by
  unfold wp_Picker_trade at h
  refine Ct.of [some (aR 0)] (by decide) (Nat.le_of_ble_eq_true rfl) rfl (fun p e s m args below meth c D cA ad A Q hQ hC hr hk hnt => ?_)
  refine r_aload_n (pc := 0) hC 0 dX9_trade_0 rfl rfl ?_
  refine r_getr (r := 37) (pc := 1) hC dX9_trade_1 fl_RX9_63 lX_0 rfl ?_
  refine r_callVv (pc := 4) hC [] [] dX9_trade_4 ml_RX9_322 my_X5_seekExchange mi_X5_seekExchange lX_37 rfl rfl ⟨Nat.le_of_ble_eq_true rfl, Nat.le_of_ble_eq_true rfl⟩ ⟨Nat.le_of_ble_eq_true rfl, Nat.le_of_ble_eq_true rfl⟩ (Nat.le_of_ble_eq_true rfl) rfl (s_Sets_seekExchange l _ _ h) (fun w1 hq => ?_)
  obtain ⟨se_leaving_1, se_coming_2, se_surplus_3, e9, h⟩ := hq
  rw [e9]
  refine r_aload_n (pc := 7) hC 0 dX9_trade_7 rfl rfl ?_
  refine r_getr (r := 37) (pc := 8) hC dX9_trade_8 fl_RX9_63 lX_0 rfl ?_
  refine r_get (kd := 0) (v := se_leaving_1) (pc := 11) hC dX9_trade_11 fl_RX9_325 lX_37 rfl rfl ?_
  refine r_iconst (pc := 14) hC dX9_trade_14 (rng_lit rfl) ?_
  refine r_ic_ne (pc := 15) (tgt := 29) hC dX9_trade_15 rfl (fun hc1 => ?_) (fun hc1 => ?_)
  · have h := h.1 hc1
    refine r_aload_n (pc := 29) hC 0 dX9_trade_29 rfl rfl ?_
    refine r_getr (r := 37) (pc := 30) hC dX9_trade_30 fl_RX9_63 lX_0 rfl ?_
    refine r_aload_n (pc := 33) hC 0 dX9_trade_33 rfl rfl ?_
    refine r_getr (r := 37) (pc := 34) hC dX9_trade_34 fl_RX9_63 lX_0 rfl ?_
    refine r_aload_n (pc := 37) hC 0 dX9_trade_37 rfl rfl ?_
    refine r_getr (r := 37) (pc := 38) hC dX9_trade_38 fl_RX9_63 lX_0 rfl ?_
    refine r_get (kd := 0) (v := se_leaving_1) (pc := 41) hC dX9_trade_41 fl_RX9_325 lX_37 rfl rfl ?_
    refine r_aload_n (pc := 44) hC 0 dX9_trade_44 rfl rfl ?_
    refine r_getr (r := 37) (pc := 45) hC dX9_trade_45 fl_RX9_63 lX_0 rfl ?_
    refine r_get (kd := 0) (v := se_coming_2) (pc := 48) hC dX9_trade_48 fl_RX9_328 lX_37 rfl rfl ?_
    refine r_callVi (pc := 51) hC [aI se_leaving_1, aI se_coming_2] [aR 37] dX9_trade_51 ml_RX9_336 my_X5_exchanged mi_X5_exchanged lX_37 rfl rfl ⟨Nat.le_of_ble_eq_true rfl, Nat.le_of_ble_eq_true rfl⟩ ⟨Nat.le_of_ble_eq_true rfl, Nat.le_of_ble_eq_true rfl⟩ (Nat.le_of_ble_eq_true rfl) rfl (s_Sets_exchanged l _ _ _ _ h) (fun r4 w1 hq => ?_)
    obtain ⟨e9, h⟩ := hq
    rw [e9]
    refine r_put (kd := 0) (pc := 54) hC dX9_trade_54 pl_RX9_201 lX_37 rfl (by decide) (Or.inl rfl) ?_
    refine r_aload_n (pc := 57) hC 0 dX9_trade_57 rfl rfl ?_
    refine r_getr (r := 37) (pc := 58) hC dX9_trade_58 fl_RX9_63 lX_0 rfl ?_
    refine r_aload_n (pc := 61) hC 0 dX9_trade_61 rfl rfl ?_
    refine r_getr (r := 37) (pc := 62) hC dX9_trade_62 fl_RX9_63 lX_0 rfl ?_
    refine r_get (kd := 0) (v := r4) (pc := 65) hC dX9_trade_65 fl_RX9_201 lX_37 rfl rfl ?_
    refine r_callVi (pc := 68) hC [aI r4] [] dX9_trade_68 ml_RX9_285 my_X5_worthOfSet mi_X5_worthOfSet lX_37 rfl rfl ⟨Nat.le_of_ble_eq_true rfl, Nat.le_of_ble_eq_true rfl⟩ ⟨Nat.le_of_ble_eq_true rfl, Nat.le_of_ble_eq_true rfl⟩ (Nat.le_of_ble_eq_true rfl) rfl (s_Sets_worthOfSet l _ _ _ h) (fun r5 w1 hq => ?_)
    obtain ⟨e9, h⟩ := hq
    rw [e9]
    refine r_conv (w2 := (wI (wI (wI (wI w 37 7 r4) 37 12 se_leaving_1) 37 13 se_coming_2) 37 14 se_surplus_3)) rfl ?_
    exact r_tri (pc := 71) (kd := 0) hC hQ ⟨Nat.le_of_ble_eq_true rfl, Nat.le_of_ble_eq_true rfl⟩ dX9_trade_71 hr hk (by decide) (Or.inl rfl) ⟨r4, se_leaving_1, se_coming_2, se_surplus_3, rfl, h⟩
  have h := h.2 hc1
  exact r_thrW (j := 10) 4 ["java/lang/RuntimeException", "java/lang/Exception"] hC hl hQ hk hnt tw_RX9_312_316 rfl ⟨rfl, rfl⟩ dX9_trade_18 dX9_trade_21 dX9_trade_22 dX9_trade_25 dX9_trade_28 ⟨Nat.le_of_ble_eq_true rfl, Nat.le_of_ble_eq_true rfl⟩ ⟨Nat.le_of_ble_eq_true rfl, Nat.le_of_ble_eq_true rfl⟩ ⟨Nat.le_of_ble_eq_true rfl, Nat.le_of_ble_eq_true rfl⟩ ⟨(w.1 37 7), se_leaving_1, se_coming_2, se_surplus_3, rfl, h⟩
def wp_Picker_need (pg_sentenceSigns : (Nat → Int)) (qy_weights : (Nat → Int)) (sr_tooLike : (Nat → Int)) (pg_sentences : Int) (qy_items : Int) (se_most : Int) (sr_most : Int) (sr_room : Int) (sr_enough : Int) (sr_topSet : Int) (sr_topWorth : Int) (sr_topLength : Int) (mt_tallies : (Nat → Int64)) (a1 : Int) (Q : Int → Int → Int → Int → Int → Int → Int → Prop) (E : Nat → Int → Int → Int → Int → Int → Int → Prop) : Prop := wp_Picker_requireNumber a1 1 1008 (wp_Sets_leastBudgetFor pg_sentenceSigns qy_weights sr_tooLike pg_sentences qy_items se_most sr_most sr_room sr_enough sr_topSet sr_topWorth sr_topLength mt_tallies a1 (fun (r1 : Int) (sr_most_2 : Int) (sr_room_3 : Int) (sr_enough_4 : Int) (sr_topSet_5 : Int) (sr_topWorth_6 : Int) (sr_topLength_7 : Int) => Q r1 sr_most_2 sr_room_3 sr_enough_4 sr_topSet_5 sr_topWorth_6 sr_topLength_7)) (fun (x9 : Nat) => E x9 sr_most sr_room sr_enough sr_topSet sr_topWorth sr_topLength)
set_option maxHeartbeats 4000000 in
set_option maxRecDepth 20000 in
theorem s_Picker_need (l : Launch) (hl : l.stackTraces = false) (w : St) (a1 : Int) (P : Int → Int → Int → Int → Int → Int → Int → Prop) (E : Nat → Int → Int → Int → Int → Int → Int → Prop) (h : wp_Picker_need (w.1 13) (w.1 19) (w.1 40) (w.1 3 17) (w.1 18 6) (w.1 37 5) (w.1 39 4) (w.1 39 5) (w.1 39 6) (w.1 39 7) (w.1 39 8) (w.1 39 9) (w.2 33) a1 P E) : Ct l yX9_need cX9_need 2 (some .int) 12 1 LX w [aR 0, aI a1] (okI (fun r w1 => ∃ (o0 : Int) (o1 : Int) (o2 : Int) (o3 : Int) (o4 : Int) (o5 : Int), w1 = (wI (wI (wI (wI (wI (wI w 39 4 o0) 39 5 o1) 39 6 o2) 39 7 o3) 39 8 o4) 39 9 o5) ∧ P r o0 o1 o2 o3 o4 o5)) (fun x w1 => ∃ (o0 : Int) (o1 : Int) (o2 : Int) (o3 : Int) (o4 : Int) (o5 : Int), pj w1 0 LX = pj (wI (wI (wI (wI (wI (wI w 39 4 o0) 39 5 o1) 39 6 o2) 39 7 o3) 39 8 o4) 39 9 o5) 0 LX ∧ E x o0 o1 o2 o3 o4 o5) := by
  unfold wp_Picker_need at h
  refine Ct.of [some (aR 0), some (aI a1)] (by decide) (Nat.le_of_ble_eq_true rfl) rfl (fun p e s m args below meth c D cA ad A Q hQ hC hr hk hnt => ?_)
  refine r_iload_n (pc := 0) hC 1 dX9_need_0 rfl rfl ?_
  refine r_iconst (pc := 1) hC dX9_need_1 (rng_lit rfl) ?_
  refine r_sipush (pc := 2) hC dX9_need_2 ⟨rfl, rng_lit rfl⟩ ?_
  refine r_callTSv (pc := 5) hC [aI a1, aI 1, aI 1008] [] hQ hk hnt ⟨Nat.le_of_ble_eq_true rfl, Nat.le_of_ble_eq_true rfl⟩ dX9_need_5 ml_RX9_126 my_X9_requireNumber ms_X9_requireNumber rfl ⟨Nat.le_of_ble_eq_true rfl, Nat.le_of_ble_eq_true rfl⟩ ⟨Nat.le_of_ble_eq_true rfl, Nat.le_of_ble_eq_true rfl⟩ (Nat.le_of_ble_eq_true rfl) rfl (s_Picker_requireNumber l hl _ _ _ _ _ _ h) (fun x9 w9 hx => ?_) (fun w1 hq => ?_)
  · obtain ⟨e9, h9⟩ := hx
    exact ⟨(w.1 39 4), (w.1 39 5), (w.1 39 6), (w.1 39 7), (w.1 39 8), (w.1 39 9), e9.trans rfl, h9⟩
  obtain ⟨e9, h⟩ := hq
  rw [e9]
  refine r_aload_n (pc := 8) hC 0 dX9_need_8 rfl rfl ?_
  refine r_getr (r := 37) (pc := 9) hC dX9_need_9 fl_RX9_63 lX_0 rfl ?_
  refine r_iload_n (pc := 12) hC 1 dX9_need_12 rfl rfl ?_
  refine r_callVi (pc := 13) hC [aI a1] [] dX9_need_13 ml_RX9_342 my_X5_leastBudgetFor mi_X5_leastBudgetFor lX_37 rfl rfl ⟨Nat.le_of_ble_eq_true rfl, Nat.le_of_ble_eq_true rfl⟩ ⟨Nat.le_of_ble_eq_true rfl, Nat.le_of_ble_eq_true rfl⟩ (Nat.le_of_ble_eq_true rfl) rfl (s_Sets_leastBudgetFor l _ _ _ h) (fun r1 w1 hq => ?_)
  obtain ⟨sr_most_2, sr_room_3, sr_enough_4, sr_topSet_5, sr_topWorth_6, sr_topLength_7, e9, h⟩ := hq
  rw [e9]
  refine r_conv (w2 := (wI (wI (wI (wI (wI (wI w 39 4 sr_most_2) 39 5 sr_room_3) 39 6 sr_enough_4) 39 7 sr_topSet_5) 39 8 sr_topWorth_6) 39 9 sr_topLength_7)) rfl ?_
  exact r_tri (pc := 16) (kd := 0) hC hQ ⟨Nat.le_of_ble_eq_true rfl, Nat.le_of_ble_eq_true rfl⟩ dX9_need_16 hr hk (by decide) (Or.inl rfl) ⟨sr_most_2, sr_room_3, sr_enough_4, sr_topSet_5, sr_topWorth_6, sr_topLength_7, rfl, h⟩
def wp_Picker_loss (pg_sentenceSigns : (Nat → Int)) (qy_weights : (Nat → Int)) (sr_tooLike : (Nat → Int)) (pg_sentences : Int) (qy_items : Int) (se_budget : Int) (se_most : Int) (se_bestKnown : Int) (se_best : Int) (sr_most : Int) (sr_room : Int) (sr_enough : Int) (sr_topSet : Int) (sr_topWorth : Int) (sr_topLength : Int) (mt_tallies : (Nat → Int64)) (a1 : Int) (Q : Int → Int → Int → Int → Int → Int → Int → Int → Int → Prop) (E : Nat → Int → Int → Int → Int → Int → Int → Int → Int → Prop) : Prop := wp_Picker_requireIndex a1 pg_sentences (wp_Sets_lossWithout pg_sentenceSigns qy_weights sr_tooLike pg_sentences qy_items se_budget se_most se_bestKnown se_best sr_most sr_room sr_enough sr_topSet sr_topWorth sr_topLength mt_tallies a1 (fun (r1 : Int) (se_bestKnown_2 : Int) (se_best_3 : Int) (sr_most_4 : Int) (sr_room_5 : Int) (sr_enough_6 : Int) (sr_topSet_7 : Int) (sr_topWorth_8 : Int) (sr_topLength_9 : Int) => Q r1 se_bestKnown_2 se_best_3 sr_most_4 sr_room_5 sr_enough_6 sr_topSet_7 sr_topWorth_8 sr_topLength_9)) (fun (x9 : Nat) => E x9 se_bestKnown se_best sr_most sr_room sr_enough sr_topSet sr_topWorth sr_topLength)
set_option maxHeartbeats 4000000 in
set_option maxRecDepth 20000 in
theorem s_Picker_loss (l : Launch) (hl : l.stackTraces = false) (w : St) (a1 : Int) (P : Int → Int → Int → Int → Int → Int → Int → Int → Int → Prop) (E : Nat → Int → Int → Int → Int → Int → Int → Int → Int → Prop) (h : wp_Picker_loss (w.1 13) (w.1 19) (w.1 40) (w.1 3 17) (w.1 18 6) (w.1 37 4) (w.1 37 5) (w.1 37 10) (w.1 37 11) (w.1 39 4) (w.1 39 5) (w.1 39 6) (w.1 39 7) (w.1 39 8) (w.1 39 9) (w.2 33) a1 P E) : Ct l yX9_loss cX9_loss 2 (some .int) 13 1 LX w [aR 0, aI a1] (okI (fun r w1 => ∃ (o0 : Int) (o1 : Int) (o2 : Int) (o3 : Int) (o4 : Int) (o5 : Int) (o6 : Int) (o7 : Int), w1 = (wI (wI (wI (wI (wI (wI (wI (wI w 37 10 o0) 37 11 o1) 39 4 o2) 39 5 o3) 39 6 o4) 39 7 o5) 39 8 o6) 39 9 o7) ∧ P r o0 o1 o2 o3 o4 o5 o6 o7)) (fun x w1 => ∃ (o0 : Int) (o1 : Int) (o2 : Int) (o3 : Int) (o4 : Int) (o5 : Int) (o6 : Int) (o7 : Int), pj w1 0 LX = pj (wI (wI (wI (wI (wI (wI (wI (wI w 37 10 o0) 37 11 o1) 39 4 o2) 39 5 o3) 39 6 o4) 39 7 o5) 39 8 o6) 39 9 o7) 0 LX ∧ E x o0 o1 o2 o3 o4 o5 o6 o7) := by
  unfold wp_Picker_loss at h
  refine Ct.of [some (aR 0), some (aI a1)] (by decide) (Nat.le_of_ble_eq_true rfl) rfl (fun p e s m args below meth c D cA ad A Q hQ hC hr hk hnt => ?_)
  refine r_iload_n (pc := 0) hC 1 dX9_loss_0 rfl rfl ?_
  refine r_aload_n (pc := 1) hC 0 dX9_loss_1 rfl rfl ?_
  refine r_getr (r := 3) (pc := 2) hC dX9_loss_2 fl_RX9_19 lX_0 rfl ?_
  refine r_get (kd := 0) (v := (w.1 3 17)) (pc := 5) hC dX9_loss_5 fl_RX9_97 lX_3 rfl rfl ?_
  refine r_callTSv (pc := 8) hC [aI a1, aI (w.1 3 17)] [] hQ hk hnt ⟨Nat.le_of_ble_eq_true rfl, Nat.le_of_ble_eq_true rfl⟩ dX9_loss_8 ml_RX9_150 my_X9_requireIndex ms_X9_requireIndex rfl ⟨Nat.le_of_ble_eq_true rfl, Nat.le_of_ble_eq_true rfl⟩ ⟨Nat.le_of_ble_eq_true rfl, Nat.le_of_ble_eq_true rfl⟩ (Nat.le_of_ble_eq_true rfl) rfl (s_Picker_requireIndex l hl _ _ _ _ _ h) (fun x9 w9 hx => ?_) (fun w1 hq => ?_)
  · obtain ⟨e9, h9⟩ := hx
    exact ⟨(w.1 37 10), (w.1 37 11), (w.1 39 4), (w.1 39 5), (w.1 39 6), (w.1 39 7), (w.1 39 8), (w.1 39 9), e9.trans rfl, h9⟩
  obtain ⟨e9, h⟩ := hq
  rw [e9]
  refine r_aload_n (pc := 11) hC 0 dX9_loss_11 rfl rfl ?_
  refine r_getr (r := 37) (pc := 12) hC dX9_loss_12 fl_RX9_63 lX_0 rfl ?_
  refine r_iload_n (pc := 15) hC 1 dX9_loss_15 rfl rfl ?_
  refine r_callVi (pc := 16) hC [aI a1] [] dX9_loss_16 ml_RX9_345 my_X5_lossWithout mi_X5_lossWithout lX_37 rfl rfl ⟨Nat.le_of_ble_eq_true rfl, Nat.le_of_ble_eq_true rfl⟩ ⟨Nat.le_of_ble_eq_true rfl, Nat.le_of_ble_eq_true rfl⟩ (Nat.le_of_ble_eq_true rfl) rfl (s_Sets_lossWithout l _ _ _ h) (fun r1 w1 hq => ?_)
  obtain ⟨se_bestKnown_2, se_best_3, sr_most_4, sr_room_5, sr_enough_6, sr_topSet_7, sr_topWorth_8, sr_topLength_9, e9, h⟩ := hq
  rw [e9]
  refine r_conv (w2 := (wI (wI (wI (wI (wI (wI (wI (wI w 37 10 se_bestKnown_2) 37 11 se_best_3) 39 4 sr_most_4) 39 5 sr_room_5) 39 6 sr_enough_6) 39 7 sr_topSet_7) 39 8 sr_topWorth_8) 39 9 sr_topLength_9)) rfl ?_
  exact r_tri (pc := 19) (kd := 0) hC hQ ⟨Nat.le_of_ble_eq_true rfl, Nat.le_of_ble_eq_true rfl⟩ dX9_loss_19 hr hk (by decide) (Or.inl rfl) ⟨se_bestKnown_2, se_best_3, sr_most_4, sr_room_5, sr_enough_6, sr_topSet_7, sr_topWorth_8, sr_topLength_9, rfl, h⟩
def wp_Picker_quote (pg_bytes : (Nat → Int)) (pg_signAt : (Nat → Int)) (pg_wordBegin : (Nat → Int)) (pg_wordEnd : (Nat → Int)) (pg_wordSentence : (Nat → Int)) (qy_weights : (Nat → Int)) (qy_termCounts : (Nat → Int)) (mt_beginning : (Nat → Int)) (mt_ending : (Nat → Int)) (wr_layers : (Nat → Int)) (wr_bytes : (Nat → Int)) (pg_length : Int) (pg_words : Int) (qy_softItems : Int) (qy_items : Int) (wi_first : Int) (wi_last : Int) (wi_worth : Int) (wi_whole : Int) (wr_length : Int) (wr_strongBegun : Int) (wr_softBegun : Int) (a1 : Int) (Q : Int → (Nat → Int) → (Nat → Int) → Int → Int → Int → Int → Int → Int → Int → Prop) (E : Nat → (Nat → Int) → (Nat → Int) → Int → Int → Int → Int → Int → Int → Int → Prop) : Prop := wp_Picker_requireNumber a1 1 600 (wp_Writer_writeWidest pg_bytes pg_signAt pg_wordBegin pg_wordEnd pg_wordSentence qy_weights qy_termCounts mt_beginning mt_ending wr_layers wr_bytes pg_length pg_words qy_softItems qy_items wi_first wi_last wi_worth wi_whole wr_length wr_strongBegun wr_softBegun a1 (fun (wr_layers_1 : (Nat → Int)) (wr_bytes_2 : (Nat → Int)) (wi_first_3 : Int) (wi_last_4 : Int) (wi_worth_5 : Int) (wi_whole_6 : Int) (wr_length_7 : Int) (wr_strongBegun_8 : Int) (wr_softBegun_9 : Int) => Q wr_length_7 wr_layers_1 wr_bytes_2 wi_first_3 wi_last_4 wi_worth_5 wi_whole_6 wr_length_7 wr_strongBegun_8 wr_softBegun_9)) (fun (x9 : Nat) => E x9 wr_layers wr_bytes wi_first wi_last wi_worth wi_whole wr_length wr_strongBegun wr_softBegun)
set_option maxHeartbeats 4000000 in
set_option maxRecDepth 20000 in
theorem s_Picker_quote (l : Launch) (hl : l.stackTraces = false) (w : St) (a1 : Int) (P : Int → (Nat → Int) → (Nat → Int) → Int → Int → Int → Int → Int → Int → Int → Prop) (E : Nat → (Nat → Int) → (Nat → Int) → Int → Int → Int → Int → Int → Int → Int → Prop) (h : wp_Picker_quote (w.1 4) (w.1 6) (w.1 7) (w.1 8) (w.1 9) (w.1 19) (w.1 20) (w.1 30) (w.1 31) (w.1 42) (w.1 43) (w.1 3 14) (w.1 3 16) (w.1 18 5) (w.1 18 6) (w.1 34 5) (w.1 34 6) (w.1 34 7) (w.1 34 8) (w.1 41 6) (w.1 41 7) (w.1 41 8) a1 P E) : Ct l yX9_quote cX9_quote 2 (some .int) 9 1 LX w [aR 0, aI a1] (okI (fun r w1 => ∃ (o0 : (Nat → Int)) (o1 : (Nat → Int)) (o2 : Int) (o3 : Int) (o4 : Int) (o5 : Int) (o6 : Int) (o7 : Int) (o8 : Int), w1 = (wI (wI (wI (wI (wI (wI (wI (wA (wA w 42 o0) 43 o1) 34 5 o2) 34 6 o3) 34 7 o4) 34 8 o5) 41 6 o6) 41 7 o7) 41 8 o8) ∧ P r o0 o1 o2 o3 o4 o5 o6 o7 o8)) (fun x w1 => ∃ (o0 : (Nat → Int)) (o1 : (Nat → Int)) (o2 : Int) (o3 : Int) (o4 : Int) (o5 : Int) (o6 : Int) (o7 : Int) (o8 : Int), pj w1 0 LX = pj (wI (wI (wI (wI (wI (wI (wI (wA (wA w 42 o0) 43 o1) 34 5 o2) 34 6 o3) 34 7 o4) 34 8 o5) 41 6 o6) 41 7 o7) 41 8 o8) 0 LX ∧ E x o0 o1 o2 o3 o4 o5 o6 o7 o8) := by
  unfold wp_Picker_quote at h
  refine Ct.of [some (aR 0), some (aI a1)] (by decide) (Nat.le_of_ble_eq_true rfl) rfl (fun p e s m args below meth c D cA ad A Q hQ hC hr hk hnt => ?_)
  refine r_iload_n (pc := 0) hC 1 dX9_quote_0 rfl rfl ?_
  refine r_iconst (pc := 1) hC dX9_quote_1 (rng_lit rfl) ?_
  refine r_sipush (pc := 2) hC dX9_quote_2 ⟨rfl, rng_lit rfl⟩ ?_
  refine r_callTSv (pc := 5) hC [aI a1, aI 1, aI 600] [] hQ hk hnt ⟨Nat.le_of_ble_eq_true rfl, Nat.le_of_ble_eq_true rfl⟩ dX9_quote_5 ml_RX9_126 my_X9_requireNumber ms_X9_requireNumber rfl ⟨Nat.le_of_ble_eq_true rfl, Nat.le_of_ble_eq_true rfl⟩ ⟨Nat.le_of_ble_eq_true rfl, Nat.le_of_ble_eq_true rfl⟩ (Nat.le_of_ble_eq_true rfl) rfl (s_Picker_requireNumber l hl _ _ _ _ _ _ h) (fun x9 w9 hx => ?_) (fun w1 hq => ?_)
  · obtain ⟨e9, h9⟩ := hx
    exact ⟨(w.1 42), (w.1 43), (w.1 34 5), (w.1 34 6), (w.1 34 7), (w.1 34 8), (w.1 41 6), (w.1 41 7), (w.1 41 8), e9.trans rfl, h9⟩
  obtain ⟨e9, h⟩ := hq
  rw [e9]
  refine r_aload_n (pc := 8) hC 0 dX9_quote_8 rfl rfl ?_
  refine r_getr (r := 41) (pc := 9) hC dX9_quote_9 fl_RX9_72 lX_0 rfl ?_
  refine r_iload_n (pc := 12) hC 1 dX9_quote_12 rfl rfl ?_
  refine r_callVv (pc := 13) hC [aI a1] [] dX9_quote_13 ml_RX9_348 my_X8_writeWidest mi_X8_writeWidest lX_41 rfl rfl ⟨Nat.le_of_ble_eq_true rfl, Nat.le_of_ble_eq_true rfl⟩ ⟨Nat.le_of_ble_eq_true rfl, Nat.le_of_ble_eq_true rfl⟩ (Nat.le_of_ble_eq_true rfl) rfl (s_Writer_writeWidest l _ _ _ h) (fun w1 hq => ?_)
  obtain ⟨wr_layers_1, wr_bytes_2, wi_first_3, wi_last_4, wi_worth_5, wi_whole_6, wr_length_7, wr_strongBegun_8, wr_softBegun_9, e9, h⟩ := hq
  rw [e9]
  refine r_aload_n (pc := 16) hC 0 dX9_quote_16 rfl rfl ?_
  refine r_getr (r := 41) (pc := 17) hC dX9_quote_17 fl_RX9_72 lX_0 rfl ?_
  refine r_get (kd := 0) (v := wr_length_7) (pc := 20) hC dX9_quote_20 fl_RX9_351 lX_41 rfl rfl ?_
  refine r_conv (w2 := (wI (wI (wI (wI (wI (wI (wI (wA (wA w 42 wr_layers_1) 43 wr_bytes_2) 34 5 wi_first_3) 34 6 wi_last_4) 34 7 wi_worth_5) 34 8 wi_whole_6) 41 6 wr_length_7) 41 7 wr_strongBegun_8) 41 8 wr_softBegun_9)) rfl ?_
  exact r_tri (pc := 23) (kd := 0) hC hQ ⟨Nat.le_of_ble_eq_true rfl, Nat.le_of_ble_eq_true rfl⟩ dX9_quote_23 hr hk (by decide) (Or.inl rfl) ⟨wr_layers_1, wr_bytes_2, wi_first_3, wi_last_4, wi_worth_5, wi_whole_6, wr_length_7, wr_strongBegun_8, wr_softBegun_9, rfl, h⟩
def wp_Picker_write (pg_bytes : (Nat → Int)) (pg_signAt : (Nat → Int)) (pg_wordBegin : (Nat → Int)) (pg_wordEnd : (Nat → Int)) (pg_wordSentence : (Nat → Int)) (pg_sentenceBegin : (Nat → Int)) (pg_sentenceEnd : (Nat → Int)) (pg_sentenceSigns : (Nat → Int)) (pg_sentenceFirst : (Nat → Int)) (pg_sentenceWords : (Nat → Int)) (qy_weights : (Nat → Int)) (qy_termCounts : (Nat → Int)) (mt_beginning : (Nat → Int)) (mt_ending : (Nat → Int)) (wr_layers : (Nat → Int)) (wr_bytes : (Nat → Int)) (pg_length : Int) (pg_sentences : Int) (qy_softItems : Int) (qy_items : Int) (wi_first : Int) (wi_last : Int) (wi_worth : Int) (wi_whole : Int) (se_chosen : Int) (wr_length : Int) (wr_strongBegun : Int) (wr_softBegun : Int) (a1 : Int) (Q : Int → (Nat → Int) → (Nat → Int) → Int → Int → Int → Int → Int → Int → Int → Prop) (E : Nat → (Nat → Int) → (Nat → Int) → Int → Int → Int → Int → Int → Int → Int → Prop) : Prop := wp_Picker_requireNumber a1 10 600 (wp_Writer_writeSet pg_bytes pg_signAt pg_wordBegin pg_wordEnd pg_wordSentence pg_sentenceBegin pg_sentenceEnd pg_sentenceSigns pg_sentenceFirst pg_sentenceWords qy_weights qy_termCounts mt_beginning mt_ending wr_layers wr_bytes pg_length pg_sentences qy_softItems qy_items wi_first wi_last wi_worth wi_whole wr_length wr_strongBegun wr_softBegun se_chosen a1 (fun (wr_layers_1 : (Nat → Int)) (wr_bytes_2 : (Nat → Int)) (wi_first_3 : Int) (wi_last_4 : Int) (wi_worth_5 : Int) (wi_whole_6 : Int) (wr_length_7 : Int) (wr_strongBegun_8 : Int) (wr_softBegun_9 : Int) => Q wr_length_7 wr_layers_1 wr_bytes_2 wi_first_3 wi_last_4 wi_worth_5 wi_whole_6 wr_length_7 wr_strongBegun_8 wr_softBegun_9)) (fun (x9 : Nat) => E x9 wr_layers wr_bytes wi_first wi_last wi_worth wi_whole wr_length wr_strongBegun wr_softBegun)
set_option maxHeartbeats 4000000 in
set_option maxRecDepth 20000 in
theorem s_Picker_write (l : Launch) (hl : l.stackTraces = false) (w : St) (a1 : Int) (P : Int → (Nat → Int) → (Nat → Int) → Int → Int → Int → Int → Int → Int → Int → Prop) (E : Nat → (Nat → Int) → (Nat → Int) → Int → Int → Int → Int → Int → Int → Int → Prop) (h : wp_Picker_write (w.1 4) (w.1 6) (w.1 7) (w.1 8) (w.1 9) (w.1 11) (w.1 12) (w.1 13) (w.1 14) (w.1 15) (w.1 19) (w.1 20) (w.1 30) (w.1 31) (w.1 42) (w.1 43) (w.1 3 14) (w.1 3 17) (w.1 18 5) (w.1 18 6) (w.1 34 5) (w.1 34 6) (w.1 34 7) (w.1 34 8) (w.1 37 7) (w.1 41 6) (w.1 41 7) (w.1 41 8) a1 P E) : Ct l yX9_write cX9_write 2 (some .int) 9 1 LX w [aR 0, aI a1] (okI (fun r w1 => ∃ (o0 : (Nat → Int)) (o1 : (Nat → Int)) (o2 : Int) (o3 : Int) (o4 : Int) (o5 : Int) (o6 : Int) (o7 : Int) (o8 : Int), w1 = (wI (wI (wI (wI (wI (wI (wI (wA (wA w 42 o0) 43 o1) 34 5 o2) 34 6 o3) 34 7 o4) 34 8 o5) 41 6 o6) 41 7 o7) 41 8 o8) ∧ P r o0 o1 o2 o3 o4 o5 o6 o7 o8)) (fun x w1 => ∃ (o0 : (Nat → Int)) (o1 : (Nat → Int)) (o2 : Int) (o3 : Int) (o4 : Int) (o5 : Int) (o6 : Int) (o7 : Int) (o8 : Int), pj w1 0 LX = pj (wI (wI (wI (wI (wI (wI (wI (wA (wA w 42 o0) 43 o1) 34 5 o2) 34 6 o3) 34 7 o4) 34 8 o5) 41 6 o6) 41 7 o7) 41 8 o8) 0 LX ∧ E x o0 o1 o2 o3 o4 o5 o6 o7 o8) := by
  unfold wp_Picker_write at h
  refine Ct.of [some (aR 0), some (aI a1)] (by decide) (Nat.le_of_ble_eq_true rfl) rfl (fun p e s m args below meth c D cA ad A Q hQ hC hr hk hnt => ?_)
  refine r_iload_n (pc := 0) hC 1 dX9_write_0 rfl rfl ?_
  refine r_bipush (pc := 1) hC dX9_write_1 ⟨rfl, rng_lit rfl⟩ ?_
  refine r_sipush (pc := 3) hC dX9_write_3 ⟨rfl, rng_lit rfl⟩ ?_
  refine r_callTSv (pc := 6) hC [aI a1, aI 10, aI 600] [] hQ hk hnt ⟨Nat.le_of_ble_eq_true rfl, Nat.le_of_ble_eq_true rfl⟩ dX9_write_6 ml_RX9_126 my_X9_requireNumber ms_X9_requireNumber rfl ⟨Nat.le_of_ble_eq_true rfl, Nat.le_of_ble_eq_true rfl⟩ ⟨Nat.le_of_ble_eq_true rfl, Nat.le_of_ble_eq_true rfl⟩ (Nat.le_of_ble_eq_true rfl) rfl (s_Picker_requireNumber l hl _ _ _ _ _ _ h) (fun x9 w9 hx => ?_) (fun w1 hq => ?_)
  · obtain ⟨e9, h9⟩ := hx
    exact ⟨(w.1 42), (w.1 43), (w.1 34 5), (w.1 34 6), (w.1 34 7), (w.1 34 8), (w.1 41 6), (w.1 41 7), (w.1 41 8), e9.trans rfl, h9⟩
  obtain ⟨e9, h⟩ := hq
  rw [e9]
  refine r_aload_n (pc := 9) hC 0 dX9_write_9 rfl rfl ?_
  refine r_getr (r := 41) (pc := 10) hC dX9_write_10 fl_RX9_72 lX_0 rfl ?_
  refine r_aload_n (pc := 13) hC 0 dX9_write_13 rfl rfl ?_
  refine r_getr (r := 37) (pc := 14) hC dX9_write_14 fl_RX9_63 lX_0 rfl ?_
  refine r_get (kd := 0) (v := (w.1 37 7)) (pc := 17) hC dX9_write_17 fl_RX9_201 lX_37 rfl rfl ?_
  refine r_iload_n (pc := 20) hC 1 dX9_write_20 rfl rfl ?_
  refine r_callVv (pc := 21) hC [aI (w.1 37 7), aI a1] [] dX9_write_21 ml_RX9_352 my_X8_writeSet mi_X8_writeSet lX_41 rfl rfl ⟨Nat.le_of_ble_eq_true rfl, Nat.le_of_ble_eq_true rfl⟩ ⟨Nat.le_of_ble_eq_true rfl, Nat.le_of_ble_eq_true rfl⟩ (Nat.le_of_ble_eq_true rfl) rfl (s_Writer_writeSet l _ _ _ _ h) (fun w1 hq => ?_)
  obtain ⟨wr_layers_1, wr_bytes_2, wi_first_3, wi_last_4, wi_worth_5, wi_whole_6, wr_length_7, wr_strongBegun_8, wr_softBegun_9, e9, h⟩ := hq
  rw [e9]
  refine r_aload_n (pc := 24) hC 0 dX9_write_24 rfl rfl ?_
  refine r_getr (r := 41) (pc := 25) hC dX9_write_25 fl_RX9_72 lX_0 rfl ?_
  refine r_get (kd := 0) (v := wr_length_7) (pc := 28) hC dX9_write_28 fl_RX9_351 lX_41 rfl rfl ?_
  refine r_conv (w2 := (wI (wI (wI (wI (wI (wI (wI (wA (wA w 42 wr_layers_1) 43 wr_bytes_2) 34 5 wi_first_3) 34 6 wi_last_4) 34 7 wi_worth_5) 34 8 wi_whole_6) 41 6 wr_length_7) 41 7 wr_strongBegun_8) 41 8 wr_softBegun_9)) rfl ?_
  exact r_tri (pc := 31) (kd := 0) hC hQ ⟨Nat.le_of_ble_eq_true rfl, Nat.le_of_ble_eq_true rfl⟩ dX9_write_31 hr hk (by decide) (Or.inl rfl) ⟨wr_layers_1, wr_bytes_2, wi_first_3, wi_last_4, wi_worth_5, wi_whole_6, wr_length_7, wr_strongBegun_8, wr_softBegun_9, rfl, h⟩
