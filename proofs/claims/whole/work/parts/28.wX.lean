def wp_Writer_writeSet (pg_bytes : (Nat → Int)) (pg_signAt : (Nat → Int)) (pg_wordBegin : (Nat → Int)) (pg_wordEnd : (Nat → Int)) (pg_wordSentence : (Nat → Int)) (pg_sentenceBegin : (Nat → Int)) (pg_sentenceEnd : (Nat → Int)) (pg_sentenceSigns : (Nat → Int)) (pg_sentenceFirst : (Nat → Int)) (pg_sentenceWords : (Nat → Int)) (qy_weights : (Nat → Int)) (qy_termCounts : (Nat → Int)) (mt_beginning : (Nat → Int)) (mt_ending : (Nat → Int)) (wr_layers : (Nat → Int)) (wr_bytes : (Nat → Int)) (pg_length : Int) (pg_sentences : Int) (qy_softItems : Int) (qy_items : Int) (wi_first : Int) (wi_last : Int) (wi_worth : Int) (wi_whole : Int) (wr_length : Int) (wr_strongBegun : Int) (wr_softBegun : Int) (a1 : Int) (a2 : Int) (Q : (Nat → Int) → (Nat → Int) → Int → Int → Int → Int → Int → Int → Int → Prop) : Prop := wp_Writer_begin wr_layers wr_length wr_strongBegun wr_softBegun (fun (wr_layers_1 : (Nat → Int)) (wr_length_2 : Int) (wr_strongBegun_3 : Int) (wr_softBegun_4 : Int) => lpw12 (fun (wr_layers_5 : (Nat → Int)) (wr_bytes_6 : (Nat → Int)) (wi_first_7 : Int) (wi_last_8 : Int) (wi_worth_9 : Int) (wi_whole_10 : Int) (wr_length_11 : Int) (wr_strongBegun_12 : Int) (wr_softBegun_13 : Int) (x14 : Int) (x15 : Int) (x16 : Int) (k1 : (Nat → Int) → (Nat → Int) → Int → Int → Int → Int → Int → Int → Int → Int → Int → Int → Prop) => (pg_sentences ≤ x16 → (x15 = 0 → Q wr_layers_5 wr_bytes_6 wi_first_7 wi_last_8 wi_worth_9 wi_whole_10 wr_length_11 wr_strongBegun_12 wr_softBegun_13) ∧ (¬ x15 = 0 → wp_Writer_put wr_bytes_6 wr_length_11 11 (fun (wr_bytes_17 : (Nat → Int)) (wr_length_18 : Int) => Q wr_layers_5 wr_bytes_17 wi_first_7 wi_last_8 wi_worth_9 wi_whole_10 wr_length_18 wr_strongBegun_12 wr_softBegun_13))) ∧ (¬ pg_sentences ≤ x16 → wp_Picker_has a1 x16 (fun (r19 : Int) => jn11 (fun (J2 : (Nat → Int) → (Nat → Int) → Int → Int → Int → Int → Int → Int → Int → Int → Int → Prop) => (¬ r19 = 0 → wp_Windows_seekCut pg_signAt pg_wordBegin pg_wordEnd pg_sentenceSigns pg_sentenceFirst pg_sentenceWords qy_weights qy_termCounts mt_beginning mt_ending qy_items wi_first_7 wi_last_8 wi_worth_9 wi_whole_10 x16 a2 (fun (wi_first_31 : Int) (wi_last_32 : Int) (wi_worth_33 : Int) (wi_whole_34 : Int) => jn0 (fun (J3 : Prop) => (¬ wi_whole_34 = 0 → J3) ∧ (wi_whole_34 = 0 → (¬ wi_first_31 = (-1) → J3) ∧ (wi_first_31 = (-1) → J2 wr_layers_5 wr_bytes_6 wi_first_31 wi_last_32 wi_worth_33 wi_whole_34 wr_length_11 wr_strongBegun_12 wr_softBegun_13 x14 x15))) ((0 ≤ x16 ∧ x16 < 14) ∧ (jn1 (fun (J4 : Int → Prop) => (wi_first_31 ≤ (pg_sentenceFirst (Int.toNat x16)) → J4 0) ∧ (¬ wi_first_31 ≤ (pg_sentenceFirst (Int.toNat x16)) → J4 1)) (fun (y35 : Int) => wp_Page_lastWordOf pg_sentenceFirst pg_sentenceWords x16 (fun (r36 : Int) => jn1 (fun (J5 : Int → Prop) => (r36 ≤ wi_last_32 → J5 0) ∧ (¬ r36 ≤ wi_last_32 → J5 1)) (fun (y37 : Int) => wp_Writer_putJoint wr_bytes_6 wr_length_11 x14 x15 x16 y35 (fun (wr_bytes_38 : (Nat → Int)) (wr_length_39 : Int) => wp_Writer_layMarks pg_bytes pg_wordBegin pg_wordEnd pg_wordSentence qy_termCounts mt_beginning wr_layers_5 pg_length qy_softItems qy_items wi_first_31 wi_last_32 (fun (wr_layers_40 : (Nat → Int)) => jn1 (fun (J6 : Int → Prop) => (y35 = 0 → (0 ≤ x16 ∧ x16 < 14) ∧ (J6 (pg_sentenceBegin (Int.toNat x16)))) ∧ (¬ y35 = 0 → (0 ≤ wi_first_31 ∧ wi_first_31 < 100) ∧ (J6 (pg_wordBegin (Int.toNat wi_first_31))))) (fun (y41 : Int) => jn1 (fun (J7 : Int → Prop) => (y37 = 0 → (0 ≤ x16 ∧ x16 < 14) ∧ (J7 (pg_sentenceEnd (Int.toNat x16)))) ∧ (¬ y37 = 0 → (0 ≤ wi_last_32 ∧ wi_last_32 < 100) ∧ (J7 (pg_wordEnd (Int.toNat wi_last_32))))) (fun (y42 : Int) => wp_Writer_putPassage pg_bytes wr_layers_40 wr_bytes_38 pg_length wr_length_39 wr_strongBegun_12 wr_softBegun_13 y41 y42 (fun (wr_bytes_43 : (Nat → Int)) (wr_length_44 : Int) (wr_strongBegun_45 : Int) (wr_softBegun_46 : Int) => J2 wr_layers_40 wr_bytes_43 wi_first_31 wi_last_32 wi_worth_33 wi_whole_34 wr_length_44 wr_strongBegun_45 wr_softBegun_46 x16 y37)))))))))))) ∧ (r19 = 0 → J2 wr_layers_5 wr_bytes_6 wi_first_7 wi_last_8 wi_worth_9 wi_whole_10 wr_length_11 wr_strongBegun_12 wr_softBegun_13 x14 x15)) (fun (wr_layers_20 : (Nat → Int)) (wr_bytes_21 : (Nat → Int)) (wi_first_22 : Int) (wi_last_23 : Int) (wi_worth_24 : Int) (wi_whole_25 : Int) (wr_length_26 : Int) (wr_strongBegun_27 : Int) (wr_softBegun_28 : Int) (x29 : Int) (x30 : Int) => (rng (x16 + 1)) ∧ (k1 wr_layers_20 wr_bytes_21 wi_first_22 wi_last_23 wi_worth_24 wi_whole_25 wr_length_26 wr_strongBegun_27 wr_softBegun_28 x29 x30 (x16 + 1)))))) wr_layers_1 wr_bytes wi_first wi_last wi_worth wi_whole wr_length_2 wr_strongBegun_3 wr_softBegun_4 (-1) 0 0)
set_option maxHeartbeats 4000000 in
set_option maxRecDepth 20000 in
theorem s_Writer_writeSet (l : Launch) (w : St) (a1 : Int) (a2 : Int) (P : (Nat → Int) → (Nat → Int) → Int → Int → Int → Int → Int → Int → Int → Prop) (h : wp_Writer_writeSet (w.1 4) (w.1 6) (w.1 7) (w.1 8) (w.1 9) (w.1 11) (w.1 12) (w.1 13) (w.1 14) (w.1 15) (w.1 19) (w.1 20) (w.1 30) (w.1 31) (w.1 42) (w.1 43) (w.1 3 14) (w.1 3 17) (w.1 18 5) (w.1 18 6) (w.1 34 5) (w.1 34 6) (w.1 34 7) (w.1 34 8) (w.1 41 6) (w.1 41 7) (w.1 41 8) a1 a2 P) : Cn l yX8_writeSet cX8_writeSet 8 none 8 LX w [aR 41, aI a1, aI a2] (okV (fun w1 => ∃ (o0 : (Nat → Int)) (o1 : (Nat → Int)) (o2 : Int) (o3 : Int) (o4 : Int) (o5 : Int) (o6 : Int) (o7 : Int) (o8 : Int), w1 = (wI (wI (wI (wI (wI (wI (wI (wA (wA w 42 o0) 43 o1) 34 5 o2) 34 6 o3) 34 7 o4) 34 8 o5) 41 6 o6) 41 7 o7) 41 8 o8) ∧ P o0 o1 o2 o3 o4 o5 o6 o7 o8)) := by
  unfold wp_Writer_writeSet at h
  refine Cn.of2 [some (aR 41), some (aI a1), some (aI a2), none, none, none, none, none] (by decide) (Nat.le_of_ble_eq_true rfl) rfl (fun p e s m args below meth c D cA ad A Q hQ hC hr hk => ?_)
  refine r_aload_n (pc := 0) hC 0 dX8_writeSet_0 rfl rfl ?_
  refine r_callVv (pc := 1) hC [] [] dX8_writeSet_1 ml_RX8_50 my_X8_begin mi_X8_begin lX_41 rfl rfl ⟨Nat.le_of_ble_eq_true rfl, Nat.le_of_ble_eq_true rfl⟩ ⟨Nat.le_of_ble_eq_true rfl, Nat.le_of_ble_eq_true rfl⟩ (Nat.le_of_ble_eq_true rfl) rfl (s_Writer_begin l _ _ h) (fun w1 hq => ?_)
  obtain ⟨wr_layers_1, wr_length_2, wr_strongBegun_3, wr_softBegun_4, e9, h⟩ := hq
  rw [e9]
  refine r_iconst (pc := 4) hC dX8_writeSet_4 (rng_lit rfl) ?_
  refine r_istore_n (ls2 := [some (aR 41), some (aI a1), some (aI a2), some (aI (-1)), none, none, none, none]) (pc := 5) hC 3 dX8_writeSet_5 rfl (by decide) rfl rfl ?_
  refine r_iconst (pc := 6) hC dX8_writeSet_6 (rng_lit rfl) ?_
  refine r_istore (ls2 := [some (aR 41), some (aI a1), some (aI a2), some (aI (-1)), some (aI 0), none, none, none]) (pc := 7) hC dX8_writeSet_7 (by decide) rfl rfl ?_
  refine r_iconst (pc := 9) hC dX8_writeSet_9 (rng_lit rfl) ?_
  refine r_istore (ls2 := [some (aR 41), some (aI a1), some (aI a2), some (aI (-1)), some (aI 0), some (aI 0), none, none]) (pc := 10) hC dX8_writeSet_10 (by decide) rfl rfl ?_
  obtain ⟨I1, μ1, hI1, hB1⟩ := h
  have S1 : ∀ (nn : Nat) (wr_layers_5 : (Nat → Int)) (wr_bytes_6 : (Nat → Int)) (wi_first_7 : Int) (wi_last_8 : Int) (wi_worth_9 : Int) (wi_whole_10 : Int) (wr_length_11 : Int) (wr_strongBegun_12 : Int) (wr_softBegun_13 : Int) (x14 : Int) (x15 : Int) (x16 : Int), μ1 wr_layers_5 wr_bytes_6 wi_first_7 wi_last_8 wi_worth_9 wi_whole_10 wr_length_11 wr_strongBegun_12 wr_softBegun_13 x14 x15 x16 < nn → I1 wr_layers_5 wr_bytes_6 wi_first_7 wi_last_8 wi_worth_9 wi_whole_10 wr_length_11 wr_strongBegun_12 wr_softBegun_13 x14 x15 x16 → Wd p l e (rmD 8) s m args below meth c Q 0 0 8 D cA ad A LX (wI (wI (wI (wI (wI (wI (wI (wA (wA w 42 wr_layers_5) 43 wr_bytes_6) 34 5 wi_first_7) 34 6 wi_last_8) 34 7 wi_worth_9) 34 8 wi_whole_10) 41 6 wr_length_11) 41 7 wr_strongBegun_12) 41 8 wr_softBegun_13) 12 [some (aR 41), some (aI a1), some (aI a2), some (aI x14), some (aI x15), some (aI x16), none, none] [] := by
    intro nn
    induction nn with
    | zero => intro wr_layers_5 wr_bytes_6 wi_first_7 wi_last_8 wi_worth_9 wi_whole_10 wr_length_11 wr_strongBegun_12 wr_softBegun_13 x14 x15 x16 hn; exact absurd hn (Nat.not_lt_zero _)
    | succ nn ih1 =>
      intro wr_layers_5 wr_bytes_6 wi_first_7 wi_last_8 wi_worth_9 wi_whole_10 wr_length_11 wr_strongBegun_12 wr_softBegun_13 x14 x15 x16 hn1 hi
      have h := hB1 wr_layers_5 wr_bytes_6 wi_first_7 wi_last_8 wi_worth_9 wi_whole_10 wr_length_11 wr_strongBegun_12 wr_softBegun_13 x14 x15 x16 hi
      refine r_iload (pc := 12) hC dX8_writeSet_12 rfl ?_
      refine r_aload_n (pc := 14) hC 0 dX8_writeSet_14 rfl rfl ?_
      refine r_getr (r := 3) (pc := 15) hC dX8_writeSet_15 fl_RX8_18 lX_41 rfl ?_
      refine r_get (kd := 0) (v := (w.1 3 17)) (pc := 18) hC dX8_writeSet_18 fl_RX8_89 lX_3 rfl rfl ?_
      refine r_ic_ge (pc := 21) (tgt := 235) hC dX8_writeSet_21 rfl (fun hc9 => ?_) (fun hc9 => ?_)
      · have h := h.1 hc9
        refine r_iload (pc := 235) hC dX8_writeSet_235 rfl ?_
        refine r_if_eq (pc := 237) (tgt := 246) hC dX8_writeSet_237 rfl (fun hc1 => ?_) (fun hc1 => ?_)
        · have h := h.1 hc1
          refine r_conv (w2 := (wI (wI (wI (wI (wI (wI (wI (wA (wA w 42 wr_layers_5) 43 wr_bytes_6) 34 5 wi_first_7) 34 6 wi_last_8) 34 7 wi_worth_9) 34 8 wi_whole_10) 41 6 wr_length_11) 41 7 wr_strongBegun_12) 41 8 wr_softBegun_13)) rfl ?_
          exact r_retv (pc := 246) hC hQ dX8_writeSet_246 hr hk ⟨wr_layers_5, wr_bytes_6, wi_first_7, wi_last_8, wi_worth_9, wi_whole_10, wr_length_11, wr_strongBegun_12, wr_softBegun_13, rfl, h⟩
        have h := h.2 hc1
        refine r_aload_n (pc := 240) hC 0 dX8_writeSet_240 rfl rfl ?_
        refine r_ldcs (j := 11) (pc := 241) hC dX8_writeSet_241 rfl ⟨rfl, rfl⟩ ?_
        refine r_callVv (pc := 243) hC [aR (10000 + 11)] [] dX8_writeSet_243 ml_RX8_76 my_X8_put mi_X8_put lX_41 rfl rfl ⟨Nat.le_of_ble_eq_true rfl, Nat.le_of_ble_eq_true rfl⟩ ⟨Nat.le_of_ble_eq_true rfl, Nat.le_of_ble_eq_true rfl⟩ (Nat.le_of_ble_eq_true rfl) rfl (s_Writer_put l _ _ _ h) (fun w1 hq => ?_)
        obtain ⟨wr_bytes_17, wr_length_18, e9, h⟩ := hq
        rw [e9]
        refine r_conv (w2 := (wI (wI (wI (wI (wI (wI (wI (wA (wA w 42 wr_layers_5) 43 wr_bytes_17) 34 5 wi_first_7) 34 6 wi_last_8) 34 7 wi_worth_9) 34 8 wi_whole_10) 41 6 wr_length_18) 41 7 wr_strongBegun_12) 41 8 wr_softBegun_13)) rfl ?_
        exact r_retv (pc := 246) hC hQ dX8_writeSet_246 hr hk ⟨wr_layers_5, wr_bytes_17, wi_first_7, wi_last_8, wi_worth_9, wi_whole_10, wr_length_18, wr_strongBegun_12, wr_softBegun_13, rfl, h⟩
      have h := h.2 hc9
      refine r_iload_n (pc := 24) hC 1 dX8_writeSet_24 rfl rfl ?_
      refine r_iload (pc := 25) hC dX8_writeSet_25 rfl ?_
      refine r_callSNi (pc := 27) hC [aI a1, aI x16] [] dX8_writeSet_27 nl_RX8_92 my_X9_has ms_X9_has rfl ⟨Nat.le_of_ble_eq_true rfl, Nat.le_of_ble_eq_true rfl⟩ ⟨Nat.le_of_ble_eq_true rfl, Nat.le_of_ble_eq_true rfl⟩ (Nat.le_of_ble_eq_true rfl) rfl (s_Picker_has l _ _ _ _ h) (fun r19 w1 hq => ?_)
      obtain ⟨e9, h⟩ := hq
      rw [e9]
      obtain ⟨J2, hJ2, h⟩ := h
      have S2 : ∀ (wr_layers_20 : (Nat → Int)) (wr_bytes_21 : (Nat → Int)) (wi_first_22 : Int) (wi_last_23 : Int) (wi_worth_24 : Int) (wi_whole_25 : Int) (wr_length_26 : Int) (wr_strongBegun_27 : Int) (wr_softBegun_28 : Int) (x29 : Int) (x30 : Int), J2 wr_layers_20 wr_bytes_21 wi_first_22 wi_last_23 wi_worth_24 wi_whole_25 wr_length_26 wr_strongBegun_27 wr_softBegun_28 x29 x30 → Wd p l e (rmD 8) s m args below meth c Q 0 0 8 D cA ad A LX (wI (wI (wI (wI (wI (wI (wI (wA (wA w 42 wr_layers_20) 43 wr_bytes_21) 34 5 wi_first_22) 34 6 wi_last_23) 34 7 wi_worth_24) 34 8 wi_whole_25) 41 6 wr_length_26) 41 7 wr_strongBegun_27) 41 8 wr_softBegun_28) 229 [some (aR 41), some (aI a1), some (aI a2), some (aI x29), some (aI x30), some (aI x16), none, none] [] := by
        intro wr_layers_20 wr_bytes_21 wi_first_22 wi_last_23 wi_worth_24 wi_whole_25 wr_length_26 wr_strongBegun_27 wr_softBegun_28 x29 x30 hj
        have h := hJ2 wr_layers_20 wr_bytes_21 wi_first_22 wi_last_23 wi_worth_24 wi_whole_25 wr_length_26 wr_strongBegun_27 wr_softBegun_28 x29 x30 hj
        refine r_iinc (ls2 := [some (aR 41), some (aI a1), some (aI a2), some (aI x29), some (aI x30), some (aI (x16 + 1)), none, none]) (pc := 229) hC dX8_writeSet_229 rfl (by decide) rfl h.1 rfl ?_
        have h := h.2
        refine r_goto (tgt := 12) (pc := 232) hC dX8_writeSet_232 rfl ?_
        exact r_to [true, true, true, true, true, true, false, false] rfl rfl (ih1 wr_layers_20 wr_bytes_21 wi_first_22 wi_last_23 wi_worth_24 wi_whole_25 wr_length_26 wr_strongBegun_27 wr_softBegun_28 x29 x30 (x16 + 1) (Nat.lt_of_lt_of_le h.2 (Nat.le_of_lt_succ hn1)) h.1)
      refine r_if_ne (pc := 30) (tgt := 36) hC dX8_writeSet_30 rfl (fun hc8 => ?_) (fun hc8 => ?_)
      · have h := h.1 hc8
        refine r_aload_n (pc := 36) hC 0 dX8_writeSet_36 rfl rfl ?_
        refine r_getr (r := 34) (pc := 37) hC dX8_writeSet_37 fl_RX8_30 lX_41 rfl ?_
        refine r_iload (pc := 40) hC dX8_writeSet_40 rfl ?_
        refine r_iload_n (pc := 42) hC 2 dX8_writeSet_42 rfl rfl ?_
        refine r_callVv (pc := 43) hC [aI x16, aI a2] [] dX8_writeSet_43 ml_RX8_96 my_X7_seekCut mi_X7_seekCut lX_34 rfl rfl ⟨Nat.le_of_ble_eq_true rfl, Nat.le_of_ble_eq_true rfl⟩ ⟨Nat.le_of_ble_eq_true rfl, Nat.le_of_ble_eq_true rfl⟩ (Nat.le_of_ble_eq_true rfl) rfl (s_Windows_seekCut l _ _ _ _ h) (fun w1 hq => ?_)
        obtain ⟨wi_first_31, wi_last_32, wi_worth_33, wi_whole_34, e9, h⟩ := hq
        rw [e9]
        refine r_aload_n (pc := 46) hC 0 dX8_writeSet_46 rfl rfl ?_
        refine r_getr (r := 34) (pc := 47) hC dX8_writeSet_47 fl_RX8_30 lX_41 rfl ?_
        refine r_get (kd := 1) (v := wi_whole_34) (pc := 50) hC dX8_writeSet_50 fl_RX8_99 lX_34 rfl rfl ?_
        obtain ⟨J3, hJ3, h⟩ := h
        have S3 : J3 → Wd p l e (rmD 8) s m args below meth c Q 0 0 8 D cA ad A LX (wI (wI (wI (wI (wI (wI (wI (wA (wA w 42 wr_layers_5) 43 wr_bytes_6) 34 5 wi_first_31) 34 6 wi_last_32) 34 7 wi_worth_33) 34 8 wi_whole_34) 41 6 wr_length_11) 41 7 wr_strongBegun_12) 41 8 wr_softBegun_13) 70 [some (aR 41), some (aI a1), some (aI a2), some (aI x14), some (aI x15), some (aI x16), none, none] [] := by
          intro hj
          have h := hJ3 hj
          refine r_aload_n (pc := 70) hC 0 dX8_writeSet_70 rfl rfl ?_
          refine r_getr (r := 34) (pc := 71) hC dX8_writeSet_71 fl_RX8_30 lX_41 rfl ?_
          refine r_get (kd := 0) (v := wi_first_31) (pc := 74) hC dX8_writeSet_74 fl_RX8_64 lX_34 rfl rfl ?_
          refine r_aload_n (pc := 77) hC 0 dX8_writeSet_77 rfl rfl ?_
          refine r_getr (r := 3) (pc := 78) hC dX8_writeSet_78 fl_RX8_18 lX_41 rfl ?_
          refine r_getr (r := 14) (pc := 81) hC dX8_writeSet_81 fl_RX8_103 lX_3 rfl ?_
          refine r_iload (pc := 84) hC dX8_writeSet_84 rfl ?_
          refine r_iald (v := ((w.1 14) (Int.toNat x16))) (pc := 86) hC dX8_writeSet_86 lX_14 h.1.1 h.1.2 rfl ?_
          have h := h.2
          obtain ⟨J4, hJ4, h⟩ := h
          have S4 : ∀ (y35 : Int), J4 y35 → Wd p l e (rmD 8) s m args below meth c Q 0 0 8 D cA ad A LX (wI (wI (wI (wI (wI (wI (wI (wA (wA w 42 wr_layers_5) 43 wr_bytes_6) 34 5 wi_first_31) 34 6 wi_last_32) 34 7 wi_worth_33) 34 8 wi_whole_34) 41 6 wr_length_11) 41 7 wr_strongBegun_12) 41 8 wr_softBegun_13) 95 [some (aR 41), some (aI a1), some (aI a2), some (aI x14), some (aI x15), some (aI x16), none, none] [aI y35] := by
            intro y35 hj
            have h := hJ4 y35 hj
            refine r_istore (ls2 := [some (aR 41), some (aI a1), some (aI a2), some (aI x14), some (aI x15), some (aI x16), some (aI y35), none]) (pc := 95) hC dX8_writeSet_95 (by decide) rfl rfl ?_
            refine r_aload_n (pc := 97) hC 0 dX8_writeSet_97 rfl rfl ?_
            refine r_getr (r := 34) (pc := 98) hC dX8_writeSet_98 fl_RX8_30 lX_41 rfl ?_
            refine r_get (kd := 0) (v := wi_last_32) (pc := 101) hC dX8_writeSet_101 fl_RX8_67 lX_34 rfl rfl ?_
            refine r_aload_n (pc := 104) hC 0 dX8_writeSet_104 rfl rfl ?_
            refine r_getr (r := 3) (pc := 105) hC dX8_writeSet_105 fl_RX8_18 lX_41 rfl ?_
            refine r_iload (pc := 108) hC dX8_writeSet_108 rfl ?_
            refine r_callVi (pc := 110) hC [aI x16] [aI wi_last_32] dX8_writeSet_110 ml_RX8_106 my_X1_lastWordOf mi_X1_lastWordOf lX_3 rfl rfl ⟨Nat.le_of_ble_eq_true rfl, Nat.le_of_ble_eq_true rfl⟩ ⟨Nat.le_of_ble_eq_true rfl, Nat.le_of_ble_eq_true rfl⟩ (Nat.le_of_ble_eq_true rfl) rfl (s_Page_lastWordOf l _ _ _ h) (fun r36 w1 hq => ?_)
            obtain ⟨e9, h⟩ := hq
            rw [e9]
            obtain ⟨J5, hJ5, h⟩ := h
            have S5 : ∀ (y37 : Int), J5 y37 → Wd p l e (rmD 8) s m args below meth c Q 0 0 8 D cA ad A LX (wI (wI (wI (wI (wI (wI (wI (wA (wA w 42 wr_layers_5) 43 wr_bytes_6) 34 5 wi_first_31) 34 6 wi_last_32) 34 7 wi_worth_33) 34 8 wi_whole_34) 41 6 wr_length_11) 41 7 wr_strongBegun_12) 41 8 wr_softBegun_13) 121 [some (aR 41), some (aI a1), some (aI a2), some (aI x14), some (aI x15), some (aI x16), some (aI y35), none] [aI y37] := by
              intro y37 hj
              have h := hJ5 y37 hj
              refine r_istore (ls2 := [some (aR 41), some (aI a1), some (aI a2), some (aI x14), some (aI x15), some (aI x16), some (aI y35), some (aI y37)]) (pc := 121) hC dX8_writeSet_121 (by decide) rfl rfl ?_
              refine r_aload_n (pc := 123) hC 0 dX8_writeSet_123 rfl rfl ?_
              refine r_iload_n (pc := 124) hC 3 dX8_writeSet_124 rfl rfl ?_
              refine r_iload (pc := 125) hC dX8_writeSet_125 rfl ?_
              refine r_iload (pc := 127) hC dX8_writeSet_127 rfl ?_
              refine r_iload (pc := 129) hC dX8_writeSet_129 rfl ?_
              refine r_callVv (pc := 131) hC [aI x14, aI x15, aI x16, aI y35] [] dX8_writeSet_131 ml_RX8_110 my_X8_putJoint mi_X8_putJoint lX_41 rfl rfl ⟨Nat.le_of_ble_eq_true rfl, Nat.le_of_ble_eq_true rfl⟩ ⟨Nat.le_of_ble_eq_true rfl, Nat.le_of_ble_eq_true rfl⟩ (Nat.le_of_ble_eq_true rfl) rfl (s_Writer_putJoint l _ _ _ _ _ _ h) (fun w1 hq => ?_)
              obtain ⟨wr_bytes_38, wr_length_39, e9, h⟩ := hq
              rw [e9]
              refine r_aload_n (pc := 134) hC 0 dX8_writeSet_134 rfl rfl ?_
              refine r_aload_n (pc := 135) hC 0 dX8_writeSet_135 rfl rfl ?_
              refine r_getr (r := 34) (pc := 136) hC dX8_writeSet_136 fl_RX8_30 lX_41 rfl ?_
              refine r_get (kd := 0) (v := wi_first_31) (pc := 139) hC dX8_writeSet_139 fl_RX8_64 lX_34 rfl rfl ?_
              refine r_aload_n (pc := 142) hC 0 dX8_writeSet_142 rfl rfl ?_
              refine r_getr (r := 34) (pc := 143) hC dX8_writeSet_143 fl_RX8_30 lX_41 rfl ?_
              refine r_get (kd := 0) (v := wi_last_32) (pc := 146) hC dX8_writeSet_146 fl_RX8_67 lX_34 rfl rfl ?_
              refine r_callVv (pc := 149) hC [aI wi_first_31, aI wi_last_32] [] dX8_writeSet_149 ml_RX8_70 my_X8_layMarks mi_X8_layMarks lX_41 rfl rfl ⟨Nat.le_of_ble_eq_true rfl, Nat.le_of_ble_eq_true rfl⟩ ⟨Nat.le_of_ble_eq_true rfl, Nat.le_of_ble_eq_true rfl⟩ (Nat.le_of_ble_eq_true rfl) rfl (s_Writer_layMarks l _ _ _ _ h) (fun w1 hq => ?_)
              obtain ⟨wr_layers_40, e9, h⟩ := hq
              rw [e9]
              refine r_aload_n (pc := 152) hC 0 dX8_writeSet_152 rfl rfl ?_
              refine r_iload (pc := 153) hC dX8_writeSet_153 rfl ?_
              obtain ⟨J6, hJ6, h⟩ := h
              have S6 : ∀ (y41 : Int), J6 y41 → Wd p l e (rmD 8) s m args below meth c Q 0 0 8 D cA ad A LX (wI (wI (wI (wI (wI (wI (wI (wA (wA w 42 wr_layers_40) 43 wr_bytes_38) 34 5 wi_first_31) 34 6 wi_last_32) 34 7 wi_worth_33) 34 8 wi_whole_34) 41 6 wr_length_39) 41 7 wr_strongBegun_12) 41 8 wr_softBegun_13) 186 [some (aR 41), some (aI a1), some (aI a2), none, none, some (aI x16), none, some (aI y37)] [aI y41, aR 41] := by
                intro y41 hj
                have h := hJ6 y41 hj
                refine r_iload (pc := 186) hC dX8_writeSet_186 rfl ?_
                obtain ⟨J7, hJ7, h⟩ := h
                have S7 : ∀ (y42 : Int), J7 y42 → Wd p l e (rmD 8) s m args below meth c Q 0 0 8 D cA ad A LX (wI (wI (wI (wI (wI (wI (wI (wA (wA w 42 wr_layers_40) 43 wr_bytes_38) 34 5 wi_first_31) 34 6 wi_last_32) 34 7 wi_worth_33) 34 8 wi_whole_34) 41 6 wr_length_39) 41 7 wr_strongBegun_12) 41 8 wr_softBegun_13) 219 [some (aR 41), some (aI a1), some (aI a2), none, none, some (aI x16), none, some (aI y37)] [aI y42, aI y41, aR 41] := by
                  intro y42 hj
                  have h := hJ7 y42 hj
                  refine r_callVv (pc := 219) hC [aI y41, aI y42] [] dX8_writeSet_219 ml_RX8_86 my_X8_putPassage mi_X8_putPassage lX_41 rfl rfl ⟨Nat.le_of_ble_eq_true rfl, Nat.le_of_ble_eq_true rfl⟩ ⟨Nat.le_of_ble_eq_true rfl, Nat.le_of_ble_eq_true rfl⟩ (Nat.le_of_ble_eq_true rfl) rfl (s_Writer_putPassage l _ _ _ _ h) (fun w1 hq => ?_)
                  obtain ⟨wr_bytes_43, wr_length_44, wr_strongBegun_45, wr_softBegun_46, e9, h⟩ := hq
                  rw [e9]
                  refine r_iload (pc := 222) hC dX8_writeSet_222 rfl ?_
                  refine r_istore_n (ls2 := [some (aR 41), some (aI a1), some (aI a2), some (aI x16), none, some (aI x16), none, some (aI y37)]) (pc := 224) hC 3 dX8_writeSet_224 rfl (by decide) rfl rfl ?_
                  refine r_iload (pc := 225) hC dX8_writeSet_225 rfl ?_
                  refine r_istore (ls2 := [some (aR 41), some (aI a1), some (aI a2), some (aI x16), some (aI y37), some (aI x16), none, some (aI y37)]) (pc := 227) hC dX8_writeSet_227 (by decide) rfl rfl ?_
                  exact r_to [true, true, true, true, true, true, false, false] rfl rfl (S2 wr_layers_40 wr_bytes_43 wi_first_31 wi_last_32 wi_worth_33 wi_whole_34 wr_length_44 wr_strongBegun_45 wr_softBegun_46 x16 y37 h)
                refine r_if_eq (pc := 188) (tgt := 209) hC dX8_writeSet_188 rfl (fun hc2 => ?_) (fun hc2 => ?_)
                · have h := h.1 hc2
                  refine r_aload_n (pc := 209) hC 0 dX8_writeSet_209 rfl rfl ?_
                  refine r_getr (r := 3) (pc := 210) hC dX8_writeSet_210 fl_RX8_18 lX_41 rfl ?_
                  refine r_getr (r := 12) (pc := 213) hC dX8_writeSet_213 fl_RX8_117 lX_3 rfl ?_
                  refine r_iload (pc := 216) hC dX8_writeSet_216 rfl ?_
                  refine r_iald (v := ((w.1 12) (Int.toNat x16))) (pc := 218) hC dX8_writeSet_218 lX_12 h.1.1 h.1.2 rfl ?_
                  have h := h.2
                  exact r_to [true, true, true, false, false, true, false, true] rfl rfl (S7 ((w.1 12) (Int.toNat x16)) h)
                have h := h.2 hc2
                refine r_aload_n (pc := 191) hC 0 dX8_writeSet_191 rfl rfl ?_
                refine r_getr (r := 3) (pc := 192) hC dX8_writeSet_192 fl_RX8_18 lX_41 rfl ?_
                refine r_getr (r := 8) (pc := 195) hC dX8_writeSet_195 fl_RX8_83 lX_3 rfl ?_
                refine r_aload_n (pc := 198) hC 0 dX8_writeSet_198 rfl rfl ?_
                refine r_getr (r := 34) (pc := 199) hC dX8_writeSet_199 fl_RX8_30 lX_41 rfl ?_
                refine r_get (kd := 0) (v := wi_last_32) (pc := 202) hC dX8_writeSet_202 fl_RX8_67 lX_34 rfl rfl ?_
                refine r_iald (v := ((w.1 8) (Int.toNat wi_last_32))) (pc := 205) hC dX8_writeSet_205 lX_8 h.1.1 h.1.2 rfl ?_
                have h := h.2
                refine r_goto (tgt := 219) (pc := 206) hC dX8_writeSet_206 rfl ?_
                exact r_to [true, true, true, false, false, true, false, true] rfl rfl (S7 ((w.1 8) (Int.toNat wi_last_32)) h)
              refine r_if_eq (pc := 155) (tgt := 176) hC dX8_writeSet_155 rfl (fun hc3 => ?_) (fun hc3 => ?_)
              · have h := h.1 hc3
                refine r_aload_n (pc := 176) hC 0 dX8_writeSet_176 rfl rfl ?_
                refine r_getr (r := 3) (pc := 177) hC dX8_writeSet_177 fl_RX8_18 lX_41 rfl ?_
                refine r_getr (r := 11) (pc := 180) hC dX8_writeSet_180 fl_RX8_114 lX_3 rfl ?_
                refine r_iload (pc := 183) hC dX8_writeSet_183 rfl ?_
                refine r_iald (v := ((w.1 11) (Int.toNat x16))) (pc := 185) hC dX8_writeSet_185 lX_11 h.1.1 h.1.2 rfl ?_
                have h := h.2
                exact r_to [true, true, true, false, false, true, false, true] rfl rfl (S6 ((w.1 11) (Int.toNat x16)) h)
              have h := h.2 hc3
              refine r_aload_n (pc := 158) hC 0 dX8_writeSet_158 rfl rfl ?_
              refine r_getr (r := 3) (pc := 159) hC dX8_writeSet_159 fl_RX8_18 lX_41 rfl ?_
              refine r_getr (r := 7) (pc := 162) hC dX8_writeSet_162 fl_RX8_80 lX_3 rfl ?_
              refine r_aload_n (pc := 165) hC 0 dX8_writeSet_165 rfl rfl ?_
              refine r_getr (r := 34) (pc := 166) hC dX8_writeSet_166 fl_RX8_30 lX_41 rfl ?_
              refine r_get (kd := 0) (v := wi_first_31) (pc := 169) hC dX8_writeSet_169 fl_RX8_64 lX_34 rfl rfl ?_
              refine r_iald (v := ((w.1 7) (Int.toNat wi_first_31))) (pc := 172) hC dX8_writeSet_172 lX_7 h.1.1 h.1.2 rfl ?_
              have h := h.2
              refine r_goto (tgt := 186) (pc := 173) hC dX8_writeSet_173 rfl ?_
              exact r_to [true, true, true, false, false, true, false, true] rfl rfl (S6 ((w.1 7) (Int.toNat wi_first_31)) h)
            refine r_ic_ge (pc := 113) (tgt := 120) hC dX8_writeSet_113 rfl (fun hc4 => ?_) (fun hc4 => ?_)
            · have h := h.1 hc4
              refine r_iconst (pc := 120) hC dX8_writeSet_120 (rng_lit rfl) ?_
              exact r_to [true, true, true, true, true, true, true, false] rfl rfl (S5 0 h)
            have h := h.2 hc4
            refine r_iconst (pc := 116) hC dX8_writeSet_116 (rng_lit rfl) ?_
            refine r_goto (tgt := 121) (pc := 117) hC dX8_writeSet_117 rfl ?_
            exact r_to [true, true, true, true, true, true, true, false] rfl rfl (S5 1 h)
          refine r_ic_le (pc := 87) (tgt := 94) hC dX8_writeSet_87 rfl (fun hc5 => ?_) (fun hc5 => ?_)
          · have h := h.1 hc5
            refine r_iconst (pc := 94) hC dX8_writeSet_94 (rng_lit rfl) ?_
            exact r_to [true, true, true, true, true, true, false, false] rfl rfl (S4 0 h)
          have h := h.2 hc5
          refine r_iconst (pc := 90) hC dX8_writeSet_90 (rng_lit rfl) ?_
          refine r_goto (tgt := 95) (pc := 91) hC dX8_writeSet_91 rfl ?_
          exact r_to [true, true, true, true, true, true, false, false] rfl rfl (S4 1 h)
        refine r_if_ne (pc := 53) (tgt := 70) hC dX8_writeSet_53 rfl (fun hc7 => ?_) (fun hc7 => ?_)
        · have h := h.1 hc7
          exact r_to [true, true, true, true, true, true, false, false] rfl rfl (S3 h)
        have h := h.2 hc7
        refine r_aload_n (pc := 56) hC 0 dX8_writeSet_56 rfl rfl ?_
        refine r_getr (r := 34) (pc := 57) hC dX8_writeSet_57 fl_RX8_30 lX_41 rfl ?_
        refine r_get (kd := 0) (v := wi_first_31) (pc := 60) hC dX8_writeSet_60 fl_RX8_64 lX_34 rfl rfl ?_
        refine r_iconst (pc := 63) hC dX8_writeSet_63 (rng_lit rfl) ?_
        refine r_ic_ne (pc := 64) (tgt := 70) hC dX8_writeSet_64 rfl (fun hc6 => ?_) (fun hc6 => ?_)
        · have h := h.1 hc6
          exact r_to [true, true, true, true, true, true, false, false] rfl rfl (S3 h)
        have h := h.2 hc6
        refine r_goto (tgt := 229) (pc := 67) hC dX8_writeSet_67 rfl ?_
        exact r_to [true, true, true, true, true, true, false, false] rfl rfl (S2 wr_layers_5 wr_bytes_6 wi_first_31 wi_last_32 wi_worth_33 wi_whole_34 wr_length_11 wr_strongBegun_12 wr_softBegun_13 x14 x15 h)
      have h := h.2 hc8
      refine r_goto (tgt := 229) (pc := 33) hC dX8_writeSet_33 rfl ?_
      exact r_to [true, true, true, true, true, true, false, false] rfl rfl (S2 wr_layers_5 wr_bytes_6 wi_first_7 wi_last_8 wi_worth_9 wi_whole_10 wr_length_11 wr_strongBegun_12 wr_softBegun_13 x14 x15 h)
  exact r_to [true, true, true, true, true, true, false, false] rfl rfl (S1 _ wr_layers_1 (w.1 43) (w.1 34 5) (w.1 34 6) (w.1 34 7) (w.1 34 8) wr_length_2 wr_strongBegun_3 wr_softBegun_4 (-1) 0 0 (Nat.lt_succ_self _) hI1)
def wp_Picker_feed (tp_bytes : (Nat → Int)) (tp_length : Int) (a1 : Int) (a2 : Int) (a3 : Int) (a4 : Int) (a5 : Int) (Q : Int → (Nat → Int) → Int → Prop) : Prop := (rng (tp_length + 20)) ∧ (((tp_length + 20) ≤ 600 → wp_Tape_append tp_bytes tp_length a1 (fun (tp_bytes_1 : (Nat → Int)) (tp_length_2 : Int) => wp_Tape_append tp_bytes_1 tp_length_2 a2 (fun (tp_bytes_3 : (Nat → Int)) (tp_length_4 : Int) => wp_Tape_append tp_bytes_3 tp_length_4 a3 (fun (tp_bytes_5 : (Nat → Int)) (tp_length_6 : Int) => wp_Tape_append tp_bytes_5 tp_length_6 a4 (fun (tp_bytes_7 : (Nat → Int)) (tp_length_8 : Int) => wp_Tape_append tp_bytes_7 tp_length_8 a5 (fun (tp_bytes_9 : (Nat → Int)) (tp_length_10 : Int) => Q tp_length_10 tp_bytes_9 tp_length_10)))))) ∧ (¬ (tp_length + 20) ≤ 600 → Q (-1) tp_bytes tp_length))
set_option maxHeartbeats 4000000 in
set_option maxRecDepth 20000 in
theorem s_Picker_feed (l : Launch) (w : St) (a1 : Int) (a2 : Int) (a3 : Int) (a4 : Int) (a5 : Int) (P : Int → (Nat → Int) → Int → Prop) (h : wp_Picker_feed (w.1 2) (w.1 1 1) a1 a2 a3 a4 a5 P) : Cn l yX9_feed cX9_feed 6 (some .int) 1 LX w [aR 0, aI a1, aI a2, aI a3, aI a4, aI a5] (okI (fun r w1 => ∃ (o0 : (Nat → Int)) (o1 : Int), w1 = (wI (wA w 2 o0) 1 1 o1) ∧ P r o0 o1)) := by
  unfold wp_Picker_feed at h
  refine Cn.of2 [some (aR 0), some (aI a1), some (aI a2), some (aI a3), some (aI a4), some (aI a5)] (by decide) (Nat.le_of_ble_eq_true rfl) rfl (fun p e s m args below meth c D cA ad A Q hQ hC hr hk => ?_)
  refine r_aload_n (pc := 0) hC 0 dX9_feed_0 rfl rfl ?_
  refine r_getr (r := 1) (pc := 1) hC dX9_feed_1 fl_RX9_10 lX_0 rfl ?_
  refine r_get (kd := 0) (v := (w.1 1 1)) (pc := 4) hC dX9_feed_4 fl_RX9_80 lX_1 rfl rfl ?_
  refine r_bipush (pc := 7) hC dX9_feed_7 ⟨rfl, rng_lit rfl⟩ ?_
  refine r_iadd (pc := 9) hC dX9_feed_9 h.1 ?_
  have h := h.2
  refine r_sipush (pc := 10) hC dX9_feed_10 ⟨rfl, rng_lit rfl⟩ ?_
  refine r_ic_le (pc := 13) (tgt := 18) hC dX9_feed_13 rfl (fun hc1 => ?_) (fun hc1 => ?_)
  · have h := h.1 hc1
    refine r_aload_n (pc := 18) hC 0 dX9_feed_18 rfl rfl ?_
    refine r_getr (r := 1) (pc := 19) hC dX9_feed_19 fl_RX9_10 lX_0 rfl ?_
    refine r_iload_n (pc := 22) hC 1 dX9_feed_22 rfl rfl ?_
    refine r_callVv (pc := 23) hC [aI a1] [] dX9_feed_23 ml_RX9_83 my_X6_append mi_X6_append lX_1 rfl rfl ⟨Nat.le_of_ble_eq_true rfl, Nat.le_of_ble_eq_true rfl⟩ ⟨Nat.le_of_ble_eq_true rfl, Nat.le_of_ble_eq_true rfl⟩ (Nat.le_of_ble_eq_true rfl) rfl (s_Tape_append l _ _ _ h) (fun w1 hq => ?_)
    obtain ⟨tp_bytes_1, tp_length_2, e9, h⟩ := hq
    rw [e9]
    refine r_aload_n (pc := 26) hC 0 dX9_feed_26 rfl rfl ?_
    refine r_getr (r := 1) (pc := 27) hC dX9_feed_27 fl_RX9_10 lX_0 rfl ?_
    refine r_iload_n (pc := 30) hC 2 dX9_feed_30 rfl rfl ?_
    refine r_callVv (pc := 31) hC [aI a2] [] dX9_feed_31 ml_RX9_83 my_X6_append mi_X6_append lX_1 rfl rfl ⟨Nat.le_of_ble_eq_true rfl, Nat.le_of_ble_eq_true rfl⟩ ⟨Nat.le_of_ble_eq_true rfl, Nat.le_of_ble_eq_true rfl⟩ (Nat.le_of_ble_eq_true rfl) rfl (s_Tape_append l _ _ _ h) (fun w1 hq => ?_)
    obtain ⟨tp_bytes_3, tp_length_4, e9, h⟩ := hq
    rw [e9]
    refine r_aload_n (pc := 34) hC 0 dX9_feed_34 rfl rfl ?_
    refine r_getr (r := 1) (pc := 35) hC dX9_feed_35 fl_RX9_10 lX_0 rfl ?_
    refine r_iload_n (pc := 38) hC 3 dX9_feed_38 rfl rfl ?_
    refine r_callVv (pc := 39) hC [aI a3] [] dX9_feed_39 ml_RX9_83 my_X6_append mi_X6_append lX_1 rfl rfl ⟨Nat.le_of_ble_eq_true rfl, Nat.le_of_ble_eq_true rfl⟩ ⟨Nat.le_of_ble_eq_true rfl, Nat.le_of_ble_eq_true rfl⟩ (Nat.le_of_ble_eq_true rfl) rfl (s_Tape_append l _ _ _ h) (fun w1 hq => ?_)
    obtain ⟨tp_bytes_5, tp_length_6, e9, h⟩ := hq
    rw [e9]
    refine r_aload_n (pc := 42) hC 0 dX9_feed_42 rfl rfl ?_
    refine r_getr (r := 1) (pc := 43) hC dX9_feed_43 fl_RX9_10 lX_0 rfl ?_
    refine r_iload (pc := 46) hC dX9_feed_46 rfl ?_
    refine r_callVv (pc := 48) hC [aI a4] [] dX9_feed_48 ml_RX9_83 my_X6_append mi_X6_append lX_1 rfl rfl ⟨Nat.le_of_ble_eq_true rfl, Nat.le_of_ble_eq_true rfl⟩ ⟨Nat.le_of_ble_eq_true rfl, Nat.le_of_ble_eq_true rfl⟩ (Nat.le_of_ble_eq_true rfl) rfl (s_Tape_append l _ _ _ h) (fun w1 hq => ?_)
    obtain ⟨tp_bytes_7, tp_length_8, e9, h⟩ := hq
    rw [e9]
    refine r_aload_n (pc := 51) hC 0 dX9_feed_51 rfl rfl ?_
    refine r_getr (r := 1) (pc := 52) hC dX9_feed_52 fl_RX9_10 lX_0 rfl ?_
    refine r_iload (pc := 55) hC dX9_feed_55 rfl ?_
    refine r_callVv (pc := 57) hC [aI a5] [] dX9_feed_57 ml_RX9_83 my_X6_append mi_X6_append lX_1 rfl rfl ⟨Nat.le_of_ble_eq_true rfl, Nat.le_of_ble_eq_true rfl⟩ ⟨Nat.le_of_ble_eq_true rfl, Nat.le_of_ble_eq_true rfl⟩ (Nat.le_of_ble_eq_true rfl) rfl (s_Tape_append l _ _ _ h) (fun w1 hq => ?_)
    obtain ⟨tp_bytes_9, tp_length_10, e9, h⟩ := hq
    rw [e9]
    refine r_aload_n (pc := 60) hC 0 dX9_feed_60 rfl rfl ?_
    refine r_getr (r := 1) (pc := 61) hC dX9_feed_61 fl_RX9_10 lX_0 rfl ?_
    refine r_get (kd := 0) (v := tp_length_10) (pc := 64) hC dX9_feed_64 fl_RX9_80 lX_1 rfl rfl ?_
    refine r_conv (w2 := (wI (wA w 2 tp_bytes_9) 1 1 tp_length_10)) rfl ?_
    exact r_reti (pc := 67) (kd := 0) hC hQ dX9_feed_67 hr hk (by decide) (Or.inl rfl) ⟨tp_bytes_9, tp_length_10, rfl, h⟩
  have h := h.2 hc1
  refine r_iconst (pc := 16) hC dX9_feed_16 (rng_lit rfl) ?_
  refine r_conv (w2 := (wI (wA w 2 (w.1 2)) 1 1 (w.1 1 1))) rfl ?_
  exact r_reti (pc := 17) (kd := 0) hC hQ dX9_feed_17 hr hk (by decide) (Or.inl rfl) ⟨(w.1 2), (w.1 1 1), rfl, h⟩
def wp_Picker_end (tp_length : Int) (a1 : Int) (Q : Int → Int → Prop) : Prop := (a1 < 0 → Q 0 tp_length) ∧ (¬ a1 < 0 → (a1 ≤ tp_length → Q 1 a1) ∧ (¬ a1 ≤ tp_length → Q 0 tp_length))
set_option maxHeartbeats 4000000 in
set_option maxRecDepth 20000 in
theorem s_Picker_end (l : Launch) (w : St) (a1 : Int) (P : Int → Int → Prop) (h : wp_Picker_end (w.1 1 1) a1 P) : Cn l yX9_end cX9_end 2 (some .boolean) 0 LX w [aR 0, aI a1] (okI (fun r w1 => ∃ (o0 : Int), w1 = (wI w 1 1 o0) ∧ P r o0)) := by
  unfold wp_Picker_end at h
  refine Cn.of2 [some (aR 0), some (aI a1)] (by decide) (Nat.le_of_ble_eq_true rfl) rfl (fun p e s m args below meth c D cA ad A Q hQ hC hr hk => ?_)
  refine r_iload_n (pc := 0) hC 1 dX9_end_0 rfl rfl ?_
  refine r_if_lt (pc := 1) (tgt := 15) hC dX9_end_1 rfl (fun hc2 => ?_) (fun hc2 => ?_)
  · have h := h.1 hc2
    refine r_iconst (pc := 15) hC dX9_end_15 (rng_lit rfl) ?_
    refine r_conv (w2 := (wI w 1 1 (w.1 1 1))) rfl ?_
    exact r_reti (pc := 16) (kd := 1) hC hQ dX9_end_16 hr hk (by decide) (Or.inr okK1_0) ⟨(w.1 1 1), rfl, h⟩
  have h := h.2 hc2
  refine r_iload_n (pc := 4) hC 1 dX9_end_4 rfl rfl ?_
  refine r_aload_n (pc := 5) hC 0 dX9_end_5 rfl rfl ?_
  refine r_getr (r := 1) (pc := 6) hC dX9_end_6 fl_RX9_10 lX_0 rfl ?_
  refine r_get (kd := 0) (v := (w.1 1 1)) (pc := 9) hC dX9_end_9 fl_RX9_80 lX_1 rfl rfl ?_
  refine r_ic_le (pc := 12) (tgt := 17) hC dX9_end_12 rfl (fun hc1 => ?_) (fun hc1 => ?_)
  · have h := h.1 hc1
    refine r_aload_n (pc := 17) hC 0 dX9_end_17 rfl rfl ?_
    refine r_getr (r := 1) (pc := 18) hC dX9_end_18 fl_RX9_10 lX_0 rfl ?_
    refine r_iload_n (pc := 21) hC 1 dX9_end_21 rfl rfl ?_
    refine r_put (kd := 0) (pc := 22) hC dX9_end_22 pl_RX9_80 lX_1 rfl (by decide) (Or.inl rfl) ?_
    refine r_iconst (pc := 25) hC dX9_end_25 (rng_lit rfl) ?_
    refine r_conv (w2 := (wI w 1 1 a1)) rfl ?_
    exact r_reti (pc := 26) (kd := 1) hC hQ dX9_end_26 hr hk (by decide) (Or.inr okK1_1) ⟨a1, rfl, h⟩
  have h := h.2 hc1
  refine r_iconst (pc := 15) hC dX9_end_15 (rng_lit rfl) ?_
  refine r_conv (w2 := (wI w 1 1 (w.1 1 1))) rfl ?_
  exact r_reti (pc := 16) (kd := 1) hC hQ dX9_end_16 hr hk (by decide) (Or.inr okK1_0) ⟨(w.1 1 1), rfl, h⟩
def wp_Picker_page (tp_bytes : (Nat → Int)) (pg_bytes : (Nat → Int)) (pg_letterAt : (Nat → Int)) (pg_signAt : (Nat → Int)) (pg_wordBegin : (Nat → Int)) (pg_wordEnd : (Nat → Int)) (pg_wordSentence : (Nat → Int)) (pg_wordAlike : (Nat → Int)) (pg_sentenceBegin : (Nat → Int)) (pg_sentenceEnd : (Nat → Int)) (pg_sentenceSigns : (Nat → Int)) (pg_sentenceFirst : (Nat → Int)) (pg_sentenceWords : (Nat → Int)) (qy_termCounts : (Nat → Int)) (qy_termSizes : (Nat → Int)) (qy_letters : (Nat → Int)) (mt_beginning : (Nat → Int)) (mt_ending : (Nat → Int)) (mt_touching : (Nat → Int)) (sr_tooLike : (Nat → Int)) (tp_length : Int) (pg_length : Int) (pg_signs : Int) (pg_words : Int) (pg_sentences : Int) (qy_starredTerms : Int) (qy_items : Int) (mt_total : Int) (se_limit : Int) (se_chosen : Int) (se_bestKnown : Int) (pg_lowWords : (Nat → Int64)) (pg_highWords : (Nat → Int64)) (mt_tallies : (Nat → Int64)) (Q : Int → (Nat → Int) → (Nat → Int) → (Nat → Int) → (Nat → Int) → (Nat → Int) → (Nat → Int) → (Nat → Int) → (Nat → Int) → (Nat → Int) → (Nat → Int) → (Nat → Int) → (Nat → Int) → (Nat → Int) → (Nat → Int) → (Nat → Int) → (Nat → Int) → Int → Int → Int → Int → Int → Int → Int → Int → (Nat → Int64) → (Nat → Int64) → (Nat → Int64) → Prop) : Prop := wp_Page_readFrom tp_bytes pg_bytes pg_letterAt pg_signAt pg_wordBegin pg_wordEnd pg_wordSentence pg_wordAlike pg_sentenceBegin pg_sentenceEnd pg_sentenceSigns pg_sentenceFirst pg_sentenceWords tp_length pg_length pg_signs pg_words pg_sentences pg_lowWords pg_highWords (fun (pg_bytes_1 : (Nat → Int)) (pg_letterAt_2 : (Nat → Int)) (pg_signAt_3 : (Nat → Int)) (pg_wordBegin_4 : (Nat → Int)) (pg_wordEnd_5 : (Nat → Int)) (pg_wordSentence_6 : (Nat → Int)) (pg_wordAlike_7 : (Nat → Int)) (pg_sentenceBegin_8 : (Nat → Int)) (pg_sentenceEnd_9 : (Nat → Int)) (pg_sentenceSigns_10 : (Nat → Int)) (pg_sentenceFirst_11 : (Nat → Int)) (pg_sentenceWords_12 : (Nat → Int)) (pg_length_13 : Int) (pg_signs_14 : Int) (pg_words_15 : Int) (pg_sentences_16 : Int) (pg_lowWords_17 : (Nat → Int64)) (pg_highWords_18 : (Nat → Int64)) => wp_Matches_findAll pg_bytes_1 pg_wordBegin_4 pg_wordEnd_5 pg_wordSentence_6 pg_sentenceFirst_11 pg_sentenceWords_12 qy_termCounts qy_termSizes qy_letters mt_beginning mt_ending mt_touching pg_length_13 pg_words_15 qy_starredTerms qy_items mt_total mt_tallies (fun (mt_beginning_19 : (Nat → Int)) (mt_ending_20 : (Nat → Int)) (mt_touching_21 : (Nat → Int)) (mt_total_22 : Int) (mt_tallies_23 : (Nat → Int64)) => wp_Sets_startAnew sr_tooLike pg_sentences_16 se_limit se_chosen se_bestKnown pg_lowWords_17 pg_highWords_18 (fun (sr_tooLike_24 : (Nat → Int)) (se_chosen_25 : Int) (se_bestKnown_26 : Int) => Q pg_sentences_16 pg_bytes_1 pg_letterAt_2 pg_signAt_3 pg_wordBegin_4 pg_wordEnd_5 pg_wordSentence_6 pg_wordAlike_7 pg_sentenceBegin_8 pg_sentenceEnd_9 pg_sentenceSigns_10 pg_sentenceFirst_11 pg_sentenceWords_12 mt_beginning_19 mt_ending_20 mt_touching_21 sr_tooLike_24 0 pg_length_13 pg_signs_14 pg_words_15 pg_sentences_16 mt_total_22 se_chosen_25 se_bestKnown_26 pg_lowWords_17 pg_highWords_18 mt_tallies_23)))
set_option maxHeartbeats 4000000 in
set_option maxRecDepth 20000 in
theorem s_Picker_page (l : Launch) (w : St) (P : Int → (Nat → Int) → (Nat → Int) → (Nat → Int) → (Nat → Int) → (Nat → Int) → (Nat → Int) → (Nat → Int) → (Nat → Int) → (Nat → Int) → (Nat → Int) → (Nat → Int) → (Nat → Int) → (Nat → Int) → (Nat → Int) → (Nat → Int) → (Nat → Int) → Int → Int → Int → Int → Int → Int → Int → Int → (Nat → Int64) → (Nat → Int64) → (Nat → Int64) → Prop) (h : wp_Picker_page (w.1 2) (w.1 4) (w.1 5) (w.1 6) (w.1 7) (w.1 8) (w.1 9) (w.1 10) (w.1 11) (w.1 12) (w.1 13) (w.1 14) (w.1 15) (w.1 20) (w.1 21) (w.1 22) (w.1 30) (w.1 31) (w.1 32) (w.1 40) (w.1 1 1) (w.1 3 14) (w.1 3 15) (w.1 3 16) (w.1 3 17) (w.1 18 4) (w.1 18 6) (w.1 29 6) (w.1 37 6) (w.1 37 7) (w.1 37 10) (w.2 16) (w.2 17) (w.2 33) P) : Cn l yX9_page cX9_page 1 (some .int) 6 LX w [aR 0] (okI (fun r w1 => ∃ (o0 : (Nat → Int)) (o1 : (Nat → Int)) (o2 : (Nat → Int)) (o3 : (Nat → Int)) (o4 : (Nat → Int)) (o5 : (Nat → Int)) (o6 : (Nat → Int)) (o7 : (Nat → Int)) (o8 : (Nat → Int)) (o9 : (Nat → Int)) (o10 : (Nat → Int)) (o11 : (Nat → Int)) (o12 : (Nat → Int)) (o13 : (Nat → Int)) (o14 : (Nat → Int)) (o15 : (Nat → Int)) (o16 : Int) (o17 : Int) (o18 : Int) (o19 : Int) (o20 : Int) (o21 : Int) (o22 : Int) (o23 : Int) (o24 : (Nat → Int64)) (o25 : (Nat → Int64)) (o26 : (Nat → Int64)), w1 = (wB (wB (wB (wI (wI (wI (wI (wI (wI (wI (wI (wA (wA (wA (wA (wA (wA (wA (wA (wA (wA (wA (wA (wA (wA (wA (wA w 4 o0) 5 o1) 6 o2) 7 o3) 8 o4) 9 o5) 10 o6) 11 o7) 12 o8) 13 o9) 14 o10) 15 o11) 30 o12) 31 o13) 32 o14) 40 o15) 1 1 o16) 3 14 o17) 3 15 o18) 3 16 o19) 3 17 o20) 29 6 o21) 37 7 o22) 37 10 o23) 16 o24) 17 o25) 33 o26) ∧ P r o0 o1 o2 o3 o4 o5 o6 o7 o8 o9 o10 o11 o12 o13 o14 o15 o16 o17 o18 o19 o20 o21 o22 o23 o24 o25 o26)) := by
  unfold wp_Picker_page at h
  refine Cn.of2 [some (aR 0)] (by decide) (Nat.le_of_ble_eq_true rfl) rfl (fun p e s m args below meth c D cA ad A Q hQ hC hr hk => ?_)
  refine r_aload_n (pc := 0) hC 0 dX9_page_0 rfl rfl ?_
  refine r_getr (r := 3) (pc := 1) hC dX9_page_1 fl_RX9_19 lX_0 rfl ?_
  refine r_aload_n (pc := 4) hC 0 dX9_page_4 rfl rfl ?_
  refine r_getr (r := 1) (pc := 5) hC dX9_page_5 fl_RX9_10 lX_0 rfl ?_
  refine r_callVv (pc := 8) hC [aR 1] [] dX9_page_8 ml_RX9_87 my_X1_readFrom mi_X1_readFrom lX_3 rfl rfl ⟨Nat.le_of_ble_eq_true rfl, Nat.le_of_ble_eq_true rfl⟩ ⟨Nat.le_of_ble_eq_true rfl, Nat.le_of_ble_eq_true rfl⟩ (Nat.le_of_ble_eq_true rfl) rfl (s_Page_readFrom l _ _ h) (fun w1 hq => ?_)
  obtain ⟨pg_bytes_1, pg_letterAt_2, pg_signAt_3, pg_wordBegin_4, pg_wordEnd_5, pg_wordSentence_6, pg_wordAlike_7, pg_sentenceBegin_8, pg_sentenceEnd_9, pg_sentenceSigns_10, pg_sentenceFirst_11, pg_sentenceWords_12, pg_length_13, pg_signs_14, pg_words_15, pg_sentences_16, pg_lowWords_17, pg_highWords_18, e9, h⟩ := hq
  rw [e9]
  refine r_aload_n (pc := 11) hC 0 dX9_page_11 rfl rfl ?_
  refine r_getr (r := 1) (pc := 12) hC dX9_page_12 fl_RX9_10 lX_0 rfl ?_
  refine r_iconst (pc := 15) hC dX9_page_15 (rng_lit rfl) ?_
  refine r_put (kd := 0) (pc := 16) hC dX9_page_16 pl_RX9_80 lX_1 rfl (by decide) (Or.inl rfl) ?_
  refine r_aload_n (pc := 19) hC 0 dX9_page_19 rfl rfl ?_
  refine r_getr (r := 29) (pc := 20) hC dX9_page_20 fl_RX9_47 lX_0 rfl ?_
  refine r_callVv (pc := 23) hC [] [] dX9_page_23 ml_RX9_91 my_X0_findAll mi_X0_findAll lX_29 rfl rfl ⟨Nat.le_of_ble_eq_true rfl, Nat.le_of_ble_eq_true rfl⟩ ⟨Nat.le_of_ble_eq_true rfl, Nat.le_of_ble_eq_true rfl⟩ (Nat.le_of_ble_eq_true rfl) rfl (s_Matches_findAll l _ _ h) (fun w1 hq => ?_)
  obtain ⟨mt_beginning_19, mt_ending_20, mt_touching_21, mt_total_22, mt_tallies_23, e9, h⟩ := hq
  rw [e9]
  refine r_aload_n (pc := 26) hC 0 dX9_page_26 rfl rfl ?_
  refine r_getr (r := 37) (pc := 27) hC dX9_page_27 fl_RX9_63 lX_0 rfl ?_
  refine r_callVv (pc := 30) hC [] [] dX9_page_30 ml_RX9_94 my_X5_startAnew mi_X5_startAnew lX_37 rfl rfl ⟨Nat.le_of_ble_eq_true rfl, Nat.le_of_ble_eq_true rfl⟩ ⟨Nat.le_of_ble_eq_true rfl, Nat.le_of_ble_eq_true rfl⟩ (Nat.le_of_ble_eq_true rfl) rfl (s_Sets_startAnew l _ _ h) (fun w1 hq => ?_)
  obtain ⟨sr_tooLike_24, se_chosen_25, se_bestKnown_26, e9, h⟩ := hq
  rw [e9]
  refine r_aload_n (pc := 33) hC 0 dX9_page_33 rfl rfl ?_
  refine r_getr (r := 3) (pc := 34) hC dX9_page_34 fl_RX9_19 lX_0 rfl ?_
  refine r_get (kd := 0) (v := pg_sentences_16) (pc := 37) hC dX9_page_37 fl_RX9_97 lX_3 rfl rfl ?_
  refine r_conv (w2 := (wB (wB (wB (wI (wI (wI (wI (wI (wI (wI (wI (wA (wA (wA (wA (wA (wA (wA (wA (wA (wA (wA (wA (wA (wA (wA (wA w 4 pg_bytes_1) 5 pg_letterAt_2) 6 pg_signAt_3) 7 pg_wordBegin_4) 8 pg_wordEnd_5) 9 pg_wordSentence_6) 10 pg_wordAlike_7) 11 pg_sentenceBegin_8) 12 pg_sentenceEnd_9) 13 pg_sentenceSigns_10) 14 pg_sentenceFirst_11) 15 pg_sentenceWords_12) 30 mt_beginning_19) 31 mt_ending_20) 32 mt_touching_21) 40 sr_tooLike_24) 1 1 0) 3 14 pg_length_13) 3 15 pg_signs_14) 3 16 pg_words_15) 3 17 pg_sentences_16) 29 6 mt_total_22) 37 7 se_chosen_25) 37 10 se_bestKnown_26) 16 pg_lowWords_17) 17 pg_highWords_18) 33 mt_tallies_23)) rfl ?_
  exact r_reti (pc := 40) (kd := 0) hC hQ dX9_page_40 hr hk (by decide) (Or.inl rfl) ⟨pg_bytes_1, pg_letterAt_2, pg_signAt_3, pg_wordBegin_4, pg_wordEnd_5, pg_wordSentence_6, pg_wordAlike_7, pg_sentenceBegin_8, pg_sentenceEnd_9, pg_sentenceSigns_10, pg_sentenceFirst_11, pg_sentenceWords_12, mt_beginning_19, mt_ending_20, mt_touching_21, sr_tooLike_24, 0, pg_length_13, pg_signs_14, pg_words_15, pg_sentences_16, mt_total_22, se_chosen_25, se_bestKnown_26, pg_lowWords_17, pg_highWords_18, mt_tallies_23, rfl, h⟩
def wp_Picker_fault (pp_fault : Int) (Q : Int → Prop) : Prop := Q pp_fault
set_option maxHeartbeats 4000000 in
set_option maxRecDepth 20000 in
theorem s_Picker_fault (l : Launch) (w : St) (P : Int → Prop) (h : wp_Picker_fault (w.1 0 9) P) : Cn l yX9_fault cX9_fault 1 (some .int) 0 LX w [aR 0] (okI (fun r w1 => w1 = w ∧ P r)) := by
  unfold wp_Picker_fault at h
  refine Cn.of2 [some (aR 0)] (by decide) (Nat.le_of_ble_eq_true rfl) rfl (fun p e s m args below meth c D cA ad A Q hQ hC hr hk => ?_)
  refine r_aload_n (pc := 0) hC 0 dX9_fault_0 rfl rfl ?_
  refine r_get (kd := 0) (v := (w.1 0 9)) (pc := 1) hC dX9_fault_1 fl_RX9_76 lX_0 rfl rfl ?_
  exact r_reti (pc := 4) (kd := 0) hC hQ dX9_fault_4 hr hk (by decide) (Or.inl rfl) ⟨rfl, h⟩
def wp_Picker_sign (pg_signAt : (Nat → Int)) (pg_length : Int) (a1 : Int) (Q : Int → Prop) : Prop := wp_Page_beginOfSign pg_signAt pg_length a1 (fun (r1 : Int) => Q r1)
set_option maxHeartbeats 4000000 in
set_option maxRecDepth 20000 in
theorem s_Picker_sign (l : Launch) (w : St) (a1 : Int) (P : Int → Prop) (h : wp_Picker_sign (w.1 6) (w.1 3 14) a1 P) : Cn l yX9_sign cX9_sign 2 (some .int) 1 LX w [aR 0, aI a1] (okI (fun r w1 => w1 = w ∧ P r)) := by
  unfold wp_Picker_sign at h
  refine Cn.of2 [some (aR 0), some (aI a1)] (by decide) (Nat.le_of_ble_eq_true rfl) rfl (fun p e s m args below meth c D cA ad A Q hQ hC hr hk => ?_)
  refine r_aload_n (pc := 0) hC 0 dX9_sign_0 rfl rfl ?_
  refine r_getr (r := 3) (pc := 1) hC dX9_sign_1 fl_RX9_19 lX_0 rfl ?_
  refine r_iload_n (pc := 4) hC 1 dX9_sign_4 rfl rfl ?_
  refine r_callVi (pc := 5) hC [aI a1] [] dX9_sign_5 ml_RX9_139 my_X1_beginOfSign mi_X1_beginOfSign lX_3 rfl rfl ⟨Nat.le_of_ble_eq_true rfl, Nat.le_of_ble_eq_true rfl⟩ ⟨Nat.le_of_ble_eq_true rfl, Nat.le_of_ble_eq_true rfl⟩ (Nat.le_of_ble_eq_true rfl) rfl (s_Page_beginOfSign l _ _ _ h) (fun r1 w1 hq => ?_)
  obtain ⟨e9, h⟩ := hq
  rw [e9]
  exact r_reti (pc := 8) (kd := 0) hC hQ dX9_sign_8 hr hk (by decide) (Or.inl rfl) ⟨rfl, h⟩
def wp_Picker_signOf (pg_signAt : (Nat → Int)) (pg_length : Int) (a1 : Int) (Q : Int → Prop) : Prop := jn0 (fun (J1 : Prop) => (a1 < 0 → J1) ∧ (¬ a1 < 0 → (a1 < pg_length → (0 ≤ a1 ∧ a1 < 601) ∧ (Q (pg_signAt (Int.toNat a1)))) ∧ (¬ a1 < pg_length → J1))) (Q (-1))
set_option maxHeartbeats 4000000 in
set_option maxRecDepth 20000 in
theorem s_Picker_signOf (l : Launch) (w : St) (a1 : Int) (P : Int → Prop) (h : wp_Picker_signOf (w.1 6) (w.1 3 14) a1 P) : Cn l yX9_signOf cX9_signOf 2 (some .int) 0 LX w [aR 0, aI a1] (okI (fun r w1 => w1 = w ∧ P r)) := by
  unfold wp_Picker_signOf at h
  refine Cn.of2 [some (aR 0), some (aI a1)] (by decide) (Nat.le_of_ble_eq_true rfl) rfl (fun p e s m args below meth c D cA ad A Q hQ hC hr hk => ?_)
  refine r_iload_n (pc := 0) hC 1 dX9_signOf_0 rfl rfl ?_
  obtain ⟨J1, hJ1, h⟩ := h
  have S1 : J1 → Wd p l e (rmD 0) s m args below meth c Q 0 0 2 D cA ad A LX w 15 [none, none] [] := by
    intro hj
    have h := hJ1 hj
    refine r_iconst (pc := 15) hC dX9_signOf_15 (rng_lit rfl) ?_
    refine r_goto (tgt := 28) (pc := 16) hC dX9_signOf_16 rfl ?_
    exact r_reti (pc := 28) (kd := 0) hC hQ dX9_signOf_28 hr hk (by decide) (Or.inl rfl) ⟨rfl, h⟩
  refine r_if_lt (pc := 1) (tgt := 15) hC dX9_signOf_1 rfl (fun hc2 => ?_) (fun hc2 => ?_)
  · have h := h.1 hc2
    exact r_to [false, false] rfl rfl (S1 h)
  have h := h.2 hc2
  refine r_iload_n (pc := 4) hC 1 dX9_signOf_4 rfl rfl ?_
  refine r_aload_n (pc := 5) hC 0 dX9_signOf_5 rfl rfl ?_
  refine r_getr (r := 3) (pc := 6) hC dX9_signOf_6 fl_RX9_19 lX_0 rfl ?_
  refine r_get (kd := 0) (v := (w.1 3 14)) (pc := 9) hC dX9_signOf_9 fl_RX9_142 lX_3 rfl rfl ?_
  refine r_ic_lt (pc := 12) (tgt := 19) hC dX9_signOf_12 rfl (fun hc1 => ?_) (fun hc1 => ?_)
  · have h := h.1 hc1
    refine r_aload_n (pc := 19) hC 0 dX9_signOf_19 rfl rfl ?_
    refine r_getr (r := 3) (pc := 20) hC dX9_signOf_20 fl_RX9_19 lX_0 rfl ?_
    refine r_getr (r := 6) (pc := 23) hC dX9_signOf_23 fl_RX9_143 lX_3 rfl ?_
    refine r_iload_n (pc := 26) hC 1 dX9_signOf_26 rfl rfl ?_
    refine r_iald (v := ((w.1 6) (Int.toNat a1))) (pc := 27) hC dX9_signOf_27 lX_6 h.1.1 h.1.2 rfl ?_
    have h := h.2
    exact r_reti (pc := 28) (kd := 0) hC hQ dX9_signOf_28 hr hk (by decide) (Or.inl rfl) ⟨rfl, h⟩
  have h := h.2 hc1
  exact r_to [false, false] rfl rfl (S1 h)
def wp_Picker_step (pg_sentenceSigns : (Nat → Int)) (qy_weights : (Nat → Int)) (se_steps : (Nat → Int)) (sr_tooLike : (Nat → Int)) (pg_sentences : Int) (qy_items : Int) (se_budget : Int) (se_most : Int) (se_stepCount : Int) (mt_tallies : (Nat → Int64)) (a1 : Int) (Q : Int → (Nat → Int) → Int → Prop) : Prop := wp_Sets_makeSteps pg_sentenceSigns qy_weights se_steps sr_tooLike pg_sentences qy_items se_budget se_most se_stepCount mt_tallies (fun (r1 : Int) (se_steps_2 : (Nat → Int)) (se_stepCount_3 : Int) => jn0 (fun (J1 : Prop) => (a1 < 0 → J1) ∧ (¬ a1 < 0 → (a1 < se_stepCount_3 → (0 ≤ a1 ∧ a1 < 6) ∧ (Q (se_steps_2 (Int.toNat a1)) se_steps_2 se_stepCount_3)) ∧ (¬ a1 < se_stepCount_3 → J1))) (Q (-1) se_steps_2 se_stepCount_3))
set_option maxHeartbeats 4000000 in
set_option maxRecDepth 20000 in
theorem s_Picker_step (l : Launch) (w : St) (a1 : Int) (P : Int → (Nat → Int) → Int → Prop) (h : wp_Picker_step (w.1 13) (w.1 19) (w.1 38) (w.1 40) (w.1 3 17) (w.1 18 6) (w.1 37 4) (w.1 37 5) (w.1 37 9) (w.2 33) a1 P) : Cn l yX9_step cX9_step 2 (some .int) 5 LX w [aR 0, aI a1] (okI (fun r w1 => ∃ (o0 : (Nat → Int)) (o1 : Int), w1 = (wI (wA w 38 o0) 37 9 o1) ∧ P r o0 o1)) := by
  unfold wp_Picker_step at h
  refine Cn.of2 [some (aR 0), some (aI a1)] (by decide) (Nat.le_of_ble_eq_true rfl) rfl (fun p e s m args below meth c D cA ad A Q hQ hC hr hk => ?_)
  refine r_aload_n (pc := 0) hC 0 dX9_step_0 rfl rfl ?_
  refine r_getr (r := 37) (pc := 1) hC dX9_step_1 fl_RX9_63 lX_0 rfl ?_
  refine r_callVi (pc := 4) hC [] [] dX9_step_4 ml_RX9_297 my_X5_makeSteps mi_X5_makeSteps lX_37 rfl rfl ⟨Nat.le_of_ble_eq_true rfl, Nat.le_of_ble_eq_true rfl⟩ ⟨Nat.le_of_ble_eq_true rfl, Nat.le_of_ble_eq_true rfl⟩ (Nat.le_of_ble_eq_true rfl) rfl (s_Sets_makeSteps l _ _ h) (fun r1 w1 hq => ?_)
  obtain ⟨se_steps_2, se_stepCount_3, e9, h⟩ := hq
  rw [e9]
  refine r_pop (pc := 7) hC dX9_step_7 rfl ?_
  refine r_iload_n (pc := 8) hC 1 dX9_step_8 rfl rfl ?_
  obtain ⟨J1, hJ1, h⟩ := h
  have S1 : J1 → Wd p l e (rmD 5) s m args below meth c Q 0 0 2 D cA ad A LX (wI (wA w 38 se_steps_2) 37 9 se_stepCount_3) 23 [none, none] [] := by
    intro hj
    have h := hJ1 hj
    refine r_iconst (pc := 23) hC dX9_step_23 (rng_lit rfl) ?_
    refine r_goto (tgt := 36) (pc := 24) hC dX9_step_24 rfl ?_
    refine r_conv (w2 := (wI (wA w 38 se_steps_2) 37 9 se_stepCount_3)) rfl ?_
    exact r_reti (pc := 36) (kd := 0) hC hQ dX9_step_36 hr hk (by decide) (Or.inl rfl) ⟨se_steps_2, se_stepCount_3, rfl, h⟩
  refine r_if_lt (pc := 9) (tgt := 23) hC dX9_step_9 rfl (fun hc2 => ?_) (fun hc2 => ?_)
  · have h := h.1 hc2
    exact r_to [false, false] rfl rfl (S1 h)
  have h := h.2 hc2
  refine r_iload_n (pc := 12) hC 1 dX9_step_12 rfl rfl ?_
  refine r_aload_n (pc := 13) hC 0 dX9_step_13 rfl rfl ?_
  refine r_getr (r := 37) (pc := 14) hC dX9_step_14 fl_RX9_63 lX_0 rfl ?_
  refine r_get (kd := 0) (v := se_stepCount_3) (pc := 17) hC dX9_step_17 fl_RX9_300 lX_37 rfl rfl ?_
  refine r_ic_lt (pc := 20) (tgt := 27) hC dX9_step_20 rfl (fun hc1 => ?_) (fun hc1 => ?_)
  · have h := h.1 hc1
    refine r_aload_n (pc := 27) hC 0 dX9_step_27 rfl rfl ?_
    refine r_getr (r := 37) (pc := 28) hC dX9_step_28 fl_RX9_63 lX_0 rfl ?_
    refine r_getr (r := 38) (pc := 31) hC dX9_step_31 fl_RX9_303 lX_37 rfl ?_
    refine r_iload_n (pc := 34) hC 1 dX9_step_34 rfl rfl ?_
    refine r_iald (v := (se_steps_2 (Int.toNat a1))) (pc := 35) hC dX9_step_35 lX_38 h.1.1 h.1.2 rfl ?_
    have h := h.2
    refine r_conv (w2 := (wI (wA w 38 se_steps_2) 37 9 se_stepCount_3)) rfl ?_
    exact r_reti (pc := 36) (kd := 0) hC hQ dX9_step_36 hr hk (by decide) (Or.inl rfl) ⟨se_steps_2, se_stepCount_3, rfl, h⟩
  have h := h.2 hc1
  exact r_to [false, false] rfl rfl (S1 h)
def wp_Picker_choice (pg_sentenceSigns : (Nat → Int)) (qy_weights : (Nat → Int)) (se_steps : (Nat → Int)) (sr_tooLike : (Nat → Int)) (pg_sentences : Int) (qy_items : Int) (se_budget : Int) (se_most : Int) (se_stepCount : Int) (se_bestKnown : Int) (se_best : Int) (sr_most : Int) (sr_room : Int) (sr_enough : Int) (sr_topSet : Int) (sr_topWorth : Int) (sr_topLength : Int) (mt_tallies : (Nat → Int64)) (a1 : Int) (Q : Int → (Nat → Int) → Int → Int → Int → Int → Int → Int → Int → Int → Int → Prop) : Prop := (a1 = 0 → wp_Sets_greedySet pg_sentenceSigns qy_weights se_steps sr_tooLike pg_sentences qy_items se_budget se_most se_stepCount mt_tallies (fun (r1 : Int) (se_steps_2 : (Nat → Int)) (se_stepCount_3 : Int) => Q r1 se_steps_2 se_stepCount_3 se_bestKnown se_best sr_most sr_room sr_enough sr_topSet sr_topWorth sr_topLength)) ∧ (¬ a1 = 0 → wp_Sets_bestSet pg_sentenceSigns qy_weights sr_tooLike pg_sentences qy_items se_budget se_most se_bestKnown se_best sr_most sr_room sr_enough sr_topSet sr_topWorth sr_topLength mt_tallies (fun (r4 : Int) (se_bestKnown_5 : Int) (se_best_6 : Int) (sr_most_7 : Int) (sr_room_8 : Int) (sr_enough_9 : Int) (sr_topSet_10 : Int) (sr_topWorth_11 : Int) (sr_topLength_12 : Int) => Q r4 se_steps se_stepCount se_bestKnown_5 se_best_6 sr_most_7 sr_room_8 sr_enough_9 sr_topSet_10 sr_topWorth_11 sr_topLength_12))
set_option maxHeartbeats 4000000 in
set_option maxRecDepth 20000 in
theorem s_Picker_choice (l : Launch) (w : St) (a1 : Int) (P : Int → (Nat → Int) → Int → Int → Int → Int → Int → Int → Int → Int → Int → Prop) (h : wp_Picker_choice (w.1 13) (w.1 19) (w.1 38) (w.1 40) (w.1 3 17) (w.1 18 6) (w.1 37 4) (w.1 37 5) (w.1 37 9) (w.1 37 10) (w.1 37 11) (w.1 39 4) (w.1 39 5) (w.1 39 6) (w.1 39 7) (w.1 39 8) (w.1 39 9) (w.2 33) a1 P) : Cn l yX9_choice cX9_choice 2 (some .int) 12 LX w [aR 0, aI a1] (okI (fun r w1 => ∃ (o0 : (Nat → Int)) (o1 : Int) (o2 : Int) (o3 : Int) (o4 : Int) (o5 : Int) (o6 : Int) (o7 : Int) (o8 : Int) (o9 : Int), w1 = (wI (wI (wI (wI (wI (wI (wI (wI (wI (wA w 38 o0) 37 9 o1) 37 10 o2) 37 11 o3) 39 4 o4) 39 5 o5) 39 6 o6) 39 7 o7) 39 8 o8) 39 9 o9) ∧ P r o0 o1 o2 o3 o4 o5 o6 o7 o8 o9)) := by
  unfold wp_Picker_choice at h
  refine Cn.of2 [some (aR 0), some (aI a1)] (by decide) (Nat.le_of_ble_eq_true rfl) rfl (fun p e s m args below meth c D cA ad A Q hQ hC hr hk => ?_)
  refine r_iload_n (pc := 0) hC 1 dX9_choice_0 rfl rfl ?_
  refine r_if_eq (pc := 1) (tgt := 14) hC dX9_choice_1 rfl (fun hc1 => ?_) (fun hc1 => ?_)
  · have h := h.1 hc1
    refine r_aload_n (pc := 14) hC 0 dX9_choice_14 rfl rfl ?_
    refine r_getr (r := 37) (pc := 15) hC dX9_choice_15 fl_RX9_63 lX_0 rfl ?_
    refine r_callVi (pc := 18) hC [] [] dX9_choice_18 ml_RX9_309 my_X5_greedySet mi_X5_greedySet lX_37 rfl rfl ⟨Nat.le_of_ble_eq_true rfl, Nat.le_of_ble_eq_true rfl⟩ ⟨Nat.le_of_ble_eq_true rfl, Nat.le_of_ble_eq_true rfl⟩ (Nat.le_of_ble_eq_true rfl) rfl (s_Sets_greedySet l _ _ h) (fun r1 w1 hq => ?_)
    obtain ⟨se_steps_2, se_stepCount_3, e9, h⟩ := hq
    rw [e9]
    refine r_conv (w2 := (wI (wI (wI (wI (wI (wI (wI (wI (wI (wA w 38 se_steps_2) 37 9 se_stepCount_3) 37 10 (w.1 37 10)) 37 11 (w.1 37 11)) 39 4 (w.1 39 4)) 39 5 (w.1 39 5)) 39 6 (w.1 39 6)) 39 7 (w.1 39 7)) 39 8 (w.1 39 8)) 39 9 (w.1 39 9))) rfl ?_
    exact r_reti (pc := 21) (kd := 0) hC hQ dX9_choice_21 hr hk (by decide) (Or.inl rfl) ⟨se_steps_2, se_stepCount_3, (w.1 37 10), (w.1 37 11), (w.1 39 4), (w.1 39 5), (w.1 39 6), (w.1 39 7), (w.1 39 8), (w.1 39 9), rfl, h⟩
  have h := h.2 hc1
  refine r_aload_n (pc := 4) hC 0 dX9_choice_4 rfl rfl ?_
  refine r_getr (r := 37) (pc := 5) hC dX9_choice_5 fl_RX9_63 lX_0 rfl ?_
  refine r_callVi (pc := 8) hC [] [] dX9_choice_8 ml_RX9_306 my_X5_bestSet mi_X5_bestSet lX_37 rfl rfl ⟨Nat.le_of_ble_eq_true rfl, Nat.le_of_ble_eq_true rfl⟩ ⟨Nat.le_of_ble_eq_true rfl, Nat.le_of_ble_eq_true rfl⟩ (Nat.le_of_ble_eq_true rfl) rfl (s_Sets_bestSet l _ _ h) (fun r4 w1 hq => ?_)
  obtain ⟨se_bestKnown_5, se_best_6, sr_most_7, sr_room_8, sr_enough_9, sr_topSet_10, sr_topWorth_11, sr_topLength_12, e9, h⟩ := hq
  rw [e9]
  refine r_goto (tgt := 21) (pc := 11) hC dX9_choice_11 rfl ?_
  refine r_conv (w2 := (wI (wI (wI (wI (wI (wI (wI (wI (wI (wA w 38 (w.1 38)) 37 9 (w.1 37 9)) 37 10 se_bestKnown_5) 37 11 se_best_6) 39 4 sr_most_7) 39 5 sr_room_8) 39 6 sr_enough_9) 39 7 sr_topSet_10) 39 8 sr_topWorth_11) 39 9 sr_topLength_12)) rfl ?_
  exact r_reti (pc := 21) (kd := 0) hC hQ dX9_choice_21 hr hk (by decide) (Or.inl rfl) ⟨(w.1 38), (w.1 37 9), se_bestKnown_5, se_best_6, sr_most_7, sr_room_8, sr_enough_9, sr_topSet_10, sr_topWorth_11, sr_topLength_12, rfl, h⟩
def wp_Picker_take (pg_sentenceSigns : (Nat → Int)) (qy_weights : (Nat → Int)) (se_steps : (Nat → Int)) (sr_tooLike : (Nat → Int)) (pg_sentences : Int) (qy_items : Int) (se_budget : Int) (se_most : Int) (se_chosen : Int) (se_stepCount : Int) (se_bestKnown : Int) (se_best : Int) (sr_most : Int) (sr_room : Int) (sr_enough : Int) (sr_topSet : Int) (sr_topWorth : Int) (sr_topLength : Int) (mt_tallies : (Nat → Int64)) (a1 : Int) (Q : Int → (Nat → Int) → Int → Int → Int → Int → Int → Int → Int → Int → Int → Int → Prop) : Prop := jn11 (fun (J1 : (Nat → Int) → Int → Int → Int → Int → Int → Int → Int → Int → Int → Int → Prop) => (a1 = 0 → wp_Sets_greedySet pg_sentenceSigns qy_weights se_steps sr_tooLike pg_sentences qy_items se_budget se_most se_stepCount mt_tallies (fun (r13 : Int) (se_steps_14 : (Nat → Int)) (se_stepCount_15 : Int) => J1 se_steps_14 se_stepCount_15 se_bestKnown se_best sr_most sr_room sr_enough sr_topSet sr_topWorth sr_topLength r13)) ∧ (¬ a1 = 0 → wp_Sets_bestSet pg_sentenceSigns qy_weights sr_tooLike pg_sentences qy_items se_budget se_most se_bestKnown se_best sr_most sr_room sr_enough sr_topSet sr_topWorth sr_topLength mt_tallies (fun (r16 : Int) (se_bestKnown_17 : Int) (se_best_18 : Int) (sr_most_19 : Int) (sr_room_20 : Int) (sr_enough_21 : Int) (sr_topSet_22 : Int) (sr_topWorth_23 : Int) (sr_topLength_24 : Int) => J1 se_steps se_stepCount se_bestKnown_17 se_best_18 sr_most_19 sr_room_20 sr_enough_21 sr_topSet_22 sr_topWorth_23 sr_topLength_24 r16))) (fun (se_steps_1 : (Nat → Int)) (se_stepCount_2 : Int) (se_bestKnown_3 : Int) (se_best_4 : Int) (sr_most_5 : Int) (sr_room_6 : Int) (sr_enough_7 : Int) (sr_topSet_8 : Int) (sr_topWorth_9 : Int) (sr_topLength_10 : Int) (y11 : Int) => wp_Sets_worthOfSet qy_weights pg_sentences qy_items mt_tallies y11 (fun (r12 : Int) => Q r12 se_steps_1 y11 se_stepCount_2 se_bestKnown_3 se_best_4 sr_most_5 sr_room_6 sr_enough_7 sr_topSet_8 sr_topWorth_9 sr_topLength_10))
set_option maxHeartbeats 4000000 in
set_option maxRecDepth 20000 in
theorem s_Picker_take (l : Launch) (w : St) (a1 : Int) (P : Int → (Nat → Int) → Int → Int → Int → Int → Int → Int → Int → Int → Int → Int → Prop) (h : wp_Picker_take (w.1 13) (w.1 19) (w.1 38) (w.1 40) (w.1 3 17) (w.1 18 6) (w.1 37 4) (w.1 37 5) (w.1 37 7) (w.1 37 9) (w.1 37 10) (w.1 37 11) (w.1 39 4) (w.1 39 5) (w.1 39 6) (w.1 39 7) (w.1 39 8) (w.1 39 9) (w.2 33) a1 P) : Cn l yX9_take cX9_take 2 (some .int) 12 LX w [aR 0, aI a1] (okI (fun r w1 => ∃ (o0 : (Nat → Int)) (o1 : Int) (o2 : Int) (o3 : Int) (o4 : Int) (o5 : Int) (o6 : Int) (o7 : Int) (o8 : Int) (o9 : Int) (o10 : Int), w1 = (wI (wI (wI (wI (wI (wI (wI (wI (wI (wI (wA w 38 o0) 37 7 o1) 37 9 o2) 37 10 o3) 37 11 o4) 39 4 o5) 39 5 o6) 39 6 o7) 39 7 o8) 39 8 o9) 39 9 o10) ∧ P r o0 o1 o2 o3 o4 o5 o6 o7 o8 o9 o10)) := by
  unfold wp_Picker_take at h
  refine Cn.of2 [some (aR 0), some (aI a1)] (by decide) (Nat.le_of_ble_eq_true rfl) rfl (fun p e s m args below meth c D cA ad A Q hQ hC hr hk => ?_)
  refine r_aload_n (pc := 0) hC 0 dX9_take_0 rfl rfl ?_
  refine r_getr (r := 37) (pc := 1) hC dX9_take_1 fl_RX9_63 lX_0 rfl ?_
  refine r_iload_n (pc := 4) hC 1 dX9_take_4 rfl rfl ?_
  obtain ⟨J1, hJ1, h⟩ := h
  have S1 : ∀ (se_steps_1 : (Nat → Int)) (se_stepCount_2 : Int) (se_bestKnown_3 : Int) (se_best_4 : Int) (sr_most_5 : Int) (sr_room_6 : Int) (sr_enough_7 : Int) (sr_topSet_8 : Int) (sr_topWorth_9 : Int) (sr_topLength_10 : Int) (y11 : Int), J1 se_steps_1 se_stepCount_2 se_bestKnown_3 se_best_4 sr_most_5 sr_room_6 sr_enough_7 sr_topSet_8 sr_topWorth_9 sr_topLength_10 y11 → Wd p l e (rmD 12) s m args below meth c Q 0 0 2 D cA ad A LX (wI (wI (wI (wI (wI (wI (wI (wI (wI (wA w 38 se_steps_1) 37 9 se_stepCount_2) 37 10 se_bestKnown_3) 37 11 se_best_4) 39 4 sr_most_5) 39 5 sr_room_6) 39 6 sr_enough_7) 39 7 sr_topSet_8) 39 8 sr_topWorth_9) 39 9 sr_topLength_10) 25 [some (aR 0), none] [aI y11, aR 37] := by
    intro se_steps_1 se_stepCount_2 se_bestKnown_3 se_best_4 sr_most_5 sr_room_6 sr_enough_7 sr_topSet_8 sr_topWorth_9 sr_topLength_10 y11 hj
    have h := hJ1 se_steps_1 se_stepCount_2 se_bestKnown_3 se_best_4 sr_most_5 sr_room_6 sr_enough_7 sr_topSet_8 sr_topWorth_9 sr_topLength_10 y11 hj
    refine r_put (kd := 0) (pc := 25) hC dX9_take_25 pl_RX9_201 lX_37 rfl (by decide) (Or.inl rfl) ?_
    refine r_aload_n (pc := 28) hC 0 dX9_take_28 rfl rfl ?_
    refine r_getr (r := 37) (pc := 29) hC dX9_take_29 fl_RX9_63 lX_0 rfl ?_
    refine r_aload_n (pc := 32) hC 0 dX9_take_32 rfl rfl ?_
    refine r_getr (r := 37) (pc := 33) hC dX9_take_33 fl_RX9_63 lX_0 rfl ?_
    refine r_get (kd := 0) (v := y11) (pc := 36) hC dX9_take_36 fl_RX9_201 lX_37 rfl rfl ?_
    refine r_callVi (pc := 39) hC [aI y11] [] dX9_take_39 ml_RX9_285 my_X5_worthOfSet mi_X5_worthOfSet lX_37 rfl rfl ⟨Nat.le_of_ble_eq_true rfl, Nat.le_of_ble_eq_true rfl⟩ ⟨Nat.le_of_ble_eq_true rfl, Nat.le_of_ble_eq_true rfl⟩ (Nat.le_of_ble_eq_true rfl) rfl (s_Sets_worthOfSet l _ _ _ h) (fun r12 w1 hq => ?_)
    obtain ⟨e9, h⟩ := hq
    rw [e9]
    refine r_conv (w2 := (wI (wI (wI (wI (wI (wI (wI (wI (wI (wI (wA w 38 se_steps_1) 37 7 y11) 37 9 se_stepCount_2) 37 10 se_bestKnown_3) 37 11 se_best_4) 39 4 sr_most_5) 39 5 sr_room_6) 39 6 sr_enough_7) 39 7 sr_topSet_8) 39 8 sr_topWorth_9) 39 9 sr_topLength_10)) rfl ?_
    exact r_reti (pc := 42) (kd := 0) hC hQ dX9_take_42 hr hk (by decide) (Or.inl rfl) ⟨se_steps_1, y11, se_stepCount_2, se_bestKnown_3, se_best_4, sr_most_5, sr_room_6, sr_enough_7, sr_topSet_8, sr_topWorth_9, sr_topLength_10, rfl, h⟩
  refine r_if_eq (pc := 5) (tgt := 18) hC dX9_take_5 rfl (fun hc1 => ?_) (fun hc1 => ?_)
  · have h := h.1 hc1
    refine r_aload_n (pc := 18) hC 0 dX9_take_18 rfl rfl ?_
    refine r_getr (r := 37) (pc := 19) hC dX9_take_19 fl_RX9_63 lX_0 rfl ?_
    refine r_callVi (pc := 22) hC [] [aR 37] dX9_take_22 ml_RX9_309 my_X5_greedySet mi_X5_greedySet lX_37 rfl rfl ⟨Nat.le_of_ble_eq_true rfl, Nat.le_of_ble_eq_true rfl⟩ ⟨Nat.le_of_ble_eq_true rfl, Nat.le_of_ble_eq_true rfl⟩ (Nat.le_of_ble_eq_true rfl) rfl (s_Sets_greedySet l _ _ h) (fun r13 w1 hq => ?_)
    obtain ⟨se_steps_14, se_stepCount_15, e9, h⟩ := hq
    rw [e9]
    exact r_to [true, false] rfl rfl (S1 se_steps_14 se_stepCount_15 (w.1 37 10) (w.1 37 11) (w.1 39 4) (w.1 39 5) (w.1 39 6) (w.1 39 7) (w.1 39 8) (w.1 39 9) r13 h)
  have h := h.2 hc1
  refine r_aload_n (pc := 8) hC 0 dX9_take_8 rfl rfl ?_
  refine r_getr (r := 37) (pc := 9) hC dX9_take_9 fl_RX9_63 lX_0 rfl ?_
  refine r_callVi (pc := 12) hC [] [aR 37] dX9_take_12 ml_RX9_306 my_X5_bestSet mi_X5_bestSet lX_37 rfl rfl ⟨Nat.le_of_ble_eq_true rfl, Nat.le_of_ble_eq_true rfl⟩ ⟨Nat.le_of_ble_eq_true rfl, Nat.le_of_ble_eq_true rfl⟩ (Nat.le_of_ble_eq_true rfl) rfl (s_Sets_bestSet l _ _ h) (fun r16 w1 hq => ?_)
  obtain ⟨se_bestKnown_17, se_best_18, sr_most_19, sr_room_20, sr_enough_21, sr_topSet_22, sr_topWorth_23, sr_topLength_24, e9, h⟩ := hq
  rw [e9]
  refine r_goto (tgt := 25) (pc := 15) hC dX9_take_15 rfl ?_
  exact r_to [true, false] rfl rfl (S1 (w.1 38) (w.1 37 9) se_bestKnown_17 se_best_18 sr_most_19 sr_room_20 sr_enough_21 sr_topSet_22 sr_topWorth_23 sr_topLength_24 r16 h)
def wp_Picker_rank (qy_weights : (Nat → Int)) (pg_sentences : Int) (qy_items : Int) (mt_tallies : (Nat → Int64)) (a1 : Int) (Q : Int → Prop) : Prop := jn0 (fun (J1 : Prop) => (a1 < 0 → J1) ∧ (¬ a1 < 0 → (a1 < pg_sentences → wp_Sets_ranked qy_weights pg_sentences qy_items mt_tallies a1 (fun (r1 : Int) => Q r1)) ∧ (¬ a1 < pg_sentences → J1))) (Q (-1))
set_option maxHeartbeats 4000000 in
set_option maxRecDepth 20000 in
theorem s_Picker_rank (l : Launch) (w : St) (a1 : Int) (P : Int → Prop) (h : wp_Picker_rank (w.1 19) (w.1 3 17) (w.1 18 6) (w.2 33) a1 P) : Cn l yX9_rank cX9_rank 2 (some .int) 4 LX w [aR 0, aI a1] (okI (fun r w1 => w1 = w ∧ P r)) := by
  unfold wp_Picker_rank at h
  refine Cn.of2 [some (aR 0), some (aI a1)] (by decide) (Nat.le_of_ble_eq_true rfl) rfl (fun p e s m args below meth c D cA ad A Q hQ hC hr hk => ?_)
  refine r_iload_n (pc := 0) hC 1 dX9_rank_0 rfl rfl ?_
  obtain ⟨J1, hJ1, h⟩ := h
  have S1 : J1 → Wd p l e (rmD 4) s m args below meth c Q 0 0 2 D cA ad A LX w 15 [none, none] [] := by
    intro hj
    have h := hJ1 hj
    refine r_iconst (pc := 15) hC dX9_rank_15 (rng_lit rfl) ?_
    refine r_goto (tgt := 27) (pc := 16) hC dX9_rank_16 rfl ?_
    exact r_reti (pc := 27) (kd := 0) hC hQ dX9_rank_27 hr hk (by decide) (Or.inl rfl) ⟨rfl, h⟩
  refine r_if_lt (pc := 1) (tgt := 15) hC dX9_rank_1 rfl (fun hc2 => ?_) (fun hc2 => ?_)
  · have h := h.1 hc2
    exact r_to [false, false] rfl rfl (S1 h)
  have h := h.2 hc2
  refine r_iload_n (pc := 4) hC 1 dX9_rank_4 rfl rfl ?_
  refine r_aload_n (pc := 5) hC 0 dX9_rank_5 rfl rfl ?_
  refine r_getr (r := 3) (pc := 6) hC dX9_rank_6 fl_RX9_19 lX_0 rfl ?_
  refine r_get (kd := 0) (v := (w.1 3 17)) (pc := 9) hC dX9_rank_9 fl_RX9_97 lX_3 rfl rfl ?_
  refine r_ic_lt (pc := 12) (tgt := 19) hC dX9_rank_12 rfl (fun hc1 => ?_) (fun hc1 => ?_)
  · have h := h.1 hc1
    refine r_aload_n (pc := 19) hC 0 dX9_rank_19 rfl rfl ?_
    refine r_getr (r := 37) (pc := 20) hC dX9_rank_20 fl_RX9_63 lX_0 rfl ?_
    refine r_iload_n (pc := 23) hC 1 dX9_rank_23 rfl rfl ?_
    refine r_callVi (pc := 24) hC [aI a1] [] dX9_rank_24 ml_RX9_339 my_X5_ranked mi_X5_ranked lX_37 rfl rfl ⟨Nat.le_of_ble_eq_true rfl, Nat.le_of_ble_eq_true rfl⟩ ⟨Nat.le_of_ble_eq_true rfl, Nat.le_of_ble_eq_true rfl⟩ (Nat.le_of_ble_eq_true rfl) rfl (s_Sets_ranked l _ _ _ h) (fun r1 w1 hq => ?_)
    obtain ⟨e9, h⟩ := hq
    rw [e9]
    exact r_reti (pc := 27) (kd := 0) hC hQ dX9_rank_27 hr hk (by decide) (Or.inl rfl) ⟨rfl, h⟩
  have h := h.2 hc1
  exact r_to [false, false] rfl rfl (S1 h)
def wp_Picker_octet (wr_bytes : (Nat → Int)) (wr_length : Int) (a1 : Int) (Q : Int → Prop) : Prop := jn0 (fun (J1 : Prop) => (a1 < 0 → J1) ∧ (¬ a1 < 0 → (a1 < wr_length → (0 ≤ a1 ∧ a1 < 5760) ∧ (Q (wr_bytes (Int.toNat a1)))) ∧ (¬ a1 < wr_length → J1))) (Q (-1))
set_option maxHeartbeats 4000000 in
set_option maxRecDepth 20000 in
theorem s_Picker_octet (l : Launch) (w : St) (a1 : Int) (P : Int → Prop) (h : wp_Picker_octet (w.1 43) (w.1 41 6) a1 P) : Cn l yX9_octet cX9_octet 2 (some .int) 0 LX w [aR 0, aI a1] (okI (fun r w1 => w1 = w ∧ P r)) := by
  unfold wp_Picker_octet at h
  refine Cn.of2 [some (aR 0), some (aI a1)] (by decide) (Nat.le_of_ble_eq_true rfl) rfl (fun p e s m args below meth c D cA ad A Q hQ hC hr hk => ?_)
  refine r_iload_n (pc := 0) hC 1 dX9_octet_0 rfl rfl ?_
  obtain ⟨J1, hJ1, h⟩ := h
  have S1 : J1 → Wd p l e (rmD 0) s m args below meth c Q 0 0 2 D cA ad A LX w 15 [none, none] [] := by
    intro hj
    have h := hJ1 hj
    refine r_iconst (pc := 15) hC dX9_octet_15 (rng_lit rfl) ?_
    refine r_goto (tgt := 28) (pc := 16) hC dX9_octet_16 rfl ?_
    exact r_reti (pc := 28) (kd := 0) hC hQ dX9_octet_28 hr hk (by decide) (Or.inl rfl) ⟨rfl, h⟩
  refine r_if_lt (pc := 1) (tgt := 15) hC dX9_octet_1 rfl (fun hc2 => ?_) (fun hc2 => ?_)
  · have h := h.1 hc2
    exact r_to [false, false] rfl rfl (S1 h)
  have h := h.2 hc2
  refine r_iload_n (pc := 4) hC 1 dX9_octet_4 rfl rfl ?_
  refine r_aload_n (pc := 5) hC 0 dX9_octet_5 rfl rfl ?_
  refine r_getr (r := 41) (pc := 6) hC dX9_octet_6 fl_RX9_72 lX_0 rfl ?_
  refine r_get (kd := 0) (v := (w.1 41 6)) (pc := 9) hC dX9_octet_9 fl_RX9_351 lX_41 rfl rfl ?_
  refine r_ic_lt (pc := 12) (tgt := 19) hC dX9_octet_12 rfl (fun hc1 => ?_) (fun hc1 => ?_)
  · have h := h.1 hc1
    refine r_aload_n (pc := 19) hC 0 dX9_octet_19 rfl rfl ?_
    refine r_getr (r := 41) (pc := 20) hC dX9_octet_20 fl_RX9_72 lX_0 rfl ?_
    refine r_getr (r := 43) (pc := 23) hC dX9_octet_23 fl_RX9_355 lX_41 rfl ?_
    refine r_iload_n (pc := 26) hC 1 dX9_octet_26 rfl rfl ?_
    refine r_iald (v := ((w.1 43) (Int.toNat a1))) (pc := 27) hC dX9_octet_27 lX_43 h.1.1 h.1.2 rfl ?_
    have h := h.2
    exact r_reti (pc := 28) (kd := 0) hC hQ dX9_octet_28 hr hk (by decide) (Or.inl rfl) ⟨rfl, h⟩
  have h := h.2 hc1
  exact r_to [false, false] rfl rfl (S1 h)
def wp_Picker_marks (wr_strongBegun : Int) (wr_softBegun : Int) (a1 : Int) (Q : Int → Prop) : Prop := (a1 = 0 → Q wr_softBegun) ∧ (¬ a1 = 0 → Q wr_strongBegun)
set_option maxHeartbeats 4000000 in
set_option maxRecDepth 20000 in
theorem s_Picker_marks (l : Launch) (w : St) (a1 : Int) (P : Int → Prop) (h : wp_Picker_marks (w.1 41 7) (w.1 41 8) a1 P) : Cn l yX9_marks cX9_marks 2 (some .int) 0 LX w [aR 0, aI a1] (okI (fun r w1 => w1 = w ∧ P r)) := by
  unfold wp_Picker_marks at h
  refine Cn.of2 [some (aR 0), some (aI a1)] (by decide) (Nat.le_of_ble_eq_true rfl) rfl (fun p e s m args below meth c D cA ad A Q hQ hC hr hk => ?_)
  refine r_iload_n (pc := 0) hC 1 dX9_marks_0 rfl rfl ?_
  refine r_if_eq (pc := 1) (tgt := 14) hC dX9_marks_1 rfl (fun hc1 => ?_) (fun hc1 => ?_)
  · have h := h.1 hc1
    refine r_aload_n (pc := 14) hC 0 dX9_marks_14 rfl rfl ?_
    refine r_getr (r := 41) (pc := 15) hC dX9_marks_15 fl_RX9_72 lX_0 rfl ?_
    refine r_get (kd := 0) (v := (w.1 41 8)) (pc := 18) hC dX9_marks_18 fl_RX9_361 lX_41 rfl rfl ?_
    exact r_reti (pc := 21) (kd := 0) hC hQ dX9_marks_21 hr hk (by decide) (Or.inl rfl) ⟨rfl, h⟩
  have h := h.2 hc1
  refine r_aload_n (pc := 4) hC 0 dX9_marks_4 rfl rfl ?_
  refine r_getr (r := 41) (pc := 5) hC dX9_marks_5 fl_RX9_72 lX_0 rfl ?_
  refine r_get (kd := 0) (v := (w.1 41 7)) (pc := 8) hC dX9_marks_8 fl_RX9_358 lX_41 rfl rfl ?_
  refine r_goto (tgt := 21) (pc := 11) hC dX9_marks_11 rfl ?_
  exact r_reti (pc := 21) (kd := 0) hC hQ dX9_marks_21 hr hk (by decide) (Or.inl rfl) ⟨rfl, h⟩
def wp_Picker_allSentences (pg_sentences : Int) (Q : Int → Prop) : Prop := (rng ((iShl 1 pg_sentences) - 1)) ∧ (Q ((iShl 1 pg_sentences) - 1))
set_option maxHeartbeats 4000000 in
set_option maxRecDepth 20000 in
theorem s_Picker_allSentences (l : Launch) (w : St) (P : Int → Prop) (h : wp_Picker_allSentences (w.1 3 17) P) : Cn l yX9_allSentences cX9_allSentences 1 (some .int) 0 LX w [aR 0] (okI (fun r w1 => w1 = w ∧ P r)) := by
  unfold wp_Picker_allSentences at h
  refine Cn.of2 [some (aR 0)] (by decide) (Nat.le_of_ble_eq_true rfl) rfl (fun p e s m args below meth c D cA ad A Q hQ hC hr hk => ?_)
  refine r_iconst (pc := 0) hC dX9_allSentences_0 (rng_lit rfl) ?_
  refine r_aload_n (pc := 1) hC 0 dX9_allSentences_1 rfl rfl ?_
  refine r_getr (r := 3) (pc := 2) hC dX9_allSentences_2 fl_RX9_19 lX_0 rfl ?_
  refine r_get (kd := 0) (v := (w.1 3 17)) (pc := 5) hC dX9_allSentences_5 fl_RX9_97 lX_3 rfl rfl ?_
  refine r_ishl (pc := 8) hC dX9_allSentences_8 ?_
  refine r_iconst (pc := 9) hC dX9_allSentences_9 (rng_lit rfl) ?_
  refine r_isub (pc := 10) hC dX9_allSentences_10 h.1 ?_
  have h := h.2
  exact r_reti (pc := 11) (kd := 0) hC hQ dX9_allSentences_11 hr hk (by decide) (Or.inl rfl) ⟨rfl, h⟩
def wp_Picker_count (pg_wordAlike : (Nat → Int)) (pg_sentenceSigns : (Nat → Int)) (qy_weights : (Nat → Int)) (se_steps : (Nat → Int)) (sr_tooLike : (Nat → Int)) (pg_length : Int) (pg_signs : Int) (pg_words : Int) (pg_sentences : Int) (qy_items : Int) (mt_total : Int) (se_budget : Int) (se_most : Int) (se_limit : Int) (se_chosen : Int) (se_stepCount : Int) (se_bestKnown : Int) (se_best : Int) (sr_most : Int) (sr_room : Int) (sr_enough : Int) (sr_topSet : Int) (sr_topWorth : Int) (sr_topLength : Int) (sr_largest : Int) (wr_length : Int) (mt_tallies : (Nat → Int64)) (a1 : Int) (Q : Int → (Nat → Int) → Int → Int → Int → Int → Int → Int → Int → Int → Int → Int → Prop) : Prop := (a1 = 0 → Q pg_length se_steps se_stepCount se_bestKnown se_best sr_most sr_room sr_enough sr_topSet sr_topWorth sr_topLength sr_largest) ∧ (¬ a1 = 0 → (a1 = 1 → Q pg_signs se_steps se_stepCount se_bestKnown se_best sr_most sr_room sr_enough sr_topSet sr_topWorth sr_topLength sr_largest) ∧ (¬ a1 = 1 → (a1 = 2 → Q pg_words se_steps se_stepCount se_bestKnown se_best sr_most sr_room sr_enough sr_topSet sr_topWorth sr_topLength sr_largest) ∧ (¬ a1 = 2 → (a1 = 3 → Q pg_sentences se_steps se_stepCount se_bestKnown se_best sr_most sr_room sr_enough sr_topSet sr_topWorth sr_topLength sr_largest) ∧ (¬ a1 = 3 → (a1 = 4 → Q qy_items se_steps se_stepCount se_bestKnown se_best sr_most sr_room sr_enough sr_topSet sr_topWorth sr_topLength sr_largest) ∧ (¬ a1 = 4 → (a1 = 5 → Q mt_total se_steps se_stepCount se_bestKnown se_best sr_most sr_room sr_enough sr_topSet sr_topWorth sr_topLength sr_largest) ∧ (¬ a1 = 5 → (a1 = 6 → Q se_budget se_steps se_stepCount se_bestKnown se_best sr_most sr_room sr_enough sr_topSet sr_topWorth sr_topLength sr_largest) ∧ (¬ a1 = 6 → (a1 = 7 → Q se_most se_steps se_stepCount se_bestKnown se_best sr_most sr_room sr_enough sr_topSet sr_topWorth sr_topLength sr_largest) ∧ (¬ a1 = 7 → (a1 = 8 → Q se_limit se_steps se_stepCount se_bestKnown se_best sr_most sr_room sr_enough sr_topSet sr_topWorth sr_topLength sr_largest) ∧ (¬ a1 = 8 → (a1 = 9 → Q se_chosen se_steps se_stepCount se_bestKnown se_best sr_most sr_room sr_enough sr_topSet sr_topWorth sr_topLength sr_largest) ∧ (¬ a1 = 9 → (a1 = 10 → wp_Page_unlikeOfAll pg_wordAlike pg_words (fun (r1 : Int) => Q r1 se_steps se_stepCount se_bestKnown se_best sr_most sr_room sr_enough sr_topSet sr_topWorth sr_topLength sr_largest)) ∧ (¬ a1 = 10 → (a1 = 11 → wp_Picker_allSentences pg_sentences (fun (r2 : Int) => wp_Sets_worthOfSet qy_weights pg_sentences qy_items mt_tallies r2 (fun (r3 : Int) => Q r3 se_steps se_stepCount se_bestKnown se_best sr_most sr_room sr_enough sr_topSet sr_topWorth sr_topLength sr_largest))) ∧ (¬ a1 = 11 → (a1 = 12 → Q wr_length se_steps se_stepCount se_bestKnown se_best sr_most sr_room sr_enough sr_topSet sr_topWorth sr_topLength sr_largest) ∧ (¬ a1 = 12 → (a1 = 13 → wp_Sets_variety sr_tooLike pg_sentences sr_largest (fun (r4 : Int) (sr_largest_5 : Int) => Q r4 se_steps se_stepCount se_bestKnown se_best sr_most sr_room sr_enough sr_topSet sr_topWorth sr_topLength sr_largest_5)) ∧ (¬ a1 = 13 → (a1 = 14 → wp_Sets_greedySet pg_sentenceSigns qy_weights se_steps sr_tooLike pg_sentences qy_items se_budget se_most se_stepCount mt_tallies (fun (r6 : Int) (se_steps_7 : (Nat → Int)) (se_stepCount_8 : Int) => wp_Sets_bestSet pg_sentenceSigns qy_weights sr_tooLike pg_sentences qy_items se_budget se_most se_bestKnown se_best sr_most sr_room sr_enough sr_topSet sr_topWorth sr_topLength mt_tallies (fun (r9 : Int) (se_bestKnown_10 : Int) (se_best_11 : Int) (sr_most_12 : Int) (sr_room_13 : Int) (sr_enough_14 : Int) (sr_topSet_15 : Int) (sr_topWorth_16 : Int) (sr_topLength_17 : Int) => wp_Sets_hundredths qy_weights pg_sentences qy_items mt_tallies r6 r9 (fun (r18 : Int) => Q r18 se_steps_7 se_stepCount_8 se_bestKnown_10 se_best_11 sr_most_12 sr_room_13 sr_enough_14 sr_topSet_15 sr_topWorth_16 sr_topLength_17 sr_largest)))) ∧ (¬ a1 = 14 → Q (-1) se_steps se_stepCount se_bestKnown se_best sr_most sr_room sr_enough sr_topSet sr_topWorth sr_topLength sr_largest)))))))))))))))
set_option maxHeartbeats 4000000 in
set_option maxRecDepth 20000 in
theorem s_Picker_count (l : Launch) (w : St) (a1 : Int) (P : Int → (Nat → Int) → Int → Int → Int → Int → Int → Int → Int → Int → Int → Int → Prop) (h : wp_Picker_count (w.1 10) (w.1 13) (w.1 19) (w.1 38) (w.1 40) (w.1 3 14) (w.1 3 15) (w.1 3 16) (w.1 3 17) (w.1 18 6) (w.1 29 6) (w.1 37 4) (w.1 37 5) (w.1 37 6) (w.1 37 7) (w.1 37 9) (w.1 37 10) (w.1 37 11) (w.1 39 4) (w.1 39 5) (w.1 39 6) (w.1 39 7) (w.1 39 8) (w.1 39 9) (w.1 39 10) (w.1 41 6) (w.2 33) a1 P) : Cn l yX9_count cX9_count 2 (some .int) 20 LX w [aR 0, aI a1] (okI (fun r w1 => ∃ (o0 : (Nat → Int)) (o1 : Int) (o2 : Int) (o3 : Int) (o4 : Int) (o5 : Int) (o6 : Int) (o7 : Int) (o8 : Int) (o9 : Int) (o10 : Int), w1 = (wI (wI (wI (wI (wI (wI (wI (wI (wI (wI (wA w 38 o0) 37 9 o1) 37 10 o2) 37 11 o3) 39 4 o4) 39 5 o5) 39 6 o6) 39 7 o7) 39 8 o8) 39 9 o9) 39 10 o10) ∧ P r o0 o1 o2 o3 o4 o5 o6 o7 o8 o9 o10)) := by
  unfold wp_Picker_count at h
  refine Cn.of2 [some (aR 0), some (aI a1)] (by decide) (Nat.le_of_ble_eq_true rfl) rfl (fun p e s m args below meth c D cA ad A Q hQ hC hr hk => ?_)
  refine r_iload_n (pc := 0) hC 1 dX9_count_0 rfl rfl ?_
  by_cases hc1 : a1 = 0
  · refine r_tblIn (pc := 1) (tgt := 76) hC dX9_count_1 (by rw [hc1]; decide) (by rw [hc1]; decide) (by rw [hc1]; rfl) rfl ?_
    have h := h.1 hc1
    refine r_aload_n (pc := 76) hC 0 dX9_count_76 rfl rfl ?_
    refine r_getr (r := 3) (pc := 77) hC dX9_count_77 fl_RX9_19 lX_0 rfl ?_
    refine r_get (kd := 0) (v := (w.1 3 14)) (pc := 80) hC dX9_count_80 fl_RX9_142 lX_3 rfl rfl ?_
    refine r_conv (w2 := (wI (wI (wI (wI (wI (wI (wI (wI (wI (wI (wA w 38 (w.1 38)) 37 9 (w.1 37 9)) 37 10 (w.1 37 10)) 37 11 (w.1 37 11)) 39 4 (w.1 39 4)) 39 5 (w.1 39 5)) 39 6 (w.1 39 6)) 39 7 (w.1 39 7)) 39 8 (w.1 39 8)) 39 9 (w.1 39 9)) 39 10 (w.1 39 10))) rfl ?_
    exact r_reti (pc := 83) (kd := 0) hC hQ dX9_count_83 hr hk (by decide) (Or.inl rfl) ⟨(w.1 38), (w.1 37 9), (w.1 37 10), (w.1 37 11), (w.1 39 4), (w.1 39 5), (w.1 39 6), (w.1 39 7), (w.1 39 8), (w.1 39 9), (w.1 39 10), rfl, h⟩
  have h := h.2 hc1
  by_cases hc2 : a1 = 1
  · refine r_tblIn (pc := 1) (tgt := 84) hC dX9_count_1 (by rw [hc2]; decide) (by rw [hc2]; decide) (by rw [hc2]; rfl) rfl ?_
    have h := h.1 hc2
    refine r_aload_n (pc := 84) hC 0 dX9_count_84 rfl rfl ?_
    refine r_getr (r := 3) (pc := 85) hC dX9_count_85 fl_RX9_19 lX_0 rfl ?_
    refine r_get (kd := 0) (v := (w.1 3 15)) (pc := 88) hC dX9_count_88 fl_RX9_364 lX_3 rfl rfl ?_
    refine r_conv (w2 := (wI (wI (wI (wI (wI (wI (wI (wI (wI (wI (wA w 38 (w.1 38)) 37 9 (w.1 37 9)) 37 10 (w.1 37 10)) 37 11 (w.1 37 11)) 39 4 (w.1 39 4)) 39 5 (w.1 39 5)) 39 6 (w.1 39 6)) 39 7 (w.1 39 7)) 39 8 (w.1 39 8)) 39 9 (w.1 39 9)) 39 10 (w.1 39 10))) rfl ?_
    exact r_reti (pc := 91) (kd := 0) hC hQ dX9_count_91 hr hk (by decide) (Or.inl rfl) ⟨(w.1 38), (w.1 37 9), (w.1 37 10), (w.1 37 11), (w.1 39 4), (w.1 39 5), (w.1 39 6), (w.1 39 7), (w.1 39 8), (w.1 39 9), (w.1 39 10), rfl, h⟩
  have h := h.2 hc2
  by_cases hc3 : a1 = 2
  · refine r_tblIn (pc := 1) (tgt := 92) hC dX9_count_1 (by rw [hc3]; decide) (by rw [hc3]; decide) (by rw [hc3]; rfl) rfl ?_
    have h := h.1 hc3
    refine r_aload_n (pc := 92) hC 0 dX9_count_92 rfl rfl ?_
    refine r_getr (r := 3) (pc := 93) hC dX9_count_93 fl_RX9_19 lX_0 rfl ?_
    refine r_get (kd := 0) (v := (w.1 3 16)) (pc := 96) hC dX9_count_96 fl_RX9_147 lX_3 rfl rfl ?_
    refine r_conv (w2 := (wI (wI (wI (wI (wI (wI (wI (wI (wI (wI (wA w 38 (w.1 38)) 37 9 (w.1 37 9)) 37 10 (w.1 37 10)) 37 11 (w.1 37 11)) 39 4 (w.1 39 4)) 39 5 (w.1 39 5)) 39 6 (w.1 39 6)) 39 7 (w.1 39 7)) 39 8 (w.1 39 8)) 39 9 (w.1 39 9)) 39 10 (w.1 39 10))) rfl ?_
    exact r_reti (pc := 99) (kd := 0) hC hQ dX9_count_99 hr hk (by decide) (Or.inl rfl) ⟨(w.1 38), (w.1 37 9), (w.1 37 10), (w.1 37 11), (w.1 39 4), (w.1 39 5), (w.1 39 6), (w.1 39 7), (w.1 39 8), (w.1 39 9), (w.1 39 10), rfl, h⟩
  have h := h.2 hc3
  by_cases hc4 : a1 = 3
  · refine r_tblIn (pc := 1) (tgt := 100) hC dX9_count_1 (by rw [hc4]; decide) (by rw [hc4]; decide) (by rw [hc4]; rfl) rfl ?_
    have h := h.1 hc4
    refine r_aload_n (pc := 100) hC 0 dX9_count_100 rfl rfl ?_
    refine r_getr (r := 3) (pc := 101) hC dX9_count_101 fl_RX9_19 lX_0 rfl ?_
    refine r_get (kd := 0) (v := (w.1 3 17)) (pc := 104) hC dX9_count_104 fl_RX9_97 lX_3 rfl rfl ?_
    refine r_conv (w2 := (wI (wI (wI (wI (wI (wI (wI (wI (wI (wI (wA w 38 (w.1 38)) 37 9 (w.1 37 9)) 37 10 (w.1 37 10)) 37 11 (w.1 37 11)) 39 4 (w.1 39 4)) 39 5 (w.1 39 5)) 39 6 (w.1 39 6)) 39 7 (w.1 39 7)) 39 8 (w.1 39 8)) 39 9 (w.1 39 9)) 39 10 (w.1 39 10))) rfl ?_
    exact r_reti (pc := 107) (kd := 0) hC hQ dX9_count_107 hr hk (by decide) (Or.inl rfl) ⟨(w.1 38), (w.1 37 9), (w.1 37 10), (w.1 37 11), (w.1 39 4), (w.1 39 5), (w.1 39 6), (w.1 39 7), (w.1 39 8), (w.1 39 9), (w.1 39 10), rfl, h⟩
  have h := h.2 hc4
  by_cases hc5 : a1 = 4
  · refine r_tblIn (pc := 1) (tgt := 108) hC dX9_count_1 (by rw [hc5]; decide) (by rw [hc5]; decide) (by rw [hc5]; rfl) rfl ?_
    have h := h.1 hc5
    refine r_aload_n (pc := 108) hC 0 dX9_count_108 rfl rfl ?_
    refine r_getr (r := 18) (pc := 109) hC dX9_count_109 fl_RX9_26 lX_0 rfl ?_
    refine r_get (kd := 0) (v := (w.1 18 6)) (pc := 112) hC dX9_count_112 fl_RX9_115 lX_18 rfl rfl ?_
    refine r_conv (w2 := (wI (wI (wI (wI (wI (wI (wI (wI (wI (wI (wA w 38 (w.1 38)) 37 9 (w.1 37 9)) 37 10 (w.1 37 10)) 37 11 (w.1 37 11)) 39 4 (w.1 39 4)) 39 5 (w.1 39 5)) 39 6 (w.1 39 6)) 39 7 (w.1 39 7)) 39 8 (w.1 39 8)) 39 9 (w.1 39 9)) 39 10 (w.1 39 10))) rfl ?_
    exact r_reti (pc := 115) (kd := 0) hC hQ dX9_count_115 hr hk (by decide) (Or.inl rfl) ⟨(w.1 38), (w.1 37 9), (w.1 37 10), (w.1 37 11), (w.1 39 4), (w.1 39 5), (w.1 39 6), (w.1 39 7), (w.1 39 8), (w.1 39 9), (w.1 39 10), rfl, h⟩
  have h := h.2 hc5
  by_cases hc6 : a1 = 5
  · refine r_tblIn (pc := 1) (tgt := 116) hC dX9_count_1 (by rw [hc6]; decide) (by rw [hc6]; decide) (by rw [hc6]; rfl) rfl ?_
    have h := h.1 hc6
    refine r_aload_n (pc := 116) hC 0 dX9_count_116 rfl rfl ?_
    refine r_getr (r := 29) (pc := 117) hC dX9_count_117 fl_RX9_47 lX_0 rfl ?_
    refine r_get (kd := 0) (v := (w.1 29 6)) (pc := 120) hC dX9_count_120 fl_RX9_242 lX_29 rfl rfl ?_
    refine r_conv (w2 := (wI (wI (wI (wI (wI (wI (wI (wI (wI (wI (wA w 38 (w.1 38)) 37 9 (w.1 37 9)) 37 10 (w.1 37 10)) 37 11 (w.1 37 11)) 39 4 (w.1 39 4)) 39 5 (w.1 39 5)) 39 6 (w.1 39 6)) 39 7 (w.1 39 7)) 39 8 (w.1 39 8)) 39 9 (w.1 39 9)) 39 10 (w.1 39 10))) rfl ?_
    exact r_reti (pc := 123) (kd := 0) hC hQ dX9_count_123 hr hk (by decide) (Or.inl rfl) ⟨(w.1 38), (w.1 37 9), (w.1 37 10), (w.1 37 11), (w.1 39 4), (w.1 39 5), (w.1 39 6), (w.1 39 7), (w.1 39 8), (w.1 39 9), (w.1 39 10), rfl, h⟩
  have h := h.2 hc6
  by_cases hc7 : a1 = 6
  · refine r_tblIn (pc := 1) (tgt := 124) hC dX9_count_1 (by rw [hc7]; decide) (by rw [hc7]; decide) (by rw [hc7]; rfl) rfl ?_
    have h := h.1 hc7
    refine r_aload_n (pc := 124) hC 0 dX9_count_124 rfl rfl ?_
    refine r_getr (r := 37) (pc := 125) hC dX9_count_125 fl_RX9_63 lX_0 rfl ?_
    refine r_get (kd := 0) (v := (w.1 37 4)) (pc := 128) hC dX9_count_128 fl_RX9_130 lX_37 rfl rfl ?_
    refine r_conv (w2 := (wI (wI (wI (wI (wI (wI (wI (wI (wI (wI (wA w 38 (w.1 38)) 37 9 (w.1 37 9)) 37 10 (w.1 37 10)) 37 11 (w.1 37 11)) 39 4 (w.1 39 4)) 39 5 (w.1 39 5)) 39 6 (w.1 39 6)) 39 7 (w.1 39 7)) 39 8 (w.1 39 8)) 39 9 (w.1 39 9)) 39 10 (w.1 39 10))) rfl ?_
    exact r_reti (pc := 131) (kd := 0) hC hQ dX9_count_131 hr hk (by decide) (Or.inl rfl) ⟨(w.1 38), (w.1 37 9), (w.1 37 10), (w.1 37 11), (w.1 39 4), (w.1 39 5), (w.1 39 6), (w.1 39 7), (w.1 39 8), (w.1 39 9), (w.1 39 10), rfl, h⟩
  have h := h.2 hc7
  by_cases hc8 : a1 = 7
  · refine r_tblIn (pc := 1) (tgt := 132) hC dX9_count_1 (by rw [hc8]; decide) (by rw [hc8]; decide) (by rw [hc8]; rfl) rfl ?_
    have h := h.1 hc8
    refine r_aload_n (pc := 132) hC 0 dX9_count_132 rfl rfl ?_
    refine r_getr (r := 37) (pc := 133) hC dX9_count_133 fl_RX9_63 lX_0 rfl ?_
    refine r_get (kd := 0) (v := (w.1 37 5)) (pc := 136) hC dX9_count_136 fl_RX9_133 lX_37 rfl rfl ?_
    refine r_conv (w2 := (wI (wI (wI (wI (wI (wI (wI (wI (wI (wI (wA w 38 (w.1 38)) 37 9 (w.1 37 9)) 37 10 (w.1 37 10)) 37 11 (w.1 37 11)) 39 4 (w.1 39 4)) 39 5 (w.1 39 5)) 39 6 (w.1 39 6)) 39 7 (w.1 39 7)) 39 8 (w.1 39 8)) 39 9 (w.1 39 9)) 39 10 (w.1 39 10))) rfl ?_
    exact r_reti (pc := 139) (kd := 0) hC hQ dX9_count_139 hr hk (by decide) (Or.inl rfl) ⟨(w.1 38), (w.1 37 9), (w.1 37 10), (w.1 37 11), (w.1 39 4), (w.1 39 5), (w.1 39 6), (w.1 39 7), (w.1 39 8), (w.1 39 9), (w.1 39 10), rfl, h⟩
  have h := h.2 hc8
  by_cases hc9 : a1 = 8
  · refine r_tblIn (pc := 1) (tgt := 140) hC dX9_count_1 (by rw [hc9]; decide) (by rw [hc9]; decide) (by rw [hc9]; rfl) rfl ?_
    have h := h.1 hc9
    refine r_aload_n (pc := 140) hC 0 dX9_count_140 rfl rfl ?_
    refine r_getr (r := 37) (pc := 141) hC dX9_count_141 fl_RX9_63 lX_0 rfl ?_
    refine r_get (kd := 0) (v := (w.1 37 6)) (pc := 144) hC dX9_count_144 fl_RX9_136 lX_37 rfl rfl ?_
    refine r_conv (w2 := (wI (wI (wI (wI (wI (wI (wI (wI (wI (wI (wA w 38 (w.1 38)) 37 9 (w.1 37 9)) 37 10 (w.1 37 10)) 37 11 (w.1 37 11)) 39 4 (w.1 39 4)) 39 5 (w.1 39 5)) 39 6 (w.1 39 6)) 39 7 (w.1 39 7)) 39 8 (w.1 39 8)) 39 9 (w.1 39 9)) 39 10 (w.1 39 10))) rfl ?_
    exact r_reti (pc := 147) (kd := 0) hC hQ dX9_count_147 hr hk (by decide) (Or.inl rfl) ⟨(w.1 38), (w.1 37 9), (w.1 37 10), (w.1 37 11), (w.1 39 4), (w.1 39 5), (w.1 39 6), (w.1 39 7), (w.1 39 8), (w.1 39 9), (w.1 39 10), rfl, h⟩
  have h := h.2 hc9
  by_cases hc10 : a1 = 9
  · refine r_tblIn (pc := 1) (tgt := 148) hC dX9_count_1 (by rw [hc10]; decide) (by rw [hc10]; decide) (by rw [hc10]; rfl) rfl ?_
    have h := h.1 hc10
    refine r_aload_n (pc := 148) hC 0 dX9_count_148 rfl rfl ?_
    refine r_getr (r := 37) (pc := 149) hC dX9_count_149 fl_RX9_63 lX_0 rfl ?_
    refine r_get (kd := 0) (v := (w.1 37 7)) (pc := 152) hC dX9_count_152 fl_RX9_201 lX_37 rfl rfl ?_
    refine r_conv (w2 := (wI (wI (wI (wI (wI (wI (wI (wI (wI (wI (wA w 38 (w.1 38)) 37 9 (w.1 37 9)) 37 10 (w.1 37 10)) 37 11 (w.1 37 11)) 39 4 (w.1 39 4)) 39 5 (w.1 39 5)) 39 6 (w.1 39 6)) 39 7 (w.1 39 7)) 39 8 (w.1 39 8)) 39 9 (w.1 39 9)) 39 10 (w.1 39 10))) rfl ?_
    exact r_reti (pc := 155) (kd := 0) hC hQ dX9_count_155 hr hk (by decide) (Or.inl rfl) ⟨(w.1 38), (w.1 37 9), (w.1 37 10), (w.1 37 11), (w.1 39 4), (w.1 39 5), (w.1 39 6), (w.1 39 7), (w.1 39 8), (w.1 39 9), (w.1 39 10), rfl, h⟩
  have h := h.2 hc10
  by_cases hc11 : a1 = 10
  · refine r_tblIn (pc := 1) (tgt := 156) hC dX9_count_1 (by rw [hc11]; decide) (by rw [hc11]; decide) (by rw [hc11]; rfl) rfl ?_
    have h := h.1 hc11
    refine r_aload_n (pc := 156) hC 0 dX9_count_156 rfl rfl ?_
    refine r_getr (r := 3) (pc := 157) hC dX9_count_157 fl_RX9_19 lX_0 rfl ?_
    refine r_callVi (pc := 160) hC [] [] dX9_count_160 ml_RX9_367 my_X1_unlikeOfAll mi_X1_unlikeOfAll lX_3 rfl rfl ⟨Nat.le_of_ble_eq_true rfl, Nat.le_of_ble_eq_true rfl⟩ ⟨Nat.le_of_ble_eq_true rfl, Nat.le_of_ble_eq_true rfl⟩ (Nat.le_of_ble_eq_true rfl) rfl (s_Page_unlikeOfAll l _ _ h) (fun r1 w1 hq => ?_)
    obtain ⟨e9, h⟩ := hq
    rw [e9]
    refine r_conv (w2 := (wI (wI (wI (wI (wI (wI (wI (wI (wI (wI (wA w 38 (w.1 38)) 37 9 (w.1 37 9)) 37 10 (w.1 37 10)) 37 11 (w.1 37 11)) 39 4 (w.1 39 4)) 39 5 (w.1 39 5)) 39 6 (w.1 39 6)) 39 7 (w.1 39 7)) 39 8 (w.1 39 8)) 39 9 (w.1 39 9)) 39 10 (w.1 39 10))) rfl ?_
    exact r_reti (pc := 163) (kd := 0) hC hQ dX9_count_163 hr hk (by decide) (Or.inl rfl) ⟨(w.1 38), (w.1 37 9), (w.1 37 10), (w.1 37 11), (w.1 39 4), (w.1 39 5), (w.1 39 6), (w.1 39 7), (w.1 39 8), (w.1 39 9), (w.1 39 10), rfl, h⟩
  have h := h.2 hc11
  by_cases hc12 : a1 = 11
  · refine r_tblIn (pc := 1) (tgt := 164) hC dX9_count_1 (by rw [hc12]; decide) (by rw [hc12]; decide) (by rw [hc12]; rfl) rfl ?_
    have h := h.1 hc12
    refine r_aload_n (pc := 164) hC 0 dX9_count_164 rfl rfl ?_
    refine r_getr (r := 37) (pc := 165) hC dX9_count_165 fl_RX9_63 lX_0 rfl ?_
    refine r_aload_n (pc := 168) hC 0 dX9_count_168 rfl rfl ?_
    refine r_callVi (pc := 169) hC [] [aR 37] dX9_count_169 ml_RX9_224 my_X9_allSentences mi_X9_allSentences lX_0 rfl rfl ⟨Nat.le_of_ble_eq_true rfl, Nat.le_of_ble_eq_true rfl⟩ ⟨Nat.le_of_ble_eq_true rfl, Nat.le_of_ble_eq_true rfl⟩ (Nat.le_of_ble_eq_true rfl) rfl (s_Picker_allSentences l _ _ h) (fun r2 w1 hq => ?_)
    obtain ⟨e9, h⟩ := hq
    rw [e9]
    refine r_callVi (pc := 172) hC [aI r2] [] dX9_count_172 ml_RX9_285 my_X5_worthOfSet mi_X5_worthOfSet lX_37 rfl rfl ⟨Nat.le_of_ble_eq_true rfl, Nat.le_of_ble_eq_true rfl⟩ ⟨Nat.le_of_ble_eq_true rfl, Nat.le_of_ble_eq_true rfl⟩ (Nat.le_of_ble_eq_true rfl) rfl (s_Sets_worthOfSet l _ _ _ h) (fun r3 w1 hq => ?_)
    obtain ⟨e9, h⟩ := hq
    rw [e9]
    refine r_conv (w2 := (wI (wI (wI (wI (wI (wI (wI (wI (wI (wI (wA w 38 (w.1 38)) 37 9 (w.1 37 9)) 37 10 (w.1 37 10)) 37 11 (w.1 37 11)) 39 4 (w.1 39 4)) 39 5 (w.1 39 5)) 39 6 (w.1 39 6)) 39 7 (w.1 39 7)) 39 8 (w.1 39 8)) 39 9 (w.1 39 9)) 39 10 (w.1 39 10))) rfl ?_
    exact r_reti (pc := 175) (kd := 0) hC hQ dX9_count_175 hr hk (by decide) (Or.inl rfl) ⟨(w.1 38), (w.1 37 9), (w.1 37 10), (w.1 37 11), (w.1 39 4), (w.1 39 5), (w.1 39 6), (w.1 39 7), (w.1 39 8), (w.1 39 9), (w.1 39 10), rfl, h⟩
  have h := h.2 hc12
  by_cases hc13 : a1 = 12
  · refine r_tblIn (pc := 1) (tgt := 176) hC dX9_count_1 (by rw [hc13]; decide) (by rw [hc13]; decide) (by rw [hc13]; rfl) rfl ?_
    have h := h.1 hc13
    refine r_aload_n (pc := 176) hC 0 dX9_count_176 rfl rfl ?_
    refine r_getr (r := 41) (pc := 177) hC dX9_count_177 fl_RX9_72 lX_0 rfl ?_
    refine r_get (kd := 0) (v := (w.1 41 6)) (pc := 180) hC dX9_count_180 fl_RX9_351 lX_41 rfl rfl ?_
    refine r_conv (w2 := (wI (wI (wI (wI (wI (wI (wI (wI (wI (wI (wA w 38 (w.1 38)) 37 9 (w.1 37 9)) 37 10 (w.1 37 10)) 37 11 (w.1 37 11)) 39 4 (w.1 39 4)) 39 5 (w.1 39 5)) 39 6 (w.1 39 6)) 39 7 (w.1 39 7)) 39 8 (w.1 39 8)) 39 9 (w.1 39 9)) 39 10 (w.1 39 10))) rfl ?_
    exact r_reti (pc := 183) (kd := 0) hC hQ dX9_count_183 hr hk (by decide) (Or.inl rfl) ⟨(w.1 38), (w.1 37 9), (w.1 37 10), (w.1 37 11), (w.1 39 4), (w.1 39 5), (w.1 39 6), (w.1 39 7), (w.1 39 8), (w.1 39 9), (w.1 39 10), rfl, h⟩
  have h := h.2 hc13
  by_cases hc14 : a1 = 13
  · refine r_tblIn (pc := 1) (tgt := 184) hC dX9_count_1 (by rw [hc14]; decide) (by rw [hc14]; decide) (by rw [hc14]; rfl) rfl ?_
    have h := h.1 hc14
    refine r_aload_n (pc := 184) hC 0 dX9_count_184 rfl rfl ?_
    refine r_getr (r := 37) (pc := 185) hC dX9_count_185 fl_RX9_63 lX_0 rfl ?_
    refine r_callVi (pc := 188) hC [] [] dX9_count_188 ml_RX9_370 my_X5_variety mi_X5_variety lX_37 rfl rfl ⟨Nat.le_of_ble_eq_true rfl, Nat.le_of_ble_eq_true rfl⟩ ⟨Nat.le_of_ble_eq_true rfl, Nat.le_of_ble_eq_true rfl⟩ (Nat.le_of_ble_eq_true rfl) rfl (s_Sets_variety l _ _ h) (fun r4 w1 hq => ?_)
    obtain ⟨sr_largest_5, e9, h⟩ := hq
    rw [e9]
    refine r_conv (w2 := (wI (wI (wI (wI (wI (wI (wI (wI (wI (wI (wA w 38 (w.1 38)) 37 9 (w.1 37 9)) 37 10 (w.1 37 10)) 37 11 (w.1 37 11)) 39 4 (w.1 39 4)) 39 5 (w.1 39 5)) 39 6 (w.1 39 6)) 39 7 (w.1 39 7)) 39 8 (w.1 39 8)) 39 9 (w.1 39 9)) 39 10 sr_largest_5)) rfl ?_
    exact r_reti (pc := 191) (kd := 0) hC hQ dX9_count_191 hr hk (by decide) (Or.inl rfl) ⟨(w.1 38), (w.1 37 9), (w.1 37 10), (w.1 37 11), (w.1 39 4), (w.1 39 5), (w.1 39 6), (w.1 39 7), (w.1 39 8), (w.1 39 9), sr_largest_5, rfl, h⟩
  have h := h.2 hc14
  by_cases hc15 : a1 = 14
  · refine r_tblIn (pc := 1) (tgt := 192) hC dX9_count_1 (by rw [hc15]; decide) (by rw [hc15]; decide) (by rw [hc15]; rfl) rfl ?_
    have h := h.1 hc15
    refine r_aload_n (pc := 192) hC 0 dX9_count_192 rfl rfl ?_
    refine r_getr (r := 37) (pc := 193) hC dX9_count_193 fl_RX9_63 lX_0 rfl ?_
    refine r_aload_n (pc := 196) hC 0 dX9_count_196 rfl rfl ?_
    refine r_getr (r := 37) (pc := 197) hC dX9_count_197 fl_RX9_63 lX_0 rfl ?_
    refine r_callVi (pc := 200) hC [] [aR 37] dX9_count_200 ml_RX9_309 my_X5_greedySet mi_X5_greedySet lX_37 rfl rfl ⟨Nat.le_of_ble_eq_true rfl, Nat.le_of_ble_eq_true rfl⟩ ⟨Nat.le_of_ble_eq_true rfl, Nat.le_of_ble_eq_true rfl⟩ (Nat.le_of_ble_eq_true rfl) rfl (s_Sets_greedySet l _ _ h) (fun r6 w1 hq => ?_)
    obtain ⟨se_steps_7, se_stepCount_8, e9, h⟩ := hq
    rw [e9]
    refine r_aload_n (pc := 203) hC 0 dX9_count_203 rfl rfl ?_
    refine r_getr (r := 37) (pc := 204) hC dX9_count_204 fl_RX9_63 lX_0 rfl ?_
    refine r_callVi (pc := 207) hC [] [aI r6, aR 37] dX9_count_207 ml_RX9_306 my_X5_bestSet mi_X5_bestSet lX_37 rfl rfl ⟨Nat.le_of_ble_eq_true rfl, Nat.le_of_ble_eq_true rfl⟩ ⟨Nat.le_of_ble_eq_true rfl, Nat.le_of_ble_eq_true rfl⟩ (Nat.le_of_ble_eq_true rfl) rfl (s_Sets_bestSet l _ _ h) (fun r9 w1 hq => ?_)
    obtain ⟨se_bestKnown_10, se_best_11, sr_most_12, sr_room_13, sr_enough_14, sr_topSet_15, sr_topWorth_16, sr_topLength_17, e9, h⟩ := hq
    rw [e9]
    refine r_callVi (pc := 210) hC [aI r6, aI r9] [] dX9_count_210 ml_RX9_373 my_X5_hundredths mi_X5_hundredths lX_37 rfl rfl ⟨Nat.le_of_ble_eq_true rfl, Nat.le_of_ble_eq_true rfl⟩ ⟨Nat.le_of_ble_eq_true rfl, Nat.le_of_ble_eq_true rfl⟩ (Nat.le_of_ble_eq_true rfl) rfl (s_Sets_hundredths l _ _ _ _ h) (fun r18 w1 hq => ?_)
    obtain ⟨e9, h⟩ := hq
    rw [e9]
    refine r_conv (w2 := (wI (wI (wI (wI (wI (wI (wI (wI (wI (wI (wA w 38 se_steps_7) 37 9 se_stepCount_8) 37 10 se_bestKnown_10) 37 11 se_best_11) 39 4 sr_most_12) 39 5 sr_room_13) 39 6 sr_enough_14) 39 7 sr_topSet_15) 39 8 sr_topWorth_16) 39 9 sr_topLength_17) 39 10 (w.1 39 10))) rfl ?_
    exact r_reti (pc := 213) (kd := 0) hC hQ dX9_count_213 hr hk (by decide) (Or.inl rfl) ⟨se_steps_7, se_stepCount_8, se_bestKnown_10, se_best_11, sr_most_12, sr_room_13, sr_enough_14, sr_topSet_15, sr_topWorth_16, sr_topLength_17, (w.1 39 10), rfl, h⟩
  have h := h.2 hc15
  refine r_tblOut (pc := 1) (tgt := 214) hC dX9_count_1 (tb_out_14 hc1 hc2 hc3 hc4 hc5 hc6 hc7 hc8 hc9 hc10 hc11 hc12 hc13 hc14 hc15) rfl ?_
  refine r_iconst (pc := 214) hC dX9_count_214 (rng_lit rfl) ?_
  refine r_conv (w2 := (wI (wI (wI (wI (wI (wI (wI (wI (wI (wI (wA w 38 (w.1 38)) 37 9 (w.1 37 9)) 37 10 (w.1 37 10)) 37 11 (w.1 37 11)) 39 4 (w.1 39 4)) 39 5 (w.1 39 5)) 39 6 (w.1 39 6)) 39 7 (w.1 39 7)) 39 8 (w.1 39 8)) 39 9 (w.1 39 9)) 39 10 (w.1 39 10))) rfl ?_
  exact r_reti (pc := 215) (kd := 0) hC hQ dX9_count_215 hr hk (by decide) (Or.inl rfl) ⟨(w.1 38), (w.1 37 9), (w.1 37 10), (w.1 37 11), (w.1 39 4), (w.1 39 5), (w.1 39 6), (w.1 39 7), (w.1 39 8), (w.1 39 9), (w.1 39 10), rfl, h⟩
