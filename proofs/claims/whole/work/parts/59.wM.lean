def wp_M_write (m_page : (Nat → Int)) (m_signAt : (Nat → Int)) (m_wordFrom : (Nat → Int)) (m_wordTo : (Nat → Int)) (m_sentenceOf : (Nat → Int)) (m_from : (Nat → Int)) (m_to : (Nat → Int)) (m_weight : (Nat → Int)) (m_terms : (Nat → Int)) (m_soft : (Nat → Int)) (m_matchItem : (Nat → Int)) (m_matchFirst : (Nat → Int)) (m_matchLast : (Nat → Int)) (m_isMatch : (Nat → Int)) (m_inWindow : (Nat → Int)) (m_window : (Nat → Int)) (m_out : (Nat → Int)) (m_strongOver : (Nat → Int)) (m_softOver : (Nat → Int)) (m_strongOn : (Nat → Int)) (m_softOn : (Nat → Int)) (m_thrown : Int) (m_signs : Int) (m_words : Int) (m_sentences : Int) (m_items : Int) (m_matches : Int) (m_cutFirst : Int) (m_cutLast : Int) (m_isWhole : Int) (m_chosen : Int) (m_outMany : Int) (m_strongMarks : Int) (m_softMarks : Int) (m_isStrongOpen : Int) (m_isSoftOpen : Int) (a1 : Int) (Q : Int → (Nat → Int) → (Nat → Int) → (Nat → Int) → (Nat → Int) → (Nat → Int) → (Nat → Int) → (Nat → Int) → Int → Int → Int → Int → Int → Int → Int → Int → Int → Prop) : Prop := wp_M_in a1 10 600 (fun (r1 : Int) => jn1 (fun (J1 : Int → Prop) => (¬ r1 = 0 → J1 0) ∧ (r1 = 0 → J1 1)) (fun (y2 : Int) => wp_M_throwsIf 0 y2 1 (fun (r3 : Int) (m_thrown_4 : Int) => (r3 = 0 → wp_M_begins m_outMany m_strongMarks m_softMarks (fun (m_outMany_5 : Int) (m_strongMarks_6 : Int) (m_softMarks_7 : Int) => lpw18 (fun (m_inWindow_8 : (Nat → Int)) (m_window_9 : (Nat → Int)) (m_out_10 : (Nat → Int)) (m_strongOver_11 : (Nat → Int)) (m_softOver_12 : (Nat → Int)) (m_strongOn_13 : (Nat → Int)) (m_softOn_14 : (Nat → Int)) (m_cutFirst_15 : Int) (m_cutLast_16 : Int) (m_isWhole_17 : Int) (m_outMany_18 : Int) (m_strongMarks_19 : Int) (m_softMarks_20 : Int) (m_isStrongOpen_21 : Int) (m_isSoftOpen_22 : Int) (x23 : Int) (x24 : Int) (x25 : Int) (k2 : (Nat → Int) → (Nat → Int) → (Nat → Int) → (Nat → Int) → (Nat → Int) → (Nat → Int) → (Nat → Int) → Int → Int → Int → Int → Int → Int → Int → Int → Int → Int → Int → Prop) => (m_sentences ≤ x25 → (x24 = 0 → Q m_outMany_18 m_inWindow_8 m_window_9 m_out_10 m_strongOver_11 m_softOver_12 m_strongOn_13 m_softOn_14 m_thrown_4 m_cutFirst_15 m_cutLast_16 m_isWhole_17 m_outMany_18 m_strongMarks_19 m_softMarks_20 m_isStrongOpen_21 m_isSoftOpen_22) ∧ (¬ x24 = 0 → wp_M_says m_out_10 m_outMany_18 25 (fun (m_out_26 : (Nat → Int)) (m_outMany_27 : Int) => Q m_outMany_27 m_inWindow_8 m_window_9 m_out_26 m_strongOver_11 m_softOver_12 m_strongOn_13 m_softOn_14 m_thrown_4 m_cutFirst_15 m_cutLast_16 m_isWhole_17 m_outMany_27 m_strongMarks_19 m_softMarks_20 m_isStrongOpen_21 m_isSoftOpen_22))) ∧ (¬ m_sentences ≤ x25 → wp_M_holds m_chosen x25 (fun (r28 : Int) => jn17 (fun (J3 : (Nat → Int) → (Nat → Int) → (Nat → Int) → (Nat → Int) → (Nat → Int) → (Nat → Int) → (Nat → Int) → Int → Int → Int → Int → Int → Int → Int → Int → Int → Int → Prop) => (r28 = 0 → J3 m_inWindow_8 m_window_9 m_out_10 m_strongOver_11 m_softOver_12 m_strongOn_13 m_softOn_14 m_cutFirst_15 m_cutLast_16 m_isWhole_17 m_outMany_18 m_strongMarks_19 m_softMarks_20 m_isStrongOpen_21 m_isSoftOpen_22 x23 x24) ∧ (¬ r28 = 0 → wp_M_cuts m_wordFrom m_wordTo m_sentenceOf m_from m_to m_weight m_terms m_isMatch m_inWindow_8 m_window_9 m_words m_items m_cutFirst_15 m_cutLast_16 m_isWhole_17 x25 a1 (fun (r46 : Int) (m_inWindow_47 : (Nat → Int)) (m_window_48 : (Nat → Int)) (m_cutFirst_49 : Int) (m_cutLast_50 : Int) (m_isWhole_51 : Int) => (¬ r46 = 0 → wp_M_firstWord m_sentenceOf m_words x25 (fun (r52 : Int) => wp_M_wordsIn m_sentenceOf m_words x25 (fun (r53 : Int) => (rng (r52 + r53)) ∧ ((rng ((r52 + r53) - 1)) ∧ (jn1 (fun (J4 : Int → Prop) => jn0 (fun (J13 : Prop) => (¬ m_isWhole_51 = 0 → J13) ∧ (m_isWhole_51 = 0 → (m_cutFirst_49 ≤ r52 → J13) ∧ (¬ m_cutFirst_49 ≤ r52 → J4 1))) (J4 0)) (fun (y54 : Int) => jn1 (fun (J5 : Int → Prop) => jn0 (fun (J12 : Prop) => (¬ m_isWhole_51 = 0 → J12) ∧ (m_isWhole_51 = 0 → (((r52 + r53) - 1) ≤ m_cutLast_50 → J12) ∧ (¬ ((r52 + r53) - 1) ≤ m_cutLast_50 → J5 1))) (J5 0)) (fun (y55 : Int) => jn2 (fun (J6 : (Nat → Int) → Int → Prop) => (¬ x23 = (-1) → (rng (x23 + 1)) ∧ (jn1 (fun (J9 : Nat → Prop) => jn0 (fun (J10 : Prop) => (¬ x25 = (x23 + 1) → J10) ∧ (x25 = (x23 + 1) → (¬ x24 = 0 → J10) ∧ (x24 = 0 → (¬ y54 = 0 → J10) ∧ (y54 = 0 → J9 27)))) (J9 28)) (fun (y70 : Nat) => wp_M_says m_out_10 m_outMany_18 y70 (fun (m_out_71 : (Nat → Int)) (m_outMany_72 : Int) => J6 m_out_71 m_outMany_72)))) ∧ (x23 = (-1) → jn1 (fun (J11 : Nat → Prop) => (y54 = 0 → J11 26) ∧ (¬ y54 = 0 → J11 25)) (fun (y73 : Nat) => wp_M_says m_out_10 m_outMany_18 y73 (fun (m_out_74 : (Nat → Int)) (m_outMany_75 : Int) => J6 m_out_74 m_outMany_75)))) (fun (m_out_56 : (Nat → Int)) (m_outMany_57 : Int) => jn1 (fun (J7 : Int → Prop) => (y54 = 0 → (0 ≤ x25 ∧ x25 < 14) ∧ (J7 (m_from (Int.toNat x25)))) ∧ (¬ y54 = 0 → (0 ≤ m_cutFirst_49 ∧ m_cutFirst_49 < 100) ∧ (J7 (m_wordFrom (Int.toNat m_cutFirst_49))))) (fun (y58 : Int) => jn1 (fun (J8 : Int → Prop) => (y55 = 0 → (0 ≤ x25 ∧ x25 < 14) ∧ (J8 (m_to (Int.toNat x25)))) ∧ (¬ y55 = 0 → (0 ≤ m_cutLast_50 ∧ m_cutLast_50 < 100) ∧ (J8 (m_wordTo (Int.toNat m_cutLast_50))))) (fun (y59 : Int) => wp_M_writes m_page m_signAt m_wordFrom m_wordTo m_soft m_matchItem m_matchFirst m_matchLast m_out_56 m_strongOver_11 m_softOver_12 m_strongOn_13 m_softOn_14 m_signs m_matches m_outMany_57 m_strongMarks_19 m_softMarks_20 m_isStrongOpen_21 m_isSoftOpen_22 y58 y59 m_cutFirst_49 m_cutLast_50 (fun (m_out_60 : (Nat → Int)) (m_strongOver_61 : (Nat → Int)) (m_softOver_62 : (Nat → Int)) (m_strongOn_63 : (Nat → Int)) (m_softOn_64 : (Nat → Int)) (m_outMany_65 : Int) (m_strongMarks_66 : Int) (m_softMarks_67 : Int) (m_isStrongOpen_68 : Int) (m_isSoftOpen_69 : Int) => J3 m_inWindow_47 m_window_48 m_out_60 m_strongOver_61 m_softOver_62 m_strongOn_63 m_softOn_64 m_cutFirst_49 m_cutLast_50 m_isWhole_51 m_outMany_65 m_strongMarks_66 m_softMarks_67 m_isStrongOpen_68 m_isSoftOpen_69 x25 y55))))))))))) ∧ (r46 = 0 → J3 m_inWindow_47 m_window_48 m_out_10 m_strongOver_11 m_softOver_12 m_strongOn_13 m_softOn_14 m_cutFirst_49 m_cutLast_50 m_isWhole_51 m_outMany_18 m_strongMarks_19 m_softMarks_20 m_isStrongOpen_21 m_isSoftOpen_22 x23 x24)))) (fun (m_inWindow_29 : (Nat → Int)) (m_window_30 : (Nat → Int)) (m_out_31 : (Nat → Int)) (m_strongOver_32 : (Nat → Int)) (m_softOver_33 : (Nat → Int)) (m_strongOn_34 : (Nat → Int)) (m_softOn_35 : (Nat → Int)) (m_cutFirst_36 : Int) (m_cutLast_37 : Int) (m_isWhole_38 : Int) (m_outMany_39 : Int) (m_strongMarks_40 : Int) (m_softMarks_41 : Int) (m_isStrongOpen_42 : Int) (m_isSoftOpen_43 : Int) (x44 : Int) (x45 : Int) => (rng (x25 + 1)) ∧ (k2 m_inWindow_29 m_window_30 m_out_31 m_strongOver_32 m_softOver_33 m_strongOn_34 m_softOn_35 m_cutFirst_36 m_cutLast_37 m_isWhole_38 m_outMany_39 m_strongMarks_40 m_softMarks_41 m_isStrongOpen_42 m_isSoftOpen_43 x44 x45 (x25 + 1)))))) m_inWindow m_window m_out m_strongOver m_softOver m_strongOn m_softOn m_cutFirst m_cutLast m_isWhole m_outMany_5 m_strongMarks_6 m_softMarks_7 m_isStrongOpen m_isSoftOpen (-1) 0 0)) ∧ (¬ r3 = 0 → Q 0 m_inWindow m_window m_out m_strongOver m_softOver m_strongOn m_softOn m_thrown_4 m_cutFirst m_cutLast m_isWhole m_outMany m_strongMarks m_softMarks m_isStrongOpen m_isSoftOpen))))
set_option maxHeartbeats 4000000 in
set_option maxRecDepth 20000 in
theorem s_M_write (l : Launch) (w : St) (a1 : Int) (P : Int → (Nat → Int) → (Nat → Int) → (Nat → Int) → (Nat → Int) → (Nat → Int) → (Nat → Int) → (Nat → Int) → Int → Int → Int → Int → Int → Int → Int → Int → Int → Prop) (h : wp_M_write (w.1 3) (w.1 4) (w.1 5) (w.1 6) (w.1 7) (w.1 9) (w.1 10) (w.1 12) (w.1 13) (w.1 15) (w.1 24) (w.1 25) (w.1 26) (w.1 27) (w.1 30) (w.1 32) (w.1 35) (w.1 36) (w.1 37) (w.1 38) (w.1 39) (w.1 0 0) (w.1 0 7) (w.1 0 12) (w.1 0 16) (w.1 0 29) (w.1 0 39) (w.1 0 47) (w.1 0 48) (w.1 0 49) (w.1 0 53) (w.1 0 60) (w.1 0 61) (w.1 0 62) (w.1 0 67) (w.1 0 68) a1 P) : Cn l yX10_write cX10_write 9 (some .int) 7 LM w [aR 0, aI a1] (okI (fun r w1 => ∃ (o0 : (Nat → Int)) (o1 : (Nat → Int)) (o2 : (Nat → Int)) (o3 : (Nat → Int)) (o4 : (Nat → Int)) (o5 : (Nat → Int)) (o6 : (Nat → Int)) (o7 : Int) (o8 : Int) (o9 : Int) (o10 : Int) (o11 : Int) (o12 : Int) (o13 : Int) (o14 : Int) (o15 : Int), w1 = (wI (wI (wI (wI (wI (wI (wI (wI (wI (wA (wA (wA (wA (wA (wA (wA w 30 o0) 32 o1) 35 o2) 36 o3) 37 o4) 38 o5) 39 o6) 0 0 o7) 0 47 o8) 0 48 o9) 0 49 o10) 0 60 o11) 0 61 o12) 0 62 o13) 0 67 o14) 0 68 o15) ∧ P r o0 o1 o2 o3 o4 o5 o6 o7 o8 o9 o10 o11 o12 o13 o14 o15)) := by
  unfold wp_M_write at h
  refine Cn.of2 [some (aR 0), some (aI a1), none, none, none, none, none, none, none] (by decide) (Nat.le_of_ble_eq_true rfl) rfl (fun p e s m args below meth c D cA ad A Q hQ hC hr hk => ?_)
  refine r_aload_n (pc := 0) hC 0 dX10_write_0 rfl rfl ?_
  refine r_iconst (pc := 1) hC dX10_write_1 (rng_lit rfl) ?_
  refine r_put (kd := 0) (pc := 2) hC dX10_write_2 pl_RX10_142 lM_0 rfl (by decide) (Or.inl rfl) ?_
  refine r_aload_n (pc := 5) hC 0 dX10_write_5 rfl rfl ?_
  refine r_iload_n (pc := 6) hC 1 dX10_write_6 rfl rfl ?_
  refine r_bipush (pc := 7) hC dX10_write_7 ⟨rfl, rng_lit rfl⟩ ?_
  refine r_sipush (pc := 9) hC dX10_write_9 ⟨rfl, rng_lit rfl⟩ ?_
  refine r_callSi (pc := 12) hC [aI a1, aI 10, aI 600] [aR 0] dX10_write_12 ml_RX10_151 my_X10_in ms_X10_in rfl ⟨Nat.le_of_ble_eq_true rfl, Nat.le_of_ble_eq_true rfl⟩ ⟨Nat.le_of_ble_eq_true rfl, Nat.le_of_ble_eq_true rfl⟩ (Nat.le_of_ble_eq_true rfl) rfl (s_M_in l _ _ _ _ _ h) (fun r1 w1 hq => ?_)
  obtain ⟨e9, h⟩ := hq
  rw [e9]
  obtain ⟨J1, hJ1, h⟩ := h
  have S1 : ∀ (y2 : Int), J1 y2 → Wd p l e (rmD 7) s m args below meth c Q 0 0 9 D cA ad A LM (wI w 0 0 0) 23 [some (aR 0), some (aI a1), none, none, none, none, none, none, none] [aI y2, aR 0] := by
    intro y2 hj
    have h := hJ1 y2 hj
    refine r_iconst (pc := 23) hC dX10_write_23 (rng_lit rfl) ?_
    refine r_callVi (pc := 24) hC [aI y2, aI 1] [] dX10_write_24 ml_RX10_309 my_X10_throwsIf mi_X10_throwsIf lM_0 rfl rfl ⟨Nat.le_of_ble_eq_true rfl, Nat.le_of_ble_eq_true rfl⟩ ⟨Nat.le_of_ble_eq_true rfl, Nat.le_of_ble_eq_true rfl⟩ (Nat.le_of_ble_eq_true rfl) rfl (s_M_throwsIf l _ _ _ _ h) (fun r3 w1 hq => ?_)
    obtain ⟨m_thrown_4, e9, h⟩ := hq
    rw [e9]
    refine r_if_eq (pc := 27) (tgt := 32) hC dX10_write_27 rfl (fun hc16 => ?_) (fun hc16 => ?_)
    · have h := h.1 hc16
      refine r_aload_n (pc := 32) hC 0 dX10_write_32 rfl rfl ?_
      refine r_callVv (pc := 33) hC [] [] dX10_write_33 ml_RX10_452 my_X10_begins mi_X10_begins lM_0 rfl rfl ⟨Nat.le_of_ble_eq_true rfl, Nat.le_of_ble_eq_true rfl⟩ ⟨Nat.le_of_ble_eq_true rfl, Nat.le_of_ble_eq_true rfl⟩ (Nat.le_of_ble_eq_true rfl) rfl (s_M_begins l _ _ h) (fun w1 hq => ?_)
      obtain ⟨m_outMany_5, m_strongMarks_6, m_softMarks_7, e9, h⟩ := hq
      rw [e9]
      refine r_iconst (pc := 36) hC dX10_write_36 (rng_lit rfl) ?_
      refine r_istore_n (ls2 := [some (aR 0), some (aI a1), some (aI (-1)), none, none, none, none, none, none]) (pc := 37) hC 2 dX10_write_37 rfl (by decide) rfl rfl ?_
      refine r_iconst (pc := 38) hC dX10_write_38 (rng_lit rfl) ?_
      refine r_istore_n (ls2 := [some (aR 0), some (aI a1), some (aI (-1)), some (aI 0), none, none, none, none, none]) (pc := 39) hC 3 dX10_write_39 rfl (by decide) rfl rfl ?_
      refine r_iconst (pc := 40) hC dX10_write_40 (rng_lit rfl) ?_
      refine r_istore (ls2 := [some (aR 0), some (aI a1), some (aI (-1)), some (aI 0), some (aI 0), none, none, none, none]) (pc := 41) hC dX10_write_41 (by decide) rfl rfl ?_
      obtain ⟨I2, μ2, hI2, hB2⟩ := h
      have S2 : ∀ (nn : Nat) (m_inWindow_8 : (Nat → Int)) (m_window_9 : (Nat → Int)) (m_out_10 : (Nat → Int)) (m_strongOver_11 : (Nat → Int)) (m_softOver_12 : (Nat → Int)) (m_strongOn_13 : (Nat → Int)) (m_softOn_14 : (Nat → Int)) (m_cutFirst_15 : Int) (m_cutLast_16 : Int) (m_isWhole_17 : Int) (m_outMany_18 : Int) (m_strongMarks_19 : Int) (m_softMarks_20 : Int) (m_isStrongOpen_21 : Int) (m_isSoftOpen_22 : Int) (x23 : Int) (x24 : Int) (x25 : Int), μ2 m_inWindow_8 m_window_9 m_out_10 m_strongOver_11 m_softOver_12 m_strongOn_13 m_softOn_14 m_cutFirst_15 m_cutLast_16 m_isWhole_17 m_outMany_18 m_strongMarks_19 m_softMarks_20 m_isStrongOpen_21 m_isSoftOpen_22 x23 x24 x25 < nn → I2 m_inWindow_8 m_window_9 m_out_10 m_strongOver_11 m_softOver_12 m_strongOn_13 m_softOn_14 m_cutFirst_15 m_cutLast_16 m_isWhole_17 m_outMany_18 m_strongMarks_19 m_softMarks_20 m_isStrongOpen_21 m_isSoftOpen_22 x23 x24 x25 → Wd p l e (rmD 7) s m args below meth c Q 0 0 9 D cA ad A LM (wI (wI (wI (wI (wI (wI (wI (wI (wI (wA (wA (wA (wA (wA (wA (wA w 30 m_inWindow_8) 32 m_window_9) 35 m_out_10) 36 m_strongOver_11) 37 m_softOver_12) 38 m_strongOn_13) 39 m_softOn_14) 0 0 m_thrown_4) 0 47 m_cutFirst_15) 0 48 m_cutLast_16) 0 49 m_isWhole_17) 0 60 m_outMany_18) 0 61 m_strongMarks_19) 0 62 m_softMarks_20) 0 67 m_isStrongOpen_21) 0 68 m_isSoftOpen_22) 43 [some (aR 0), some (aI a1), some (aI x23), some (aI x24), some (aI x25), none, none, none, none] [] := by
        intro nn
        induction nn with
        | zero => intro m_inWindow_8 m_window_9 m_out_10 m_strongOver_11 m_softOver_12 m_strongOn_13 m_softOn_14 m_cutFirst_15 m_cutLast_16 m_isWhole_17 m_outMany_18 m_strongMarks_19 m_softMarks_20 m_isStrongOpen_21 m_isSoftOpen_22 x23 x24 x25 hn; exact absurd hn (Nat.not_lt_zero _)
        | succ nn ih2 =>
          intro m_inWindow_8 m_window_9 m_out_10 m_strongOver_11 m_softOver_12 m_strongOn_13 m_softOn_14 m_cutFirst_15 m_cutLast_16 m_isWhole_17 m_outMany_18 m_strongMarks_19 m_softMarks_20 m_isStrongOpen_21 m_isSoftOpen_22 x23 x24 x25 hn2 hi
          have h := hB2 m_inWindow_8 m_window_9 m_out_10 m_strongOver_11 m_softOver_12 m_strongOn_13 m_softOn_14 m_cutFirst_15 m_cutLast_16 m_isWhole_17 m_outMany_18 m_strongMarks_19 m_softMarks_20 m_isStrongOpen_21 m_isSoftOpen_22 x23 x24 x25 hi
          refine r_iload (pc := 43) hC dX10_write_43 rfl ?_
          refine r_aload_n (pc := 45) hC 0 dX10_write_45 rfl rfl ?_
          refine r_get (kd := 0) (v := (w.1 0 16)) (pc := 46) hC dX10_write_46 fl_RX10_203 lM_0 rfl rfl ?_
          refine r_ic_ge (pc := 49) (tgt := 272) hC dX10_write_49 rfl (fun hc15 => ?_) (fun hc15 => ?_)
          · have h := h.1 hc15
            refine r_iload_n (pc := 272) hC 3 dX10_write_272 rfl rfl ?_
            refine r_if_eq (pc := 273) (tgt := 283) hC dX10_write_273 rfl (fun hc1 => ?_) (fun hc1 => ?_)
            · have h := h.1 hc1
              refine r_aload_n (pc := 283) hC 0 dX10_write_283 rfl rfl ?_
              refine r_get (kd := 0) (v := m_outMany_18) (pc := 284) hC dX10_write_284 fl_RX10_396 lM_0 rfl rfl ?_
              refine r_conv (w2 := (wI (wI (wI (wI (wI (wI (wI (wI (wI (wA (wA (wA (wA (wA (wA (wA w 30 m_inWindow_8) 32 m_window_9) 35 m_out_10) 36 m_strongOver_11) 37 m_softOver_12) 38 m_strongOn_13) 39 m_softOn_14) 0 0 m_thrown_4) 0 47 m_cutFirst_15) 0 48 m_cutLast_16) 0 49 m_isWhole_17) 0 60 m_outMany_18) 0 61 m_strongMarks_19) 0 62 m_softMarks_20) 0 67 m_isStrongOpen_21) 0 68 m_isSoftOpen_22)) rfl ?_
              exact r_reti (pc := 287) (kd := 0) hC hQ dX10_write_287 hr hk (by decide) (Or.inl rfl) ⟨m_inWindow_8, m_window_9, m_out_10, m_strongOver_11, m_softOver_12, m_strongOn_13, m_softOn_14, m_thrown_4, m_cutFirst_15, m_cutLast_16, m_isWhole_17, m_outMany_18, m_strongMarks_19, m_softMarks_20, m_isStrongOpen_21, m_isSoftOpen_22, rfl, h⟩
            have h := h.2 hc1
            refine r_aload_n (pc := 276) hC 0 dX10_write_276 rfl rfl ?_
            refine r_ldcsw (j := 25) (pc := 277) hC dX10_write_277 rfl ⟨rfl, rfl⟩ ?_
            refine r_callVv (pc := 280) hC [aR (10000 + 25)] [] dX10_write_280 ml_RX10_405 my_X10_says mi_X10_says lM_0 rfl rfl ⟨Nat.le_of_ble_eq_true rfl, Nat.le_of_ble_eq_true rfl⟩ ⟨Nat.le_of_ble_eq_true rfl, Nat.le_of_ble_eq_true rfl⟩ (Nat.le_of_ble_eq_true rfl) rfl (s_M_says l _ _ _ h) (fun w1 hq => ?_)
            obtain ⟨m_out_26, m_outMany_27, e9, h⟩ := hq
            rw [e9]
            refine r_aload_n (pc := 283) hC 0 dX10_write_283 rfl rfl ?_
            refine r_get (kd := 0) (v := m_outMany_27) (pc := 284) hC dX10_write_284 fl_RX10_396 lM_0 rfl rfl ?_
            refine r_conv (w2 := (wI (wI (wI (wI (wI (wI (wI (wI (wI (wA (wA (wA (wA (wA (wA (wA w 30 m_inWindow_8) 32 m_window_9) 35 m_out_26) 36 m_strongOver_11) 37 m_softOver_12) 38 m_strongOn_13) 39 m_softOn_14) 0 0 m_thrown_4) 0 47 m_cutFirst_15) 0 48 m_cutLast_16) 0 49 m_isWhole_17) 0 60 m_outMany_27) 0 61 m_strongMarks_19) 0 62 m_softMarks_20) 0 67 m_isStrongOpen_21) 0 68 m_isSoftOpen_22)) rfl ?_
            exact r_reti (pc := 287) (kd := 0) hC hQ dX10_write_287 hr hk (by decide) (Or.inl rfl) ⟨m_inWindow_8, m_window_9, m_out_26, m_strongOver_11, m_softOver_12, m_strongOn_13, m_softOn_14, m_thrown_4, m_cutFirst_15, m_cutLast_16, m_isWhole_17, m_outMany_27, m_strongMarks_19, m_softMarks_20, m_isStrongOpen_21, m_isSoftOpen_22, rfl, h⟩
          have h := h.2 hc15
          refine r_aload_n (pc := 52) hC 0 dX10_write_52 rfl rfl ?_
          refine r_get (kd := 0) (v := (w.1 0 53)) (pc := 53) hC dX10_write_53 fl_RX10_221 lM_0 rfl rfl ?_
          refine r_iload (pc := 56) hC dX10_write_56 rfl ?_
          refine r_callSi (pc := 58) hC [aI (w.1 0 53), aI x25] [] dX10_write_58 ml_RX10_294 my_X10_holds ms_X10_holds rfl ⟨Nat.le_of_ble_eq_true rfl, Nat.le_of_ble_eq_true rfl⟩ ⟨Nat.le_of_ble_eq_true rfl, Nat.le_of_ble_eq_true rfl⟩ (Nat.le_of_ble_eq_true rfl) rfl (s_M_holds l _ _ _ _ h) (fun r28 w1 hq => ?_)
          obtain ⟨e9, h⟩ := hq
          rw [e9]
          obtain ⟨J3, hJ3, h⟩ := h
          have S3 : ∀ (m_inWindow_29 : (Nat → Int)) (m_window_30 : (Nat → Int)) (m_out_31 : (Nat → Int)) (m_strongOver_32 : (Nat → Int)) (m_softOver_33 : (Nat → Int)) (m_strongOn_34 : (Nat → Int)) (m_softOn_35 : (Nat → Int)) (m_cutFirst_36 : Int) (m_cutLast_37 : Int) (m_isWhole_38 : Int) (m_outMany_39 : Int) (m_strongMarks_40 : Int) (m_softMarks_41 : Int) (m_isStrongOpen_42 : Int) (m_isSoftOpen_43 : Int) (x44 : Int) (x45 : Int), J3 m_inWindow_29 m_window_30 m_out_31 m_strongOver_32 m_softOver_33 m_strongOn_34 m_softOn_35 m_cutFirst_36 m_cutLast_37 m_isWhole_38 m_outMany_39 m_strongMarks_40 m_softMarks_41 m_isStrongOpen_42 m_isSoftOpen_43 x44 x45 → Wd p l e (rmD 7) s m args below meth c Q 0 0 9 D cA ad A LM (wI (wI (wI (wI (wI (wI (wI (wI (wI (wA (wA (wA (wA (wA (wA (wA w 30 m_inWindow_29) 32 m_window_30) 35 m_out_31) 36 m_strongOver_32) 37 m_softOver_33) 38 m_strongOn_34) 39 m_softOn_35) 0 0 m_thrown_4) 0 47 m_cutFirst_36) 0 48 m_cutLast_37) 0 49 m_isWhole_38) 0 60 m_outMany_39) 0 61 m_strongMarks_40) 0 62 m_softMarks_41) 0 67 m_isStrongOpen_42) 0 68 m_isSoftOpen_43) 266 [some (aR 0), some (aI a1), some (aI x44), some (aI x45), some (aI x25), none, none, none, none] [] := by
            intro m_inWindow_29 m_window_30 m_out_31 m_strongOver_32 m_softOver_33 m_strongOn_34 m_softOn_35 m_cutFirst_36 m_cutLast_37 m_isWhole_38 m_outMany_39 m_strongMarks_40 m_softMarks_41 m_isStrongOpen_42 m_isSoftOpen_43 x44 x45 hj
            have h := hJ3 m_inWindow_29 m_window_30 m_out_31 m_strongOver_32 m_softOver_33 m_strongOn_34 m_softOn_35 m_cutFirst_36 m_cutLast_37 m_isWhole_38 m_outMany_39 m_strongMarks_40 m_softMarks_41 m_isStrongOpen_42 m_isSoftOpen_43 x44 x45 hj
            refine r_iinc (ls2 := [some (aR 0), some (aI a1), some (aI x44), some (aI x45), some (aI (x25 + 1)), none, none, none, none]) (pc := 266) hC dX10_write_266 rfl (by decide) rfl h.1 rfl ?_
            have h := h.2
            refine r_goto (tgt := 43) (pc := 269) hC dX10_write_269 rfl ?_
            exact r_to [true, true, true, true, true, false, false, false, false] rfl rfl (ih2 m_inWindow_29 m_window_30 m_out_31 m_strongOver_32 m_softOver_33 m_strongOn_34 m_softOn_35 m_cutFirst_36 m_cutLast_37 m_isWhole_38 m_outMany_39 m_strongMarks_40 m_softMarks_41 m_isStrongOpen_42 m_isSoftOpen_43 x44 x45 (x25 + 1) (Nat.lt_of_lt_of_le h.2 (Nat.le_of_lt_succ hn2)) h.1)
          refine r_if_eq (pc := 61) (tgt := 266) hC dX10_write_61 rfl (fun hc14 => ?_) (fun hc14 => ?_)
          · have h := h.1 hc14
            exact r_to [true, true, true, true, true, false, false, false, false] rfl rfl (S3 m_inWindow_8 m_window_9 m_out_10 m_strongOver_11 m_softOver_12 m_strongOn_13 m_softOn_14 m_cutFirst_15 m_cutLast_16 m_isWhole_17 m_outMany_18 m_strongMarks_19 m_softMarks_20 m_isStrongOpen_21 m_isSoftOpen_22 x23 x24 h)
          have h := h.2 hc14
          refine r_aload_n (pc := 64) hC 0 dX10_write_64 rfl rfl ?_
          refine r_iload (pc := 65) hC dX10_write_65 rfl ?_
          refine r_iload_n (pc := 67) hC 1 dX10_write_67 rfl rfl ?_
          refine r_callVi (pc := 68) hC [aI x25, aI a1] [] dX10_write_68 ml_RX10_343 my_X10_cuts mi_X10_cuts lM_0 rfl rfl ⟨Nat.le_of_ble_eq_true rfl, Nat.le_of_ble_eq_true rfl⟩ ⟨Nat.le_of_ble_eq_true rfl, Nat.le_of_ble_eq_true rfl⟩ (Nat.le_of_ble_eq_true rfl) rfl (s_M_cuts l _ _ _ _ h) (fun r46 w1 hq => ?_)
          obtain ⟨m_inWindow_47, m_window_48, m_cutFirst_49, m_cutLast_50, m_isWhole_51, e9, h⟩ := hq
          rw [e9]
          refine r_if_ne (pc := 71) (tgt := 77) hC dX10_write_71 rfl (fun hc13 => ?_) (fun hc13 => ?_)
          · have h := h.1 hc13
            refine r_aload_n (pc := 77) hC 0 dX10_write_77 rfl rfl ?_
            refine r_iload (pc := 78) hC dX10_write_78 rfl ?_
            refine r_callVi (pc := 80) hC [aI x25] [] dX10_write_80 ml_RX10_325 my_X10_firstWord mi_X10_firstWord lM_0 rfl rfl ⟨Nat.le_of_ble_eq_true rfl, Nat.le_of_ble_eq_true rfl⟩ ⟨Nat.le_of_ble_eq_true rfl, Nat.le_of_ble_eq_true rfl⟩ (Nat.le_of_ble_eq_true rfl) rfl (s_M_firstWord l _ _ _ h) (fun r52 w1 hq => ?_)
            obtain ⟨e9, h⟩ := hq
            rw [e9]
            refine r_istore (ls2 := [some (aR 0), some (aI a1), some (aI x23), some (aI x24), some (aI x25), some (aI r52), none, none, none]) (pc := 83) hC dX10_write_83 (by decide) rfl rfl ?_
            refine r_iload (pc := 85) hC dX10_write_85 rfl ?_
            refine r_aload_n (pc := 87) hC 0 dX10_write_87 rfl rfl ?_
            refine r_iload (pc := 88) hC dX10_write_88 rfl ?_
            refine r_callVi (pc := 90) hC [aI x25] [aI r52] dX10_write_90 ml_RX10_328 my_X10_wordsIn mi_X10_wordsIn lM_0 rfl rfl ⟨Nat.le_of_ble_eq_true rfl, Nat.le_of_ble_eq_true rfl⟩ ⟨Nat.le_of_ble_eq_true rfl, Nat.le_of_ble_eq_true rfl⟩ (Nat.le_of_ble_eq_true rfl) rfl (s_M_wordsIn l _ _ _ h) (fun r53 w1 hq => ?_)
            obtain ⟨e9, h⟩ := hq
            rw [e9]
            refine r_iadd (pc := 93) hC dX10_write_93 h.1 ?_
            have h := h.2
            refine r_iconst (pc := 94) hC dX10_write_94 (rng_lit rfl) ?_
            refine r_isub (pc := 95) hC dX10_write_95 h.1 ?_
            have h := h.2
            refine r_istore (ls2 := [some (aR 0), some (aI a1), some (aI x23), some (aI x24), some (aI x25), some (aI r52), some (aI ((r52 + r53) - 1)), none, none]) (pc := 96) hC dX10_write_96 (by decide) rfl rfl ?_
            refine r_aload_n (pc := 98) hC 0 dX10_write_98 rfl rfl ?_
            refine r_get (kd := 1) (v := m_isWhole_51) (pc := 99) hC dX10_write_99 fl_RX10_331 lM_0 rfl rfl ?_
            obtain ⟨J4, hJ4, h⟩ := h
            have S4 : ∀ (y54 : Int), J4 y54 → Wd p l e (rmD 7) s m args below meth c Q 0 0 9 D cA ad A LM (wI (wI (wI (wI (wI (wI (wI (wI (wI (wA (wA (wA (wA (wA (wA (wA w 30 m_inWindow_47) 32 m_window_48) 35 m_out_10) 36 m_strongOver_11) 37 m_softOver_12) 38 m_strongOn_13) 39 m_softOn_14) 0 0 m_thrown_4) 0 47 m_cutFirst_49) 0 48 m_cutLast_50) 0 49 m_isWhole_51) 0 60 m_outMany_18) 0 61 m_strongMarks_19) 0 62 m_softMarks_20) 0 67 m_isStrongOpen_21) 0 68 m_isSoftOpen_22) 119 [some (aR 0), some (aI a1), some (aI x23), some (aI x24), some (aI x25), none, some (aI ((r52 + r53) - 1)), none, none] [aI y54] := by
              intro y54 hj
              have h := hJ4 y54 hj
              refine r_istore (ls2 := [some (aR 0), some (aI a1), some (aI x23), some (aI x24), some (aI x25), none, some (aI ((r52 + r53) - 1)), some (aI y54), none]) (pc := 119) hC dX10_write_119 (by decide) rfl rfl ?_
              refine r_aload_n (pc := 121) hC 0 dX10_write_121 rfl rfl ?_
              refine r_get (kd := 1) (v := m_isWhole_51) (pc := 122) hC dX10_write_122 fl_RX10_331 lM_0 rfl rfl ?_
              obtain ⟨J5, hJ5, h⟩ := h
              have S5 : ∀ (y55 : Int), J5 y55 → Wd p l e (rmD 7) s m args below meth c Q 0 0 9 D cA ad A LM (wI (wI (wI (wI (wI (wI (wI (wI (wI (wA (wA (wA (wA (wA (wA (wA w 30 m_inWindow_47) 32 m_window_48) 35 m_out_10) 36 m_strongOver_11) 37 m_softOver_12) 38 m_strongOn_13) 39 m_softOn_14) 0 0 m_thrown_4) 0 47 m_cutFirst_49) 0 48 m_cutLast_50) 0 49 m_isWhole_51) 0 60 m_outMany_18) 0 61 m_strongMarks_19) 0 62 m_softMarks_20) 0 67 m_isStrongOpen_21) 0 68 m_isSoftOpen_22) 142 [some (aR 0), some (aI a1), some (aI x23), some (aI x24), some (aI x25), none, none, some (aI y54), none] [aI y55] := by
                intro y55 hj
                have h := hJ5 y55 hj
                refine r_istore (ls2 := [some (aR 0), some (aI a1), some (aI x23), some (aI x24), some (aI x25), none, none, some (aI y54), some (aI y55)]) (pc := 142) hC dX10_write_142 (by decide) rfl rfl ?_
                refine r_iload_n (pc := 144) hC 2 dX10_write_144 rfl rfl ?_
                refine r_iconst (pc := 145) hC dX10_write_145 (rng_lit rfl) ?_
                obtain ⟨J6, hJ6, h⟩ := h
                have S6 : ∀ (m_out_56 : (Nat → Int)) (m_outMany_57 : Int), J6 m_out_56 m_outMany_57 → Wd p l e (rmD 7) s m args below meth c Q 0 0 9 D cA ad A LM (wI (wI (wI (wI (wI (wI (wI (wI (wI (wA (wA (wA (wA (wA (wA (wA w 30 m_inWindow_47) 32 m_window_48) 35 m_out_56) 36 m_strongOver_11) 37 m_softOver_12) 38 m_strongOn_13) 39 m_softOn_14) 0 0 m_thrown_4) 0 47 m_cutFirst_49) 0 48 m_cutLast_50) 0 49 m_isWhole_51) 0 60 m_outMany_57) 0 61 m_strongMarks_19) 0 62 m_softMarks_20) 0 67 m_isStrongOpen_21) 0 68 m_isSoftOpen_22) 200 [some (aR 0), some (aI a1), none, none, some (aI x25), none, none, some (aI y54), some (aI y55)] [] := by
                  intro m_out_56 m_outMany_57 hj
                  have h := hJ6 m_out_56 m_outMany_57 hj
                  refine r_aload_n (pc := 200) hC 0 dX10_write_200 rfl rfl ?_
                  refine r_iload (pc := 201) hC dX10_write_201 rfl ?_
                  obtain ⟨J7, hJ7, h⟩ := h
                  have S7 : ∀ (y58 : Int), J7 y58 → Wd p l e (rmD 7) s m args below meth c Q 0 0 9 D cA ad A LM (wI (wI (wI (wI (wI (wI (wI (wI (wI (wA (wA (wA (wA (wA (wA (wA w 30 m_inWindow_47) 32 m_window_48) 35 m_out_56) 36 m_strongOver_11) 37 m_softOver_12) 38 m_strongOn_13) 39 m_softOn_14) 0 0 m_thrown_4) 0 47 m_cutFirst_49) 0 48 m_cutLast_50) 0 49 m_isWhole_51) 0 60 m_outMany_57) 0 61 m_strongMarks_19) 0 62 m_softMarks_20) 0 67 m_isStrongOpen_21) 0 68 m_isSoftOpen_22) 225 [some (aR 0), some (aI a1), none, none, some (aI x25), none, none, none, some (aI y55)] [aI y58, aR 0] := by
                    intro y58 hj
                    have h := hJ7 y58 hj
                    refine r_iload (pc := 225) hC dX10_write_225 rfl ?_
                    obtain ⟨J8, hJ8, h⟩ := h
                    have S8 : ∀ (y59 : Int), J8 y59 → Wd p l e (rmD 7) s m args below meth c Q 0 0 9 D cA ad A LM (wI (wI (wI (wI (wI (wI (wI (wI (wI (wA (wA (wA (wA (wA (wA (wA w 30 m_inWindow_47) 32 m_window_48) 35 m_out_56) 36 m_strongOver_11) 37 m_softOver_12) 38 m_strongOn_13) 39 m_softOn_14) 0 0 m_thrown_4) 0 47 m_cutFirst_49) 0 48 m_cutLast_50) 0 49 m_isWhole_51) 0 60 m_outMany_57) 0 61 m_strongMarks_19) 0 62 m_softMarks_20) 0 67 m_isStrongOpen_21) 0 68 m_isSoftOpen_22) 249 [some (aR 0), some (aI a1), none, none, some (aI x25), none, none, none, some (aI y55)] [aI y59, aI y58, aR 0] := by
                      intro y59 hj
                      have h := hJ8 y59 hj
                      refine r_aload_n (pc := 249) hC 0 dX10_write_249 rfl rfl ?_
                      refine r_get (kd := 0) (v := m_cutFirst_49) (pc := 250) hC dX10_write_250 fl_RX10_334 lM_0 rfl rfl ?_
                      refine r_aload_n (pc := 253) hC 0 dX10_write_253 rfl rfl ?_
                      refine r_get (kd := 0) (v := m_cutLast_50) (pc := 254) hC dX10_write_254 fl_RX10_337 lM_0 rfl rfl ?_
                      refine r_callVv (pc := 257) hC [aI y58, aI y59, aI m_cutFirst_49, aI m_cutLast_50] [] dX10_write_257 ml_RX10_463 my_X10_writes mi_X10_writes lM_0 rfl rfl ⟨Nat.le_of_ble_eq_true rfl, Nat.le_of_ble_eq_true rfl⟩ ⟨Nat.le_of_ble_eq_true rfl, Nat.le_of_ble_eq_true rfl⟩ (Nat.le_of_ble_eq_true rfl) rfl (s_M_writes l _ _ _ _ _ _ h) (fun w1 hq => ?_)
                      obtain ⟨m_out_60, m_strongOver_61, m_softOver_62, m_strongOn_63, m_softOn_64, m_outMany_65, m_strongMarks_66, m_softMarks_67, m_isStrongOpen_68, m_isSoftOpen_69, e9, h⟩ := hq
                      rw [e9]
                      refine r_iload (pc := 260) hC dX10_write_260 rfl ?_
                      refine r_istore_n (ls2 := [some (aR 0), some (aI a1), some (aI x25), none, some (aI x25), none, none, none, some (aI y55)]) (pc := 262) hC 2 dX10_write_262 rfl (by decide) rfl rfl ?_
                      refine r_iload (pc := 263) hC dX10_write_263 rfl ?_
                      refine r_istore_n (ls2 := [some (aR 0), some (aI a1), some (aI x25), some (aI y55), some (aI x25), none, none, none, some (aI y55)]) (pc := 265) hC 3 dX10_write_265 rfl (by decide) rfl rfl ?_
                      exact r_to [true, true, true, true, true, false, false, false, false] rfl rfl (S3 m_inWindow_47 m_window_48 m_out_60 m_strongOver_61 m_softOver_62 m_strongOn_63 m_softOn_64 m_cutFirst_49 m_cutLast_50 m_isWhole_51 m_outMany_65 m_strongMarks_66 m_softMarks_67 m_isStrongOpen_68 m_isSoftOpen_69 x25 y55 h)
                    refine r_if_eq (pc := 227) (tgt := 242) hC dX10_write_227 rfl (fun hc2 => ?_) (fun hc2 => ?_)
                    · have h := h.1 hc2
                      refine r_aload_n (pc := 242) hC 0 dX10_write_242 rfl rfl ?_
                      refine r_getr (r := 10) (pc := 243) hC dX10_write_243 fl_RX10_38 lM_0 rfl ?_
                      refine r_iload (pc := 246) hC dX10_write_246 rfl ?_
                      refine r_iald (v := ((w.1 10) (Int.toNat x25))) (pc := 248) hC dX10_write_248 lM_10 h.1.1 h.1.2 rfl ?_
                      have h := h.2
                      exact r_to [true, true, false, false, true, false, false, false, true] rfl rfl (S8 ((w.1 10) (Int.toNat x25)) h)
                    have h := h.2 hc2
                    refine r_aload_n (pc := 230) hC 0 dX10_write_230 rfl rfl ?_
                    refine r_getr (r := 6) (pc := 231) hC dX10_write_231 fl_RX10_26 lM_0 rfl ?_
                    refine r_aload_n (pc := 234) hC 0 dX10_write_234 rfl rfl ?_
                    refine r_get (kd := 0) (v := m_cutLast_50) (pc := 235) hC dX10_write_235 fl_RX10_337 lM_0 rfl rfl ?_
                    refine r_iald (v := ((w.1 6) (Int.toNat m_cutLast_50))) (pc := 238) hC dX10_write_238 lM_6 h.1.1 h.1.2 rfl ?_
                    have h := h.2
                    refine r_goto (tgt := 249) (pc := 239) hC dX10_write_239 rfl ?_
                    exact r_to [true, true, false, false, true, false, false, false, true] rfl rfl (S8 ((w.1 6) (Int.toNat m_cutLast_50)) h)
                  refine r_if_eq (pc := 203) (tgt := 218) hC dX10_write_203 rfl (fun hc3 => ?_) (fun hc3 => ?_)
                  · have h := h.1 hc3
                    refine r_aload_n (pc := 218) hC 0 dX10_write_218 rfl rfl ?_
                    refine r_getr (r := 9) (pc := 219) hC dX10_write_219 fl_RX10_35 lM_0 rfl ?_
                    refine r_iload (pc := 222) hC dX10_write_222 rfl ?_
                    refine r_iald (v := ((w.1 9) (Int.toNat x25))) (pc := 224) hC dX10_write_224 lM_9 h.1.1 h.1.2 rfl ?_
                    have h := h.2
                    exact r_to [true, true, false, false, true, false, false, false, true] rfl rfl (S7 ((w.1 9) (Int.toNat x25)) h)
                  have h := h.2 hc3
                  refine r_aload_n (pc := 206) hC 0 dX10_write_206 rfl rfl ?_
                  refine r_getr (r := 5) (pc := 207) hC dX10_write_207 fl_RX10_23 lM_0 rfl ?_
                  refine r_aload_n (pc := 210) hC 0 dX10_write_210 rfl rfl ?_
                  refine r_get (kd := 0) (v := m_cutFirst_49) (pc := 211) hC dX10_write_211 fl_RX10_334 lM_0 rfl rfl ?_
                  refine r_iald (v := ((w.1 5) (Int.toNat m_cutFirst_49))) (pc := 214) hC dX10_write_214 lM_5 h.1.1 h.1.2 rfl ?_
                  have h := h.2
                  refine r_goto (tgt := 225) (pc := 215) hC dX10_write_215 rfl ?_
                  exact r_to [true, true, false, false, true, false, false, false, true] rfl rfl (S7 ((w.1 5) (Int.toNat m_cutFirst_49)) h)
                refine r_ic_ne (pc := 146) (tgt := 170) hC dX10_write_146 rfl (fun hc8 => ?_) (fun hc8 => ?_)
                · have h := h.1 hc8
                  refine r_aload_n (pc := 170) hC 0 dX10_write_170 rfl rfl ?_
                  refine r_iload (pc := 171) hC dX10_write_171 rfl ?_
                  refine r_iload_n (pc := 173) hC 2 dX10_write_173 rfl rfl ?_
                  refine r_iconst (pc := 174) hC dX10_write_174 (rng_lit rfl) ?_
                  refine r_iadd (pc := 175) hC dX10_write_175 h.1 ?_
                  have h := h.2
                  obtain ⟨J9, hJ9, h⟩ := h
                  have S9 : ∀ (y70 : Nat), J9 y70 → Wd p l e (rmD 7) s m args below meth c Q 0 0 9 D cA ad A LM (wI (wI (wI (wI (wI (wI (wI (wI (wI (wA (wA (wA (wA (wA (wA (wA w 30 m_inWindow_47) 32 m_window_48) 35 m_out_10) 36 m_strongOver_11) 37 m_softOver_12) 38 m_strongOn_13) 39 m_softOn_14) 0 0 m_thrown_4) 0 47 m_cutFirst_49) 0 48 m_cutLast_50) 0 49 m_isWhole_51) 0 60 m_outMany_18) 0 61 m_strongMarks_19) 0 62 m_softMarks_20) 0 67 m_isStrongOpen_21) 0 68 m_isSoftOpen_22) 197 [some (aR 0), some (aI a1), none, none, some (aI x25), none, none, some (aI y54), some (aI y55)] [aR (10000 + y70), aR 0] := by
                    intro y70 hj
                    have h := hJ9 y70 hj
                    refine r_callVv (pc := 197) hC [aR (10000 + y70)] [] dX10_write_197 ml_RX10_405 my_X10_says mi_X10_says lM_0 rfl rfl ⟨Nat.le_of_ble_eq_true rfl, Nat.le_of_ble_eq_true rfl⟩ ⟨Nat.le_of_ble_eq_true rfl, Nat.le_of_ble_eq_true rfl⟩ (Nat.le_of_ble_eq_true rfl) rfl (s_M_says l _ _ _ h) (fun w1 hq => ?_)
                    obtain ⟨m_out_71, m_outMany_72, e9, h⟩ := hq
                    rw [e9]
                    exact r_to [true, true, false, false, true, false, false, true, true] rfl rfl (S6 m_out_71 m_outMany_72 h)
                  obtain ⟨J10, hJ10, h⟩ := h
                  have S10 : J10 → Wd p l e (rmD 7) s m args below meth c Q 0 0 9 D cA ad A LM (wI (wI (wI (wI (wI (wI (wI (wI (wI (wA (wA (wA (wA (wA (wA (wA w 30 m_inWindow_47) 32 m_window_48) 35 m_out_10) 36 m_strongOver_11) 37 m_softOver_12) 38 m_strongOn_13) 39 m_softOn_14) 0 0 m_thrown_4) 0 47 m_cutFirst_49) 0 48 m_cutLast_50) 0 49 m_isWhole_51) 0 60 m_outMany_18) 0 61 m_strongMarks_19) 0 62 m_softMarks_20) 0 67 m_isStrongOpen_21) 0 68 m_isSoftOpen_22) 194 [some (aR 0), some (aI a1), none, none, some (aI x25), none, none, some (aI y54), some (aI y55)] [aR 0] := by
                    intro hj
                    have h := hJ10 hj
                    refine r_ldcsw (j := 28) (pc := 194) hC dX10_write_194 rfl ⟨rfl, rfl⟩ ?_
                    exact r_to [true, true, false, false, true, false, false, true, true] rfl rfl (S9 28 h)
                  refine r_ic_ne (pc := 176) (tgt := 194) hC dX10_write_176 rfl (fun hc6 => ?_) (fun hc6 => ?_)
                  · have h := h.1 hc6
                    exact r_to [true, true, false, false, true, false, false, true, true] rfl rfl (S10 h)
                  have h := h.2 hc6
                  refine r_iload_n (pc := 179) hC 3 dX10_write_179 rfl rfl ?_
                  refine r_if_ne (pc := 180) (tgt := 194) hC dX10_write_180 rfl (fun hc5 => ?_) (fun hc5 => ?_)
                  · have h := h.1 hc5
                    exact r_to [true, true, false, false, true, false, false, true, true] rfl rfl (S10 h)
                  have h := h.2 hc5
                  refine r_iload (pc := 183) hC dX10_write_183 rfl ?_
                  refine r_if_ne (pc := 185) (tgt := 194) hC dX10_write_185 rfl (fun hc4 => ?_) (fun hc4 => ?_)
                  · have h := h.1 hc4
                    exact r_to [true, true, false, false, true, false, false, true, true] rfl rfl (S10 h)
                  have h := h.2 hc4
                  refine r_ldcsw (j := 27) (pc := 188) hC dX10_write_188 rfl ⟨rfl, rfl⟩ ?_
                  refine r_goto (tgt := 197) (pc := 191) hC dX10_write_191 rfl ?_
                  exact r_to [true, true, false, false, true, false, false, true, true] rfl rfl (S9 27 h)
                have h := h.2 hc8
                refine r_aload_n (pc := 149) hC 0 dX10_write_149 rfl rfl ?_
                refine r_iload (pc := 150) hC dX10_write_150 rfl ?_
                obtain ⟨J11, hJ11, h⟩ := h
                have S11 : ∀ (y73 : Nat), J11 y73 → Wd p l e (rmD 7) s m args below meth c Q 0 0 9 D cA ad A LM (wI (wI (wI (wI (wI (wI (wI (wI (wI (wA (wA (wA (wA (wA (wA (wA w 30 m_inWindow_47) 32 m_window_48) 35 m_out_10) 36 m_strongOver_11) 37 m_softOver_12) 38 m_strongOn_13) 39 m_softOn_14) 0 0 m_thrown_4) 0 47 m_cutFirst_49) 0 48 m_cutLast_50) 0 49 m_isWhole_51) 0 60 m_outMany_18) 0 61 m_strongMarks_19) 0 62 m_softMarks_20) 0 67 m_isStrongOpen_21) 0 68 m_isSoftOpen_22) 164 [some (aR 0), some (aI a1), none, none, some (aI x25), none, none, some (aI y54), some (aI y55)] [aR (10000 + y73), aR 0] := by
                  intro y73 hj
                  have h := hJ11 y73 hj
                  refine r_callVv (pc := 164) hC [aR (10000 + y73)] [] dX10_write_164 ml_RX10_405 my_X10_says mi_X10_says lM_0 rfl rfl ⟨Nat.le_of_ble_eq_true rfl, Nat.le_of_ble_eq_true rfl⟩ ⟨Nat.le_of_ble_eq_true rfl, Nat.le_of_ble_eq_true rfl⟩ (Nat.le_of_ble_eq_true rfl) rfl (s_M_says l _ _ _ h) (fun w1 hq => ?_)
                  obtain ⟨m_out_74, m_outMany_75, e9, h⟩ := hq
                  rw [e9]
                  refine r_goto (tgt := 200) (pc := 167) hC dX10_write_167 rfl ?_
                  exact r_to [true, true, false, false, true, false, false, true, true] rfl rfl (S6 m_out_74 m_outMany_75 h)
                refine r_if_eq (pc := 152) (tgt := 161) hC dX10_write_152 rfl (fun hc7 => ?_) (fun hc7 => ?_)
                · have h := h.1 hc7
                  refine r_ldcsw (j := 26) (pc := 161) hC dX10_write_161 rfl ⟨rfl, rfl⟩ ?_
                  exact r_to [true, true, false, false, true, false, false, true, true] rfl rfl (S11 26 h)
                have h := h.2 hc7
                refine r_ldcsw (j := 25) (pc := 155) hC dX10_write_155 rfl ⟨rfl, rfl⟩ ?_
                refine r_goto (tgt := 164) (pc := 158) hC dX10_write_158 rfl ?_
                exact r_to [true, true, false, false, true, false, false, true, true] rfl rfl (S11 25 h)
              obtain ⟨J12, hJ12, h⟩ := h
              have S12 : J12 → Wd p l e (rmD 7) s m args below meth c Q 0 0 9 D cA ad A LM (wI (wI (wI (wI (wI (wI (wI (wI (wI (wA (wA (wA (wA (wA (wA (wA w 30 m_inWindow_47) 32 m_window_48) 35 m_out_10) 36 m_strongOver_11) 37 m_softOver_12) 38 m_strongOn_13) 39 m_softOn_14) 0 0 m_thrown_4) 0 47 m_cutFirst_49) 0 48 m_cutLast_50) 0 49 m_isWhole_51) 0 60 m_outMany_18) 0 61 m_strongMarks_19) 0 62 m_softMarks_20) 0 67 m_isStrongOpen_21) 0 68 m_isSoftOpen_22) 141 [some (aR 0), some (aI a1), some (aI x23), some (aI x24), some (aI x25), none, none, some (aI y54), none] [] := by
                intro hj
                have h := hJ12 hj
                refine r_iconst (pc := 141) hC dX10_write_141 (rng_lit rfl) ?_
                exact r_to [true, true, true, true, true, false, false, true, false] rfl rfl (S5 0 h)
              refine r_if_ne (pc := 125) (tgt := 141) hC dX10_write_125 rfl (fun hc10 => ?_) (fun hc10 => ?_)
              · have h := h.1 hc10
                exact r_to [true, true, true, true, true, false, false, true, false] rfl rfl (S12 h)
              have h := h.2 hc10
              refine r_aload_n (pc := 128) hC 0 dX10_write_128 rfl rfl ?_
              refine r_get (kd := 0) (v := m_cutLast_50) (pc := 129) hC dX10_write_129 fl_RX10_337 lM_0 rfl rfl ?_
              refine r_iload (pc := 132) hC dX10_write_132 rfl ?_
              refine r_ic_ge (pc := 134) (tgt := 141) hC dX10_write_134 rfl (fun hc9 => ?_) (fun hc9 => ?_)
              · have h := h.1 hc9
                exact r_to [true, true, true, true, true, false, false, true, false] rfl rfl (S12 h)
              have h := h.2 hc9
              refine r_iconst (pc := 137) hC dX10_write_137 (rng_lit rfl) ?_
              refine r_goto (tgt := 142) (pc := 138) hC dX10_write_138 rfl ?_
              exact r_to [true, true, true, true, true, false, false, true, false] rfl rfl (S5 1 h)
            obtain ⟨J13, hJ13, h⟩ := h
            have S13 : J13 → Wd p l e (rmD 7) s m args below meth c Q 0 0 9 D cA ad A LM (wI (wI (wI (wI (wI (wI (wI (wI (wI (wA (wA (wA (wA (wA (wA (wA w 30 m_inWindow_47) 32 m_window_48) 35 m_out_10) 36 m_strongOver_11) 37 m_softOver_12) 38 m_strongOn_13) 39 m_softOn_14) 0 0 m_thrown_4) 0 47 m_cutFirst_49) 0 48 m_cutLast_50) 0 49 m_isWhole_51) 0 60 m_outMany_18) 0 61 m_strongMarks_19) 0 62 m_softMarks_20) 0 67 m_isStrongOpen_21) 0 68 m_isSoftOpen_22) 118 [some (aR 0), some (aI a1), some (aI x23), some (aI x24), some (aI x25), none, some (aI ((r52 + r53) - 1)), none, none] [] := by
              intro hj
              have h := hJ13 hj
              refine r_iconst (pc := 118) hC dX10_write_118 (rng_lit rfl) ?_
              exact r_to [true, true, true, true, true, false, true, false, false] rfl rfl (S4 0 h)
            refine r_if_ne (pc := 102) (tgt := 118) hC dX10_write_102 rfl (fun hc12 => ?_) (fun hc12 => ?_)
            · have h := h.1 hc12
              exact r_to [true, true, true, true, true, false, true, false, false] rfl rfl (S13 h)
            have h := h.2 hc12
            refine r_aload_n (pc := 105) hC 0 dX10_write_105 rfl rfl ?_
            refine r_get (kd := 0) (v := m_cutFirst_49) (pc := 106) hC dX10_write_106 fl_RX10_334 lM_0 rfl rfl ?_
            refine r_iload (pc := 109) hC dX10_write_109 rfl ?_
            refine r_ic_le (pc := 111) (tgt := 118) hC dX10_write_111 rfl (fun hc11 => ?_) (fun hc11 => ?_)
            · have h := h.1 hc11
              exact r_to [true, true, true, true, true, false, true, false, false] rfl rfl (S13 h)
            have h := h.2 hc11
            refine r_iconst (pc := 114) hC dX10_write_114 (rng_lit rfl) ?_
            refine r_goto (tgt := 119) (pc := 115) hC dX10_write_115 rfl ?_
            exact r_to [true, true, true, true, true, false, true, false, false] rfl rfl (S4 1 h)
          have h := h.2 hc13
          refine r_goto (tgt := 266) (pc := 74) hC dX10_write_74 rfl ?_
          exact r_to [true, true, true, true, true, false, false, false, false] rfl rfl (S3 m_inWindow_47 m_window_48 m_out_10 m_strongOver_11 m_softOver_12 m_strongOn_13 m_softOn_14 m_cutFirst_49 m_cutLast_50 m_isWhole_51 m_outMany_18 m_strongMarks_19 m_softMarks_20 m_isStrongOpen_21 m_isSoftOpen_22 x23 x24 h)
      exact r_to [true, true, true, true, true, false, false, false, false] rfl rfl (S2 _ (w.1 30) (w.1 32) (w.1 35) (w.1 36) (w.1 37) (w.1 38) (w.1 39) (w.1 0 47) (w.1 0 48) (w.1 0 49) m_outMany_5 m_strongMarks_6 m_softMarks_7 (w.1 0 67) (w.1 0 68) (-1) 0 0 (Nat.lt_succ_self _) hI2)
    have h := h.2 hc16
    refine r_iconst (pc := 30) hC dX10_write_30 (rng_lit rfl) ?_
    refine r_conv (w2 := (wI (wI (wI (wI (wI (wI (wI (wI (wI (wA (wA (wA (wA (wA (wA (wA w 30 (w.1 30)) 32 (w.1 32)) 35 (w.1 35)) 36 (w.1 36)) 37 (w.1 37)) 38 (w.1 38)) 39 (w.1 39)) 0 0 m_thrown_4) 0 47 (w.1 0 47)) 0 48 (w.1 0 48)) 0 49 (w.1 0 49)) 0 60 (w.1 0 60)) 0 61 (w.1 0 61)) 0 62 (w.1 0 62)) 0 67 (w.1 0 67)) 0 68 (w.1 0 68))) rfl ?_
    exact r_reti (pc := 31) (kd := 0) hC hQ dX10_write_31 hr hk (by decide) (Or.inl rfl) ⟨(w.1 30), (w.1 32), (w.1 35), (w.1 36), (w.1 37), (w.1 38), (w.1 39), m_thrown_4, (w.1 0 47), (w.1 0 48), (w.1 0 49), (w.1 0 60), (w.1 0 61), (w.1 0 62), (w.1 0 67), (w.1 0 68), rfl, h⟩
  refine r_if_ne (pc := 15) (tgt := 22) hC dX10_write_15 rfl (fun hc17 => ?_) (fun hc17 => ?_)
  · have h := h.1 hc17
    refine r_iconst (pc := 22) hC dX10_write_22 (rng_lit rfl) ?_
    exact r_to [true, true, false, false, false, false, false, false, false] rfl rfl (S1 0 h)
  have h := h.2 hc17
  refine r_iconst (pc := 18) hC dX10_write_18 (rng_lit rfl) ?_
  refine r_goto (tgt := 23) (pc := 19) hC dX10_write_19 rfl ?_
  exact r_to [true, true, false, false, false, false, false, false, false] rfl rfl (S1 1 h)
def wp_M_borderBehind (m_from : (Nat → Int)) (m_to : (Nat → Int)) (m_signs : Int) (m_sentences : Int) (a1 : Int) (Q : Int → Prop) : Prop := lpw1 (fun (x1 : Int) (k1 : Int → Prop) => (m_sentences ≤ x1 → Q m_signs) ∧ (¬ m_sentences ≤ x1 → (0 ≤ x1 ∧ x1 < 14) ∧ (((m_from (Int.toNat x1)) ≤ a1 → (0 ≤ x1 ∧ x1 < 14) ∧ (((m_to (Int.toNat x1)) ≤ a1 → (rng (x1 + 1)) ∧ (k1 (x1 + 1))) ∧ (¬ (m_to (Int.toNat x1)) ≤ a1 → (0 ≤ x1 ∧ x1 < 14) ∧ (Q (m_to (Int.toNat x1)))))) ∧ (¬ (m_from (Int.toNat x1)) ≤ a1 → (0 ≤ x1 ∧ x1 < 14) ∧ (Q (m_from (Int.toNat x1))))))) 0
set_option maxHeartbeats 4000000 in
set_option maxRecDepth 20000 in
theorem s_M_borderBehind (l : Launch) (w : St) (a1 : Int) (P : Int → Prop) (h : wp_M_borderBehind (w.1 9) (w.1 10) (w.1 0 7) (w.1 0 16) a1 P) : Cn l yX10_borderBehind cX10_borderBehind 3 (some .int) 0 LM w [aR 0, aI a1] (okI (fun r w1 => w1 = w ∧ P r)) := by
  unfold wp_M_borderBehind at h
  refine Cn.of2 [some (aR 0), some (aI a1), none] (by decide) (Nat.le_of_ble_eq_true rfl) rfl (fun p e s m args below meth c D cA ad A Q hQ hC hr hk => ?_)
  refine r_iconst (pc := 0) hC dX10_borderBehind_0 (rng_lit rfl) ?_
  refine r_istore_n (ls2 := [some (aR 0), some (aI a1), some (aI 0)]) (pc := 1) hC 2 dX10_borderBehind_1 rfl (by decide) rfl rfl ?_
  obtain ⟨I1, μ1, hI1, hB1⟩ := h
  have S1 : ∀ (nn : Nat) (x1 : Int), μ1 x1 < nn → I1 x1 → Wd p l e (rmD 0) s m args below meth c Q 0 0 3 D cA ad A LM w 2 [some (aR 0), some (aI a1), some (aI x1)] [] := by
    intro nn
    induction nn with
    | zero => intro x1 hn; exact absurd hn (Nat.not_lt_zero _)
    | succ nn ih1 =>
      intro x1 hn1 hi
      have h := hB1 x1 hi
      refine r_iload_n (pc := 2) hC 2 dX10_borderBehind_2 rfl rfl ?_
      refine r_aload_n (pc := 3) hC 0 dX10_borderBehind_3 rfl rfl ?_
      refine r_get (kd := 0) (v := (w.1 0 16)) (pc := 4) hC dX10_borderBehind_4 fl_RX10_203 lM_0 rfl rfl ?_
      refine r_ic_ge (pc := 7) (tgt := 50) hC dX10_borderBehind_7 rfl (fun hc3 => ?_) (fun hc3 => ?_)
      · have h := h.1 hc3
        refine r_aload_n (pc := 50) hC 0 dX10_borderBehind_50 rfl rfl ?_
        refine r_get (kd := 0) (v := (w.1 0 7)) (pc := 51) hC dX10_borderBehind_51 fl_RX10_155 lM_0 rfl rfl ?_
        exact r_reti (pc := 54) (kd := 0) hC hQ dX10_borderBehind_54 hr hk (by decide) (Or.inl rfl) ⟨rfl, h⟩
      have h := h.2 hc3
      refine r_iload_n (pc := 10) hC 1 dX10_borderBehind_10 rfl rfl ?_
      refine r_aload_n (pc := 11) hC 0 dX10_borderBehind_11 rfl rfl ?_
      refine r_getr (r := 9) (pc := 12) hC dX10_borderBehind_12 fl_RX10_35 lM_0 rfl ?_
      refine r_iload_n (pc := 15) hC 2 dX10_borderBehind_15 rfl rfl ?_
      refine r_iald (v := ((w.1 9) (Int.toNat x1))) (pc := 16) hC dX10_borderBehind_16 lM_9 h.1.1 h.1.2 rfl ?_
      have h := h.2
      refine r_ic_ge (pc := 17) (tgt := 27) hC dX10_borderBehind_17 rfl (fun hc2 => ?_) (fun hc2 => ?_)
      · have h := h.1 hc2
        refine r_iload_n (pc := 27) hC 1 dX10_borderBehind_27 rfl rfl ?_
        refine r_aload_n (pc := 28) hC 0 dX10_borderBehind_28 rfl rfl ?_
        refine r_getr (r := 10) (pc := 29) hC dX10_borderBehind_29 fl_RX10_38 lM_0 rfl ?_
        refine r_iload_n (pc := 32) hC 2 dX10_borderBehind_32 rfl rfl ?_
        refine r_iald (v := ((w.1 10) (Int.toNat x1))) (pc := 33) hC dX10_borderBehind_33 lM_10 h.1.1 h.1.2 rfl ?_
        have h := h.2
        refine r_ic_ge (pc := 34) (tgt := 44) hC dX10_borderBehind_34 rfl (fun hc1 => ?_) (fun hc1 => ?_)
        · have h := h.1 hc1
          refine r_iinc (ls2 := [some (aR 0), some (aI a1), some (aI (x1 + 1))]) (pc := 44) hC dX10_borderBehind_44 rfl (by decide) rfl h.1 rfl ?_
          have h := h.2
          refine r_goto (tgt := 2) (pc := 47) hC dX10_borderBehind_47 rfl ?_
          exact r_to [true, true, true] rfl rfl (ih1 (x1 + 1) (Nat.lt_of_lt_of_le h.2 (Nat.le_of_lt_succ hn1)) h.1)
        have h := h.2 hc1
        refine r_aload_n (pc := 37) hC 0 dX10_borderBehind_37 rfl rfl ?_
        refine r_getr (r := 10) (pc := 38) hC dX10_borderBehind_38 fl_RX10_38 lM_0 rfl ?_
        refine r_iload_n (pc := 41) hC 2 dX10_borderBehind_41 rfl rfl ?_
        refine r_iald (v := ((w.1 10) (Int.toNat x1))) (pc := 42) hC dX10_borderBehind_42 lM_10 h.1.1 h.1.2 rfl ?_
        have h := h.2
        exact r_reti (pc := 43) (kd := 0) hC hQ dX10_borderBehind_43 hr hk (by decide) (Or.inl rfl) ⟨rfl, h⟩
      have h := h.2 hc2
      refine r_aload_n (pc := 20) hC 0 dX10_borderBehind_20 rfl rfl ?_
      refine r_getr (r := 9) (pc := 21) hC dX10_borderBehind_21 fl_RX10_35 lM_0 rfl ?_
      refine r_iload_n (pc := 24) hC 2 dX10_borderBehind_24 rfl rfl ?_
      refine r_iald (v := ((w.1 9) (Int.toNat x1))) (pc := 25) hC dX10_borderBehind_25 lM_9 h.1.1 h.1.2 rfl ?_
      have h := h.2
      exact r_reti (pc := 26) (kd := 0) hC hQ dX10_borderBehind_26 hr hk (by decide) (Or.inl rfl) ⟨rfl, h⟩
  exact r_to [true, true, true] rfl rfl (S1 _ 0 (Nat.lt_succ_self _) hI1)
def wp_M_quote (m_page : (Nat → Int)) (m_signAt : (Nat → Int)) (m_wordFrom : (Nat → Int)) (m_wordTo : (Nat → Int)) (m_from : (Nat → Int)) (m_to : (Nat → Int)) (m_weight : (Nat → Int)) (m_terms : (Nat → Int)) (m_soft : (Nat → Int)) (m_matchItem : (Nat → Int)) (m_matchFirst : (Nat → Int)) (m_matchLast : (Nat → Int)) (m_isMatch : (Nat → Int)) (m_inWindow : (Nat → Int)) (m_window : (Nat → Int)) (m_out : (Nat → Int)) (m_strongOver : (Nat → Int)) (m_softOver : (Nat → Int)) (m_strongOn : (Nat → Int)) (m_softOn : (Nat → Int)) (m_thrown : Int) (m_signs : Int) (m_words : Int) (m_sentences : Int) (m_items : Int) (m_matches : Int) (m_outMany : Int) (m_strongMarks : Int) (m_softMarks : Int) (m_isStrongOpen : Int) (m_isSoftOpen : Int) (a1 : Int) (Q : Int → (Nat → Int) → (Nat → Int) → (Nat → Int) → (Nat → Int) → (Nat → Int) → (Nat → Int) → (Nat → Int) → Int → Int → Int → Int → Int → Int → Prop) : Prop := wp_M_in a1 1 600 (fun (r1 : Int) => jn1 (fun (J1 : Int → Prop) => (¬ r1 = 0 → J1 0) ∧ (r1 = 0 → J1 1)) (fun (y2 : Int) => wp_M_throwsIf 0 y2 1 (fun (r3 : Int) (m_thrown_4 : Int) => (r3 = 0 → wp_M_begins m_outMany m_strongMarks m_softMarks (fun (m_outMany_5 : Int) (m_strongMarks_6 : Int) (m_softMarks_7 : Int) => (rng (m_words - 1)) ∧ (wp_M_widestIn m_wordFrom m_wordTo m_weight m_terms m_isMatch m_inWindow m_window m_items 0 (m_words - 1) a1 (fun (r8 : Int) (m_inWindow_9 : (Nat → Int)) (m_window_10 : (Nat → Int)) => (¬ r8 = 0 → (0 ≤ (0 : Int) ∧ (0 : Int) < 4) ∧ ((0 ≤ (1 : Int) ∧ (1 : Int) < 4) ∧ (jn2 (fun (J2 : (Nat → Int) → Int → Prop) => ((m_window_10 (Int.toNat 0)) ≤ 0 → J2 m_out m_outMany_5) ∧ (¬ (m_window_10 (Int.toNat 0)) ≤ 0 → wp_M_says m_out m_outMany_5 25 (fun (m_out_38 : (Nat → Int)) (m_outMany_39 : Int) => J2 m_out_38 m_outMany_39))) (fun (m_out_11 : (Nat → Int)) (m_outMany_12 : Int) => (0 ≤ (m_window_10 (Int.toNat 0)) ∧ (m_window_10 (Int.toNat 0)) < 100) ∧ (lpw11 (fun (m_out_13 : (Nat → Int)) (m_strongOver_14 : (Nat → Int)) (m_softOver_15 : (Nat → Int)) (m_strongOn_16 : (Nat → Int)) (m_softOn_17 : (Nat → Int)) (m_outMany_18 : Int) (m_strongMarks_19 : Int) (m_softMarks_20 : Int) (m_isStrongOpen_21 : Int) (m_isSoftOpen_22 : Int) (x23 : Int) (k3 : (Nat → Int) → (Nat → Int) → (Nat → Int) → (Nat → Int) → (Nat → Int) → Int → Int → Int → Int → Int → Int → Prop) => (0 ≤ (m_window_10 (Int.toNat 1)) ∧ (m_window_10 (Int.toNat 1)) < 100) ∧ (((m_wordTo (Int.toNat (m_window_10 (Int.toNat 1)))) ≤ x23 → (rng (m_words - 1)) ∧ (((m_words - 1) ≤ (m_window_10 (Int.toNat 1)) → Q m_outMany_18 m_inWindow_9 m_window_10 m_out_13 m_strongOver_14 m_softOver_15 m_strongOn_16 m_softOn_17 m_thrown_4 m_outMany_18 m_strongMarks_19 m_softMarks_20 m_isStrongOpen_21 m_isSoftOpen_22) ∧ (¬ (m_words - 1) ≤ (m_window_10 (Int.toNat 1)) → wp_M_says m_out_13 m_outMany_18 25 (fun (m_out_24 : (Nat → Int)) (m_outMany_25 : Int) => Q m_outMany_25 m_inWindow_9 m_window_10 m_out_24 m_strongOver_14 m_softOver_15 m_strongOn_16 m_softOn_17 m_thrown_4 m_outMany_25 m_strongMarks_19 m_softMarks_20 m_isStrongOpen_21 m_isSoftOpen_22)))) ∧ (¬ (m_wordTo (Int.toNat (m_window_10 (Int.toNat 1)))) ≤ x23 → wp_M_borderBehind m_from m_to m_signs m_sentences x23 (fun (r26 : Int) => (0 ≤ (m_window_10 (Int.toNat 1)) ∧ (m_window_10 (Int.toNat 1)) < 100) ∧ (jn1 (fun (J4 : Int → Prop) => (r26 ≤ (m_wordTo (Int.toNat (m_window_10 (Int.toNat 1)))) → J4 r26) ∧ (¬ r26 ≤ (m_wordTo (Int.toNat (m_window_10 (Int.toNat 1)))) → (0 ≤ (m_window_10 (Int.toNat 1)) ∧ (m_window_10 (Int.toNat 1)) < 100) ∧ (J4 (m_wordTo (Int.toNat (m_window_10 (Int.toNat 1))))))) (fun (y27 : Int) => wp_M_writes m_page m_signAt m_wordFrom m_wordTo m_soft m_matchItem m_matchFirst m_matchLast m_out_13 m_strongOver_14 m_softOver_15 m_strongOn_16 m_softOn_17 m_signs m_matches m_outMany_18 m_strongMarks_19 m_softMarks_20 m_isStrongOpen_21 m_isSoftOpen_22 x23 y27 (m_window_10 (Int.toNat 0)) (m_window_10 (Int.toNat 1)) (fun (m_out_28 : (Nat → Int)) (m_strongOver_29 : (Nat → Int)) (m_softOver_30 : (Nat → Int)) (m_strongOn_31 : (Nat → Int)) (m_softOn_32 : (Nat → Int)) (m_outMany_33 : Int) (m_strongMarks_34 : Int) (m_softMarks_35 : Int) (m_isStrongOpen_36 : Int) (m_isSoftOpen_37 : Int) => k3 m_out_28 m_strongOver_29 m_softOver_30 m_strongOn_31 m_softOn_32 m_outMany_33 m_strongMarks_34 m_softMarks_35 m_isStrongOpen_36 m_isSoftOpen_37 y27))))))) m_out_11 m_strongOver m_softOver m_strongOn m_softOn m_outMany_12 m_strongMarks_6 m_softMarks_7 m_isStrongOpen m_isSoftOpen (m_wordFrom (Int.toNat (m_window_10 (Int.toNat 0))))))))) ∧ (r8 = 0 → Q 0 m_inWindow_9 m_window_10 m_out m_strongOver m_softOver m_strongOn m_softOn m_thrown_4 m_outMany_5 m_strongMarks_6 m_softMarks_7 m_isStrongOpen m_isSoftOpen))))) ∧ (¬ r3 = 0 → Q 0 m_inWindow m_window m_out m_strongOver m_softOver m_strongOn m_softOn m_thrown_4 m_outMany m_strongMarks m_softMarks m_isStrongOpen m_isSoftOpen))))
set_option maxHeartbeats 4000000 in
set_option maxRecDepth 20000 in
theorem s_M_quote (l : Launch) (w : St) (a1 : Int) (P : Int → (Nat → Int) → (Nat → Int) → (Nat → Int) → (Nat → Int) → (Nat → Int) → (Nat → Int) → (Nat → Int) → Int → Int → Int → Int → Int → Int → Prop) (h : wp_M_quote (w.1 3) (w.1 4) (w.1 5) (w.1 6) (w.1 9) (w.1 10) (w.1 12) (w.1 13) (w.1 15) (w.1 24) (w.1 25) (w.1 26) (w.1 27) (w.1 30) (w.1 32) (w.1 35) (w.1 36) (w.1 37) (w.1 38) (w.1 39) (w.1 0 0) (w.1 0 7) (w.1 0 12) (w.1 0 16) (w.1 0 29) (w.1 0 39) (w.1 0 60) (w.1 0 61) (w.1 0 62) (w.1 0 67) (w.1 0 68) a1 P) : Cn l yX10_quote cX10_quote 6 (some .int) 7 LM w [aR 0, aI a1] (okI (fun r w1 => ∃ (o0 : (Nat → Int)) (o1 : (Nat → Int)) (o2 : (Nat → Int)) (o3 : (Nat → Int)) (o4 : (Nat → Int)) (o5 : (Nat → Int)) (o6 : (Nat → Int)) (o7 : Int) (o8 : Int) (o9 : Int) (o10 : Int) (o11 : Int) (o12 : Int), w1 = (wI (wI (wI (wI (wI (wI (wA (wA (wA (wA (wA (wA (wA w 30 o0) 32 o1) 35 o2) 36 o3) 37 o4) 38 o5) 39 o6) 0 0 o7) 0 60 o8) 0 61 o9) 0 62 o10) 0 67 o11) 0 68 o12) ∧ P r o0 o1 o2 o3 o4 o5 o6 o7 o8 o9 o10 o11 o12)) := by
  unfold wp_M_quote at h
  refine Cn.of2 [some (aR 0), some (aI a1), none, none, none, none] (by decide) (Nat.le_of_ble_eq_true rfl) rfl (fun p e s m args below meth c D cA ad A Q hQ hC hr hk => ?_)
  refine r_aload_n (pc := 0) hC 0 dX10_quote_0 rfl rfl ?_
  refine r_iconst (pc := 1) hC dX10_quote_1 (rng_lit rfl) ?_
  refine r_put (kd := 0) (pc := 2) hC dX10_quote_2 pl_RX10_142 lM_0 rfl (by decide) (Or.inl rfl) ?_
  refine r_aload_n (pc := 5) hC 0 dX10_quote_5 rfl rfl ?_
  refine r_iload_n (pc := 6) hC 1 dX10_quote_6 rfl rfl ?_
  refine r_iconst (pc := 7) hC dX10_quote_7 (rng_lit rfl) ?_
  refine r_sipush (pc := 8) hC dX10_quote_8 ⟨rfl, rng_lit rfl⟩ ?_
  refine r_callSi (pc := 11) hC [aI a1, aI 1, aI 600] [aR 0] dX10_quote_11 ml_RX10_151 my_X10_in ms_X10_in rfl ⟨Nat.le_of_ble_eq_true rfl, Nat.le_of_ble_eq_true rfl⟩ ⟨Nat.le_of_ble_eq_true rfl, Nat.le_of_ble_eq_true rfl⟩ (Nat.le_of_ble_eq_true rfl) rfl (s_M_in l _ _ _ _ _ h) (fun r1 w1 hq => ?_)
  obtain ⟨e9, h⟩ := hq
  rw [e9]
  obtain ⟨J1, hJ1, h⟩ := h
  have S1 : ∀ (y2 : Int), J1 y2 → Wd p l e (rmD 7) s m args below meth c Q 0 0 6 D cA ad A LM (wI w 0 0 0) 22 [some (aR 0), some (aI a1), none, none, none, none] [aI y2, aR 0] := by
    intro y2 hj
    have h := hJ1 y2 hj
    refine r_iconst (pc := 22) hC dX10_quote_22 (rng_lit rfl) ?_
    refine r_callVi (pc := 23) hC [aI y2, aI 1] [] dX10_quote_23 ml_RX10_309 my_X10_throwsIf mi_X10_throwsIf lM_0 rfl rfl ⟨Nat.le_of_ble_eq_true rfl, Nat.le_of_ble_eq_true rfl⟩ ⟨Nat.le_of_ble_eq_true rfl, Nat.le_of_ble_eq_true rfl⟩ (Nat.le_of_ble_eq_true rfl) rfl (s_M_throwsIf l _ _ _ _ h) (fun r3 w1 hq => ?_)
    obtain ⟨m_thrown_4, e9, h⟩ := hq
    rw [e9]
    refine r_if_eq (pc := 26) (tgt := 31) hC dX10_quote_26 rfl (fun hc6 => ?_) (fun hc6 => ?_)
    · have h := h.1 hc6
      refine r_aload_n (pc := 31) hC 0 dX10_quote_31 rfl rfl ?_
      refine r_callVv (pc := 32) hC [] [] dX10_quote_32 ml_RX10_452 my_X10_begins mi_X10_begins lM_0 rfl rfl ⟨Nat.le_of_ble_eq_true rfl, Nat.le_of_ble_eq_true rfl⟩ ⟨Nat.le_of_ble_eq_true rfl, Nat.le_of_ble_eq_true rfl⟩ (Nat.le_of_ble_eq_true rfl) rfl (s_M_begins l _ _ h) (fun w1 hq => ?_)
      obtain ⟨m_outMany_5, m_strongMarks_6, m_softMarks_7, e9, h⟩ := hq
      rw [e9]
      refine r_aload_n (pc := 35) hC 0 dX10_quote_35 rfl rfl ?_
      refine r_iconst (pc := 36) hC dX10_quote_36 (rng_lit rfl) ?_
      refine r_aload_n (pc := 37) hC 0 dX10_quote_37 rfl rfl ?_
      refine r_get (kd := 0) (v := (w.1 0 12)) (pc := 38) hC dX10_quote_38 fl_RX10_179 lM_0 rfl rfl ?_
      refine r_iconst (pc := 41) hC dX10_quote_41 (rng_lit rfl) ?_
      refine r_isub (pc := 42) hC dX10_quote_42 h.1 ?_
      have h := h.2
      refine r_iload_n (pc := 43) hC 1 dX10_quote_43 rfl rfl ?_
      refine r_callVi (pc := 44) hC [aI 0, aI ((w.1 0 12) - 1), aI a1] [] dX10_quote_44 ml_RX10_322 my_X10_widestIn mi_X10_widestIn lM_0 rfl rfl ⟨Nat.le_of_ble_eq_true rfl, Nat.le_of_ble_eq_true rfl⟩ ⟨Nat.le_of_ble_eq_true rfl, Nat.le_of_ble_eq_true rfl⟩ (Nat.le_of_ble_eq_true rfl) rfl (s_M_widestIn l _ _ _ _ _ h) (fun r8 w1 hq => ?_)
      obtain ⟨m_inWindow_9, m_window_10, e9, h⟩ := hq
      rw [e9]
      refine r_if_ne (pc := 47) (tgt := 52) hC dX10_quote_47 rfl (fun hc5 => ?_) (fun hc5 => ?_)
      · have h := h.1 hc5
        refine r_aload_n (pc := 52) hC 0 dX10_quote_52 rfl rfl ?_
        refine r_getr (r := 32) (pc := 53) hC dX10_quote_53 fl_RX10_109 lM_0 rfl ?_
        refine r_iconst (pc := 56) hC dX10_quote_56 (rng_lit rfl) ?_
        refine r_iald (v := (m_window_10 (Int.toNat 0))) (pc := 57) hC dX10_quote_57 lM_32 h.1.1 h.1.2 rfl ?_
        have h := h.2
        refine r_istore_n (ls2 := [some (aR 0), some (aI a1), some (aI (m_window_10 (Int.toNat 0))), none, none, none]) (pc := 58) hC 2 dX10_quote_58 rfl (by decide) rfl rfl ?_
        refine r_aload_n (pc := 59) hC 0 dX10_quote_59 rfl rfl ?_
        refine r_getr (r := 32) (pc := 60) hC dX10_quote_60 fl_RX10_109 lM_0 rfl ?_
        refine r_iconst (pc := 63) hC dX10_quote_63 (rng_lit rfl) ?_
        refine r_iald (v := (m_window_10 (Int.toNat 1))) (pc := 64) hC dX10_quote_64 lM_32 h.1.1 h.1.2 rfl ?_
        have h := h.2
        refine r_istore_n (ls2 := [some (aR 0), some (aI a1), some (aI (m_window_10 (Int.toNat 0))), some (aI (m_window_10 (Int.toNat 1))), none, none]) (pc := 65) hC 3 dX10_quote_65 rfl (by decide) rfl rfl ?_
        refine r_iload_n (pc := 66) hC 2 dX10_quote_66 rfl rfl ?_
        obtain ⟨J2, hJ2, h⟩ := h
        have S2 : ∀ (m_out_11 : (Nat → Int)) (m_outMany_12 : Int), J2 m_out_11 m_outMany_12 → Wd p l e (rmD 7) s m args below meth c Q 0 0 6 D cA ad A LM (wI (wI (wI (wI (wA (wA (wA w 30 m_inWindow_9) 32 m_window_10) 35 m_out_11) 0 0 m_thrown_4) 0 60 m_outMany_12) 0 61 m_strongMarks_6) 0 62 m_softMarks_7) 77 [some (aR 0), none, some (aI (m_window_10 (Int.toNat 0))), some (aI (m_window_10 (Int.toNat 1))), none, none] [] := by
          intro m_out_11 m_outMany_12 hj
          have h := hJ2 m_out_11 m_outMany_12 hj
          refine r_aload_n (pc := 77) hC 0 dX10_quote_77 rfl rfl ?_
          refine r_getr (r := 5) (pc := 78) hC dX10_quote_78 fl_RX10_23 lM_0 rfl ?_
          refine r_iload_n (pc := 81) hC 2 dX10_quote_81 rfl rfl ?_
          refine r_iald (v := ((w.1 5) (Int.toNat (m_window_10 (Int.toNat 0))))) (pc := 82) hC dX10_quote_82 lM_5 h.1.1 h.1.2 rfl ?_
          have h := h.2
          refine r_istore (ls2 := [some (aR 0), none, some (aI (m_window_10 (Int.toNat 0))), some (aI (m_window_10 (Int.toNat 1))), some (aI ((w.1 5) (Int.toNat (m_window_10 (Int.toNat 0))))), none]) (pc := 83) hC dX10_quote_83 (by decide) rfl rfl ?_
          obtain ⟨I3, μ3, hI3, hB3⟩ := h
          have S3 : ∀ (nn : Nat) (m_out_13 : (Nat → Int)) (m_strongOver_14 : (Nat → Int)) (m_softOver_15 : (Nat → Int)) (m_strongOn_16 : (Nat → Int)) (m_softOn_17 : (Nat → Int)) (m_outMany_18 : Int) (m_strongMarks_19 : Int) (m_softMarks_20 : Int) (m_isStrongOpen_21 : Int) (m_isSoftOpen_22 : Int) (x23 : Int), μ3 m_out_13 m_strongOver_14 m_softOver_15 m_strongOn_16 m_softOn_17 m_outMany_18 m_strongMarks_19 m_softMarks_20 m_isStrongOpen_21 m_isSoftOpen_22 x23 < nn → I3 m_out_13 m_strongOver_14 m_softOver_15 m_strongOn_16 m_softOn_17 m_outMany_18 m_strongMarks_19 m_softMarks_20 m_isStrongOpen_21 m_isSoftOpen_22 x23 → Wd p l e (rmD 7) s m args below meth c Q 0 0 6 D cA ad A LM (wI (wI (wI (wI (wI (wI (wA (wA (wA (wA (wA (wA (wA w 30 m_inWindow_9) 32 m_window_10) 35 m_out_13) 36 m_strongOver_14) 37 m_softOver_15) 38 m_strongOn_16) 39 m_softOn_17) 0 0 m_thrown_4) 0 60 m_outMany_18) 0 61 m_strongMarks_19) 0 62 m_softMarks_20) 0 67 m_isStrongOpen_21) 0 68 m_isSoftOpen_22) 85 [some (aR 0), none, some (aI (m_window_10 (Int.toNat 0))), some (aI (m_window_10 (Int.toNat 1))), some (aI x23), none] [] := by
            intro nn
            induction nn with
            | zero => intro m_out_13 m_strongOver_14 m_softOver_15 m_strongOn_16 m_softOn_17 m_outMany_18 m_strongMarks_19 m_softMarks_20 m_isStrongOpen_21 m_isSoftOpen_22 x23 hn; exact absurd hn (Nat.not_lt_zero _)
            | succ nn ih3 =>
              intro m_out_13 m_strongOver_14 m_softOver_15 m_strongOn_16 m_softOn_17 m_outMany_18 m_strongMarks_19 m_softMarks_20 m_isStrongOpen_21 m_isSoftOpen_22 x23 hn3 hi
              have h := hB3 m_out_13 m_strongOver_14 m_softOver_15 m_strongOn_16 m_softOn_17 m_outMany_18 m_strongMarks_19 m_softMarks_20 m_isStrongOpen_21 m_isSoftOpen_22 x23 hi
              refine r_iload (pc := 85) hC dX10_quote_85 rfl ?_
              refine r_aload_n (pc := 87) hC 0 dX10_quote_87 rfl rfl ?_
              refine r_getr (r := 6) (pc := 88) hC dX10_quote_88 fl_RX10_26 lM_0 rfl ?_
              refine r_iload_n (pc := 91) hC 3 dX10_quote_91 rfl rfl ?_
              refine r_iald (v := ((w.1 6) (Int.toNat (m_window_10 (Int.toNat 1))))) (pc := 92) hC dX10_quote_92 lM_6 h.1.1 h.1.2 rfl ?_
              have h := h.2
              refine r_ic_ge (pc := 93) (tgt := 145) hC dX10_quote_93 rfl (fun hc3 => ?_) (fun hc3 => ?_)
              · have h := h.1 hc3
                refine r_iload_n (pc := 145) hC 3 dX10_quote_145 rfl rfl ?_
                refine r_aload_n (pc := 146) hC 0 dX10_quote_146 rfl rfl ?_
                refine r_get (kd := 0) (v := (w.1 0 12)) (pc := 147) hC dX10_quote_147 fl_RX10_179 lM_0 rfl rfl ?_
                refine r_iconst (pc := 150) hC dX10_quote_150 (rng_lit rfl) ?_
                refine r_isub (pc := 151) hC dX10_quote_151 h.1 ?_
                have h := h.2
                refine r_ic_ge (pc := 152) (tgt := 162) hC dX10_quote_152 rfl (fun hc1 => ?_) (fun hc1 => ?_)
                · have h := h.1 hc1
                  refine r_aload_n (pc := 162) hC 0 dX10_quote_162 rfl rfl ?_
                  refine r_get (kd := 0) (v := m_outMany_18) (pc := 163) hC dX10_quote_163 fl_RX10_396 lM_0 rfl rfl ?_
                  refine r_conv (w2 := (wI (wI (wI (wI (wI (wI (wA (wA (wA (wA (wA (wA (wA w 30 m_inWindow_9) 32 m_window_10) 35 m_out_13) 36 m_strongOver_14) 37 m_softOver_15) 38 m_strongOn_16) 39 m_softOn_17) 0 0 m_thrown_4) 0 60 m_outMany_18) 0 61 m_strongMarks_19) 0 62 m_softMarks_20) 0 67 m_isStrongOpen_21) 0 68 m_isSoftOpen_22)) rfl ?_
                  exact r_reti (pc := 166) (kd := 0) hC hQ dX10_quote_166 hr hk (by decide) (Or.inl rfl) ⟨m_inWindow_9, m_window_10, m_out_13, m_strongOver_14, m_softOver_15, m_strongOn_16, m_softOn_17, m_thrown_4, m_outMany_18, m_strongMarks_19, m_softMarks_20, m_isStrongOpen_21, m_isSoftOpen_22, rfl, h⟩
                have h := h.2 hc1
                refine r_aload_n (pc := 155) hC 0 dX10_quote_155 rfl rfl ?_
                refine r_ldcsw (j := 25) (pc := 156) hC dX10_quote_156 rfl ⟨rfl, rfl⟩ ?_
                refine r_callVv (pc := 159) hC [aR (10000 + 25)] [] dX10_quote_159 ml_RX10_405 my_X10_says mi_X10_says lM_0 rfl rfl ⟨Nat.le_of_ble_eq_true rfl, Nat.le_of_ble_eq_true rfl⟩ ⟨Nat.le_of_ble_eq_true rfl, Nat.le_of_ble_eq_true rfl⟩ (Nat.le_of_ble_eq_true rfl) rfl (s_M_says l _ _ _ h) (fun w1 hq => ?_)
                obtain ⟨m_out_24, m_outMany_25, e9, h⟩ := hq
                rw [e9]
                refine r_aload_n (pc := 162) hC 0 dX10_quote_162 rfl rfl ?_
                refine r_get (kd := 0) (v := m_outMany_25) (pc := 163) hC dX10_quote_163 fl_RX10_396 lM_0 rfl rfl ?_
                refine r_conv (w2 := (wI (wI (wI (wI (wI (wI (wA (wA (wA (wA (wA (wA (wA w 30 m_inWindow_9) 32 m_window_10) 35 m_out_24) 36 m_strongOver_14) 37 m_softOver_15) 38 m_strongOn_16) 39 m_softOn_17) 0 0 m_thrown_4) 0 60 m_outMany_25) 0 61 m_strongMarks_19) 0 62 m_softMarks_20) 0 67 m_isStrongOpen_21) 0 68 m_isSoftOpen_22)) rfl ?_
                exact r_reti (pc := 166) (kd := 0) hC hQ dX10_quote_166 hr hk (by decide) (Or.inl rfl) ⟨m_inWindow_9, m_window_10, m_out_24, m_strongOver_14, m_softOver_15, m_strongOn_16, m_softOn_17, m_thrown_4, m_outMany_25, m_strongMarks_19, m_softMarks_20, m_isStrongOpen_21, m_isSoftOpen_22, rfl, h⟩
              have h := h.2 hc3
              refine r_aload_n (pc := 96) hC 0 dX10_quote_96 rfl rfl ?_
              refine r_iload (pc := 97) hC dX10_quote_97 rfl ?_
              refine r_callVi (pc := 99) hC [aI x23] [] dX10_quote_99 ml_RX10_467 my_X10_borderBehind mi_X10_borderBehind lM_0 rfl rfl ⟨Nat.le_of_ble_eq_true rfl, Nat.le_of_ble_eq_true rfl⟩ ⟨Nat.le_of_ble_eq_true rfl, Nat.le_of_ble_eq_true rfl⟩ (Nat.le_of_ble_eq_true rfl) rfl (s_M_borderBehind l _ _ _ h) (fun r26 w1 hq => ?_)
              obtain ⟨e9, h⟩ := hq
              rw [e9]
              refine r_istore (ls2 := [some (aR 0), none, some (aI (m_window_10 (Int.toNat 0))), some (aI (m_window_10 (Int.toNat 1))), some (aI x23), some (aI r26)]) (pc := 102) hC dX10_quote_102 (by decide) rfl rfl ?_
              refine r_iload (pc := 104) hC dX10_quote_104 rfl ?_
              refine r_aload_n (pc := 106) hC 0 dX10_quote_106 rfl rfl ?_
              refine r_getr (r := 6) (pc := 107) hC dX10_quote_107 fl_RX10_26 lM_0 rfl ?_
              refine r_iload_n (pc := 110) hC 3 dX10_quote_110 rfl rfl ?_
              refine r_iald (v := ((w.1 6) (Int.toNat (m_window_10 (Int.toNat 1))))) (pc := 111) hC dX10_quote_111 lM_6 h.1.1 h.1.2 rfl ?_
              have h := h.2
              obtain ⟨J4, hJ4, h⟩ := h
              have S4 : ∀ (y27 : Int), J4 y27 → Wd p l e (rmD 7) s m args below meth c Q 0 0 6 D cA ad A LM (wI (wI (wI (wI (wI (wI (wA (wA (wA (wA (wA (wA (wA w 30 m_inWindow_9) 32 m_window_10) 35 m_out_13) 36 m_strongOver_14) 37 m_softOver_15) 38 m_strongOn_16) 39 m_softOn_17) 0 0 m_thrown_4) 0 60 m_outMany_18) 0 61 m_strongMarks_19) 0 62 m_softMarks_20) 0 67 m_isStrongOpen_21) 0 68 m_isSoftOpen_22) 126 [some (aR 0), none, some (aI (m_window_10 (Int.toNat 0))), some (aI (m_window_10 (Int.toNat 1))), some (aI x23), none] [aI y27] := by
                intro y27 hj
                have h := hJ4 y27 hj
                refine r_istore (ls2 := [some (aR 0), none, some (aI (m_window_10 (Int.toNat 0))), some (aI (m_window_10 (Int.toNat 1))), some (aI x23), some (aI y27)]) (pc := 126) hC dX10_quote_126 (by decide) rfl rfl ?_
                refine r_aload_n (pc := 128) hC 0 dX10_quote_128 rfl rfl ?_
                refine r_iload (pc := 129) hC dX10_quote_129 rfl ?_
                refine r_iload (pc := 131) hC dX10_quote_131 rfl ?_
                refine r_iload_n (pc := 133) hC 2 dX10_quote_133 rfl rfl ?_
                refine r_iload_n (pc := 134) hC 3 dX10_quote_134 rfl rfl ?_
                refine r_callVv (pc := 135) hC [aI x23, aI y27, aI (m_window_10 (Int.toNat 0)), aI (m_window_10 (Int.toNat 1))] [] dX10_quote_135 ml_RX10_463 my_X10_writes mi_X10_writes lM_0 rfl rfl ⟨Nat.le_of_ble_eq_true rfl, Nat.le_of_ble_eq_true rfl⟩ ⟨Nat.le_of_ble_eq_true rfl, Nat.le_of_ble_eq_true rfl⟩ (Nat.le_of_ble_eq_true rfl) rfl (s_M_writes l _ _ _ _ _ _ h) (fun w1 hq => ?_)
                obtain ⟨m_out_28, m_strongOver_29, m_softOver_30, m_strongOn_31, m_softOn_32, m_outMany_33, m_strongMarks_34, m_softMarks_35, m_isStrongOpen_36, m_isSoftOpen_37, e9, h⟩ := hq
                rw [e9]
                refine r_iload (pc := 138) hC dX10_quote_138 rfl ?_
                refine r_istore (ls2 := [some (aR 0), none, some (aI (m_window_10 (Int.toNat 0))), some (aI (m_window_10 (Int.toNat 1))), some (aI y27), some (aI y27)]) (pc := 140) hC dX10_quote_140 (by decide) rfl rfl ?_
                refine r_goto (tgt := 85) (pc := 142) hC dX10_quote_142 rfl ?_
                exact r_to [true, false, true, true, true, false] rfl rfl (ih3 m_out_28 m_strongOver_29 m_softOver_30 m_strongOn_31 m_softOn_32 m_outMany_33 m_strongMarks_34 m_softMarks_35 m_isStrongOpen_36 m_isSoftOpen_37 y27 (Nat.lt_of_lt_of_le h.2 (Nat.le_of_lt_succ hn3)) h.1)
              refine r_ic_le (pc := 112) (tgt := 124) hC dX10_quote_112 rfl (fun hc2 => ?_) (fun hc2 => ?_)
              · have h := h.1 hc2
                refine r_iload (pc := 124) hC dX10_quote_124 rfl ?_
                exact r_to [true, false, true, true, true, false] rfl rfl (S4 r26 h)
              have h := h.2 hc2
              refine r_aload_n (pc := 115) hC 0 dX10_quote_115 rfl rfl ?_
              refine r_getr (r := 6) (pc := 116) hC dX10_quote_116 fl_RX10_26 lM_0 rfl ?_
              refine r_iload_n (pc := 119) hC 3 dX10_quote_119 rfl rfl ?_
              refine r_iald (v := ((w.1 6) (Int.toNat (m_window_10 (Int.toNat 1))))) (pc := 120) hC dX10_quote_120 lM_6 h.1.1 h.1.2 rfl ?_
              have h := h.2
              refine r_goto (tgt := 126) (pc := 121) hC dX10_quote_121 rfl ?_
              exact r_to [true, false, true, true, true, false] rfl rfl (S4 ((w.1 6) (Int.toNat (m_window_10 (Int.toNat 1)))) h)
          exact r_to [true, false, true, true, true, false] rfl rfl (S3 _ m_out_11 (w.1 36) (w.1 37) (w.1 38) (w.1 39) m_outMany_12 m_strongMarks_6 m_softMarks_7 (w.1 0 67) (w.1 0 68) ((w.1 5) (Int.toNat (m_window_10 (Int.toNat 0)))) (Nat.lt_succ_self _) hI3)
        refine r_if_le (pc := 67) (tgt := 77) hC dX10_quote_67 rfl (fun hc4 => ?_) (fun hc4 => ?_)
        · have h := h.1 hc4
          exact r_to [true, false, true, true, false, false] rfl rfl (S2 (w.1 35) m_outMany_5 h)
        have h := h.2 hc4
        refine r_aload_n (pc := 70) hC 0 dX10_quote_70 rfl rfl ?_
        refine r_ldcsw (j := 25) (pc := 71) hC dX10_quote_71 rfl ⟨rfl, rfl⟩ ?_
        refine r_callVv (pc := 74) hC [aR (10000 + 25)] [] dX10_quote_74 ml_RX10_405 my_X10_says mi_X10_says lM_0 rfl rfl ⟨Nat.le_of_ble_eq_true rfl, Nat.le_of_ble_eq_true rfl⟩ ⟨Nat.le_of_ble_eq_true rfl, Nat.le_of_ble_eq_true rfl⟩ (Nat.le_of_ble_eq_true rfl) rfl (s_M_says l _ _ _ h) (fun w1 hq => ?_)
        obtain ⟨m_out_38, m_outMany_39, e9, h⟩ := hq
        rw [e9]
        exact r_to [true, false, true, true, false, false] rfl rfl (S2 m_out_38 m_outMany_39 h)
      have h := h.2 hc5
      refine r_iconst (pc := 50) hC dX10_quote_50 (rng_lit rfl) ?_
      refine r_conv (w2 := (wI (wI (wI (wI (wI (wI (wA (wA (wA (wA (wA (wA (wA w 30 m_inWindow_9) 32 m_window_10) 35 (w.1 35)) 36 (w.1 36)) 37 (w.1 37)) 38 (w.1 38)) 39 (w.1 39)) 0 0 m_thrown_4) 0 60 m_outMany_5) 0 61 m_strongMarks_6) 0 62 m_softMarks_7) 0 67 (w.1 0 67)) 0 68 (w.1 0 68))) rfl ?_
      exact r_reti (pc := 51) (kd := 0) hC hQ dX10_quote_51 hr hk (by decide) (Or.inl rfl) ⟨m_inWindow_9, m_window_10, (w.1 35), (w.1 36), (w.1 37), (w.1 38), (w.1 39), m_thrown_4, m_outMany_5, m_strongMarks_6, m_softMarks_7, (w.1 0 67), (w.1 0 68), rfl, h⟩
    have h := h.2 hc6
    refine r_iconst (pc := 29) hC dX10_quote_29 (rng_lit rfl) ?_
    refine r_conv (w2 := (wI (wI (wI (wI (wI (wI (wA (wA (wA (wA (wA (wA (wA w 30 (w.1 30)) 32 (w.1 32)) 35 (w.1 35)) 36 (w.1 36)) 37 (w.1 37)) 38 (w.1 38)) 39 (w.1 39)) 0 0 m_thrown_4) 0 60 (w.1 0 60)) 0 61 (w.1 0 61)) 0 62 (w.1 0 62)) 0 67 (w.1 0 67)) 0 68 (w.1 0 68))) rfl ?_
    exact r_reti (pc := 30) (kd := 0) hC hQ dX10_quote_30 hr hk (by decide) (Or.inl rfl) ⟨(w.1 30), (w.1 32), (w.1 35), (w.1 36), (w.1 37), (w.1 38), (w.1 39), m_thrown_4, (w.1 0 60), (w.1 0 61), (w.1 0 62), (w.1 0 67), (w.1 0 68), rfl, h⟩
  refine r_if_ne (pc := 14) (tgt := 21) hC dX10_quote_14 rfl (fun hc7 => ?_) (fun hc7 => ?_)
  · have h := h.1 hc7
    refine r_iconst (pc := 21) hC dX10_quote_21 (rng_lit rfl) ?_
    exact r_to [true, true, false, false, false, false] rfl rfl (S1 0 h)
  have h := h.2 hc7
  refine r_iconst (pc := 17) hC dX10_quote_17 (rng_lit rfl) ?_
  refine r_goto (tgt := 22) (pc := 18) hC dX10_quote_18 rfl ?_
  exact r_to [true, true, false, false, false, false] rfl rfl (S1 1 h)
def wp_M_octet (m_out : (Nat → Int)) (m_thrown : Int) (m_outMany : Int) (a1 : Int) (Q : Int → Int → Prop) : Prop := (rng (m_outMany - 1)) ∧ (wp_M_in a1 0 (m_outMany - 1) (fun (r1 : Int) => (r1 = 0 → Q (-1) 0) ∧ (¬ r1 = 0 → (0 ≤ a1 ∧ a1 < 9000) ∧ (Q (iAnd (m_out (Int.toNat a1)) 255) 0))))
set_option maxHeartbeats 4000000 in
set_option maxRecDepth 20000 in
theorem s_M_octet (l : Launch) (w : St) (a1 : Int) (P : Int → Int → Prop) (h : wp_M_octet (w.1 35) (w.1 0 0) (w.1 0 60) a1 P) : Cn l yX10_octet cX10_octet 2 (some .int) 1 LM w [aR 0, aI a1] (okI (fun r w1 => ∃ (o0 : Int), w1 = (wI w 0 0 o0) ∧ P r o0)) := by
  unfold wp_M_octet at h
  refine Cn.of2 [some (aR 0), some (aI a1)] (by decide) (Nat.le_of_ble_eq_true rfl) rfl (fun p e s m args below meth c D cA ad A Q hQ hC hr hk => ?_)
  refine r_aload_n (pc := 0) hC 0 dX10_octet_0 rfl rfl ?_
  refine r_iconst (pc := 1) hC dX10_octet_1 (rng_lit rfl) ?_
  refine r_put (kd := 0) (pc := 2) hC dX10_octet_2 pl_RX10_142 lM_0 rfl (by decide) (Or.inl rfl) ?_
  refine r_iload_n (pc := 5) hC 1 dX10_octet_5 rfl rfl ?_
  refine r_iconst (pc := 6) hC dX10_octet_6 (rng_lit rfl) ?_
  refine r_aload_n (pc := 7) hC 0 dX10_octet_7 rfl rfl ?_
  refine r_get (kd := 0) (v := (w.1 0 60)) (pc := 8) hC dX10_octet_8 fl_RX10_396 lM_0 rfl rfl ?_
  refine r_iconst (pc := 11) hC dX10_octet_11 (rng_lit rfl) ?_
  refine r_isub (pc := 12) hC dX10_octet_12 h.1 ?_
  have h := h.2
  refine r_callSi (pc := 13) hC [aI a1, aI 0, aI ((w.1 0 60) - 1)] [] dX10_octet_13 ml_RX10_151 my_X10_in ms_X10_in rfl ⟨Nat.le_of_ble_eq_true rfl, Nat.le_of_ble_eq_true rfl⟩ ⟨Nat.le_of_ble_eq_true rfl, Nat.le_of_ble_eq_true rfl⟩ (Nat.le_of_ble_eq_true rfl) rfl (s_M_in l _ _ _ _ _ h) (fun r1 w1 hq => ?_)
  obtain ⟨e9, h⟩ := hq
  rw [e9]
  refine r_if_eq (pc := 16) (tgt := 32) hC dX10_octet_16 rfl (fun hc1 => ?_) (fun hc1 => ?_)
  · have h := h.1 hc1
    refine r_iconst (pc := 32) hC dX10_octet_32 (rng_lit rfl) ?_
    refine r_conv (w2 := (wI w 0 0 0)) rfl ?_
    exact r_reti (pc := 33) (kd := 0) hC hQ dX10_octet_33 hr hk (by decide) (Or.inl rfl) ⟨0, rfl, h⟩
  have h := h.2 hc1
  refine r_aload_n (pc := 19) hC 0 dX10_octet_19 rfl rfl ?_
  refine r_getr (r := 35) (pc := 20) hC dX10_octet_20 fl_RX10_127 lM_0 rfl ?_
  refine r_iload_n (pc := 23) hC 1 dX10_octet_23 rfl rfl ?_
  refine r_bald (v := ((w.1 35) (Int.toNat a1))) (pc := 24) hC dX10_octet_24 lM_35 h.1.1 h.1.2 rfl ?_
  have h := h.2
  refine r_sipush (pc := 25) hC dX10_octet_25 ⟨rfl, rng_lit rfl⟩ ?_
  refine r_iand (pc := 28) hC dX10_octet_28 ?_
  refine r_goto (tgt := 33) (pc := 29) hC dX10_octet_29 rfl ?_
  refine r_conv (w2 := (wI w 0 0 0)) rfl ?_
  exact r_reti (pc := 33) (kd := 0) hC hQ dX10_octet_33 hr hk (by decide) (Or.inl rfl) ⟨0, rfl, h⟩
def wp_M_marks (m_thrown : Int) (m_strongMarks : Int) (m_softMarks : Int) (a1 : Int) (Q : Int → Int → Prop) : Prop := (a1 = 0 → Q m_softMarks 0) ∧ (¬ a1 = 0 → Q m_strongMarks 0)
set_option maxHeartbeats 4000000 in
set_option maxRecDepth 20000 in
theorem s_M_marks (l : Launch) (w : St) (a1 : Int) (P : Int → Int → Prop) (h : wp_M_marks (w.1 0 0) (w.1 0 61) (w.1 0 62) a1 P) : Cn l yX10_marks cX10_marks 2 (some .int) 0 LM w [aR 0, aI a1] (okI (fun r w1 => ∃ (o0 : Int), w1 = (wI w 0 0 o0) ∧ P r o0)) := by
  unfold wp_M_marks at h
  refine Cn.of2 [some (aR 0), some (aI a1)] (by decide) (Nat.le_of_ble_eq_true rfl) rfl (fun p e s m args below meth c D cA ad A Q hQ hC hr hk => ?_)
  refine r_aload_n (pc := 0) hC 0 dX10_marks_0 rfl rfl ?_
  refine r_iconst (pc := 1) hC dX10_marks_1 (rng_lit rfl) ?_
  refine r_put (kd := 0) (pc := 2) hC dX10_marks_2 pl_RX10_142 lM_0 rfl (by decide) (Or.inl rfl) ?_
  refine r_iload_n (pc := 5) hC 1 dX10_marks_5 rfl rfl ?_
  refine r_if_eq (pc := 6) (tgt := 16) hC dX10_marks_6 rfl (fun hc1 => ?_) (fun hc1 => ?_)
  · have h := h.1 hc1
    refine r_aload_n (pc := 16) hC 0 dX10_marks_16 rfl rfl ?_
    refine r_get (kd := 0) (v := (w.1 0 62)) (pc := 17) hC dX10_marks_17 fl_RX10_446 lM_0 rfl rfl ?_
    refine r_conv (w2 := (wI w 0 0 0)) rfl ?_
    exact r_reti (pc := 20) (kd := 0) hC hQ dX10_marks_20 hr hk (by decide) (Or.inl rfl) ⟨0, rfl, h⟩
  have h := h.2 hc1
  refine r_aload_n (pc := 9) hC 0 dX10_marks_9 rfl rfl ?_
  refine r_get (kd := 0) (v := (w.1 0 61)) (pc := 10) hC dX10_marks_10 fl_RX10_441 lM_0 rfl rfl ?_
  refine r_goto (tgt := 20) (pc := 13) hC dX10_marks_13 rfl ?_
  refine r_conv (w2 := (wI w 0 0 0)) rfl ?_
  exact r_reti (pc := 20) (kd := 0) hC hQ dX10_marks_20 hr hk (by decide) (Or.inl rfl) ⟨0, rfl, h⟩
def wp_M_sign (m_signAt : (Nat → Int)) (m_thrown : Int) (m_signs : Int) (a1 : Int) (Q : Int → Int → Prop) : Prop := (rng (m_signs - 1)) ∧ (wp_M_in a1 0 (m_signs - 1) (fun (r1 : Int) => (r1 = 0 → Q (-1) 0) ∧ (¬ r1 = 0 → (0 ≤ a1 ∧ a1 < 601) ∧ (Q (m_signAt (Int.toNat a1)) 0))))
set_option maxHeartbeats 4000000 in
set_option maxRecDepth 20000 in
theorem s_M_sign (l : Launch) (w : St) (a1 : Int) (P : Int → Int → Prop) (h : wp_M_sign (w.1 4) (w.1 0 0) (w.1 0 7) a1 P) : Cn l yX10_sign cX10_sign 2 (some .int) 1 LM w [aR 0, aI a1] (okI (fun r w1 => ∃ (o0 : Int), w1 = (wI w 0 0 o0) ∧ P r o0)) := by
  unfold wp_M_sign at h
  refine Cn.of2 [some (aR 0), some (aI a1)] (by decide) (Nat.le_of_ble_eq_true rfl) rfl (fun p e s m args below meth c D cA ad A Q hQ hC hr hk => ?_)
  refine r_aload_n (pc := 0) hC 0 dX10_sign_0 rfl rfl ?_
  refine r_iconst (pc := 1) hC dX10_sign_1 (rng_lit rfl) ?_
  refine r_put (kd := 0) (pc := 2) hC dX10_sign_2 pl_RX10_142 lM_0 rfl (by decide) (Or.inl rfl) ?_
  refine r_iload_n (pc := 5) hC 1 dX10_sign_5 rfl rfl ?_
  refine r_iconst (pc := 6) hC dX10_sign_6 (rng_lit rfl) ?_
  refine r_aload_n (pc := 7) hC 0 dX10_sign_7 rfl rfl ?_
  refine r_get (kd := 0) (v := (w.1 0 7)) (pc := 8) hC dX10_sign_8 fl_RX10_155 lM_0 rfl rfl ?_
  refine r_iconst (pc := 11) hC dX10_sign_11 (rng_lit rfl) ?_
  refine r_isub (pc := 12) hC dX10_sign_12 h.1 ?_
  have h := h.2
  refine r_callSi (pc := 13) hC [aI a1, aI 0, aI ((w.1 0 7) - 1)] [] dX10_sign_13 ml_RX10_151 my_X10_in ms_X10_in rfl ⟨Nat.le_of_ble_eq_true rfl, Nat.le_of_ble_eq_true rfl⟩ ⟨Nat.le_of_ble_eq_true rfl, Nat.le_of_ble_eq_true rfl⟩ (Nat.le_of_ble_eq_true rfl) rfl (s_M_in l _ _ _ _ _ h) (fun r1 w1 hq => ?_)
  obtain ⟨e9, h⟩ := hq
  rw [e9]
  refine r_if_eq (pc := 16) (tgt := 28) hC dX10_sign_16 rfl (fun hc1 => ?_) (fun hc1 => ?_)
  · have h := h.1 hc1
    refine r_iconst (pc := 28) hC dX10_sign_28 (rng_lit rfl) ?_
    refine r_conv (w2 := (wI w 0 0 0)) rfl ?_
    exact r_reti (pc := 29) (kd := 0) hC hQ dX10_sign_29 hr hk (by decide) (Or.inl rfl) ⟨0, rfl, h⟩
  have h := h.2 hc1
  refine r_aload_n (pc := 19) hC 0 dX10_sign_19 rfl rfl ?_
  refine r_getr (r := 4) (pc := 20) hC dX10_sign_20 fl_RX10_20 lM_0 rfl ?_
  refine r_iload_n (pc := 23) hC 1 dX10_sign_23 rfl rfl ?_
  refine r_iald (v := ((w.1 4) (Int.toNat a1))) (pc := 24) hC dX10_sign_24 lM_4 h.1.1 h.1.2 rfl ?_
  have h := h.2
  refine r_goto (tgt := 29) (pc := 25) hC dX10_sign_25 rfl ?_
  refine r_conv (w2 := (wI w 0 0 0)) rfl ?_
  exact r_reti (pc := 29) (kd := 0) hC hQ dX10_sign_29 hr hk (by decide) (Or.inl rfl) ⟨0, rfl, h⟩
def wp_M_signOf (m_signAt : (Nat → Int)) (m_thrown : Int) (m_signs : Int) (a1 : Int) (Q : Int → Int → Prop) : Prop := lpw1 (fun (x1 : Int) (k1 : Int → Prop) => (m_signs ≤ x1 → Q (-1) 0) ∧ (¬ m_signs ≤ x1 → (0 ≤ x1 ∧ x1 < 601) ∧ (jn0 (fun (J2 : Prop) => (a1 < (m_signAt (Int.toNat x1)) → J2) ∧ (¬ a1 < (m_signAt (Int.toNat x1)) → (rng (x1 + 1)) ∧ ((0 ≤ (x1 + 1) ∧ (x1 + 1) < 601) ∧ (((m_signAt (Int.toNat (x1 + 1))) ≤ a1 → J2) ∧ (¬ (m_signAt (Int.toNat (x1 + 1))) ≤ a1 → Q x1 0))))) ((rng (x1 + 1)) ∧ (k1 (x1 + 1)))))) 0
set_option maxHeartbeats 4000000 in
set_option maxRecDepth 20000 in
theorem s_M_signOf (l : Launch) (w : St) (a1 : Int) (P : Int → Int → Prop) (h : wp_M_signOf (w.1 4) (w.1 0 0) (w.1 0 7) a1 P) : Cn l yX10_signOf cX10_signOf 3 (some .int) 0 LM w [aR 0, aI a1] (okI (fun r w1 => ∃ (o0 : Int), w1 = (wI w 0 0 o0) ∧ P r o0)) := by
  unfold wp_M_signOf at h
  refine Cn.of2 [some (aR 0), some (aI a1), none] (by decide) (Nat.le_of_ble_eq_true rfl) rfl (fun p e s m args below meth c D cA ad A Q hQ hC hr hk => ?_)
  refine r_aload_n (pc := 0) hC 0 dX10_signOf_0 rfl rfl ?_
  refine r_iconst (pc := 1) hC dX10_signOf_1 (rng_lit rfl) ?_
  refine r_put (kd := 0) (pc := 2) hC dX10_signOf_2 pl_RX10_142 lM_0 rfl (by decide) (Or.inl rfl) ?_
  refine r_iconst (pc := 5) hC dX10_signOf_5 (rng_lit rfl) ?_
  refine r_istore_n (ls2 := [some (aR 0), some (aI a1), some (aI 0)]) (pc := 6) hC 2 dX10_signOf_6 rfl (by decide) rfl rfl ?_
  obtain ⟨I1, μ1, hI1, hB1⟩ := h
  have S1 : ∀ (nn : Nat) (x1 : Int), μ1 x1 < nn → I1 x1 → Wd p l e (rmD 0) s m args below meth c Q 0 0 3 D cA ad A LM (wI w 0 0 0) 7 [some (aR 0), some (aI a1), some (aI x1)] [] := by
    intro nn
    induction nn with
    | zero => intro x1 hn; exact absurd hn (Nat.not_lt_zero _)
    | succ nn ih1 =>
      intro x1 hn1 hi
      have h := hB1 x1 hi
      refine r_iload_n (pc := 7) hC 2 dX10_signOf_7 rfl rfl ?_
      refine r_aload_n (pc := 8) hC 0 dX10_signOf_8 rfl rfl ?_
      refine r_get (kd := 0) (v := (w.1 0 7)) (pc := 9) hC dX10_signOf_9 fl_RX10_155 lM_0 rfl rfl ?_
      refine r_ic_ge (pc := 12) (tgt := 45) hC dX10_signOf_12 rfl (fun hc3 => ?_) (fun hc3 => ?_)
      · have h := h.1 hc3
        refine r_iconst (pc := 45) hC dX10_signOf_45 (rng_lit rfl) ?_
        refine r_conv (w2 := (wI w 0 0 0)) rfl ?_
        exact r_reti (pc := 46) (kd := 0) hC hQ dX10_signOf_46 hr hk (by decide) (Or.inl rfl) ⟨0, rfl, h⟩
      have h := h.2 hc3
      refine r_iload_n (pc := 15) hC 1 dX10_signOf_15 rfl rfl ?_
      refine r_aload_n (pc := 16) hC 0 dX10_signOf_16 rfl rfl ?_
      refine r_getr (r := 4) (pc := 17) hC dX10_signOf_17 fl_RX10_20 lM_0 rfl ?_
      refine r_iload_n (pc := 20) hC 2 dX10_signOf_20 rfl rfl ?_
      refine r_iald (v := ((w.1 4) (Int.toNat x1))) (pc := 21) hC dX10_signOf_21 lM_4 h.1.1 h.1.2 rfl ?_
      have h := h.2
      obtain ⟨J2, hJ2, h⟩ := h
      have S2 : J2 → Wd p l e (rmD 0) s m args below meth c Q 0 0 3 D cA ad A LM (wI w 0 0 0) 39 [some (aR 0), some (aI a1), some (aI x1)] [] := by
        intro hj
        have h := hJ2 hj
        refine r_iinc (ls2 := [some (aR 0), some (aI a1), some (aI (x1 + 1))]) (pc := 39) hC dX10_signOf_39 rfl (by decide) rfl h.1 rfl ?_
        have h := h.2
        refine r_goto (tgt := 7) (pc := 42) hC dX10_signOf_42 rfl ?_
        exact r_to [true, true, true] rfl rfl (ih1 (x1 + 1) (Nat.lt_of_lt_of_le h.2 (Nat.le_of_lt_succ hn1)) h.1)
      refine r_ic_lt (pc := 22) (tgt := 39) hC dX10_signOf_22 rfl (fun hc2 => ?_) (fun hc2 => ?_)
      · have h := h.1 hc2
        exact r_to [true, true, true] rfl rfl (S2 h)
      have h := h.2 hc2
      refine r_iload_n (pc := 25) hC 1 dX10_signOf_25 rfl rfl ?_
      refine r_aload_n (pc := 26) hC 0 dX10_signOf_26 rfl rfl ?_
      refine r_getr (r := 4) (pc := 27) hC dX10_signOf_27 fl_RX10_20 lM_0 rfl ?_
      refine r_iload_n (pc := 30) hC 2 dX10_signOf_30 rfl rfl ?_
      refine r_iconst (pc := 31) hC dX10_signOf_31 (rng_lit rfl) ?_
      refine r_iadd (pc := 32) hC dX10_signOf_32 h.1 ?_
      have h := h.2
      refine r_iald (v := ((w.1 4) (Int.toNat (x1 + 1)))) (pc := 33) hC dX10_signOf_33 lM_4 h.1.1 h.1.2 rfl ?_
      have h := h.2
      refine r_ic_ge (pc := 34) (tgt := 39) hC dX10_signOf_34 rfl (fun hc1 => ?_) (fun hc1 => ?_)
      · have h := h.1 hc1
        exact r_to [true, true, true] rfl rfl (S2 h)
      have h := h.2 hc1
      refine r_iload_n (pc := 37) hC 2 dX10_signOf_37 rfl rfl ?_
      refine r_conv (w2 := (wI w 0 0 0)) rfl ?_
      exact r_reti (pc := 38) (kd := 0) hC hQ dX10_signOf_38 hr hk (by decide) (Or.inl rfl) ⟨0, rfl, h⟩
  exact r_to [true, true, true] rfl rfl (S1 _ 0 (Nat.lt_succ_self _) hI1)
def wp_M_itemsWith (m_matchItem : (Nat → Int)) (m_matchFirst : (Nat → Int)) (m_matchLast : (Nat → Int)) (m_matches : Int) (a1 : Int) (Q : Int → Prop) : Prop := lpw2 (fun (x1 : Int) (x2 : Int) (k1 : Int → Int → Prop) => (m_matches ≤ x2 → Q x1) ∧ (¬ m_matches ≤ x2 → (0 ≤ x2 ∧ x2 < 800) ∧ ((0 ≤ x2 ∧ x2 < 800) ∧ (wp_M_in a1 (m_matchFirst (Int.toNat x2)) (m_matchLast (Int.toNat x2)) (fun (r3 : Int) => jn1 (fun (J2 : Int → Prop) => (r3 = 0 → J2 0) ∧ (¬ r3 = 0 → (0 ≤ x2 ∧ x2 < 800) ∧ (J2 (iShl 1 (m_matchItem (Int.toNat x2)))))) (fun (y4 : Int) => (rng (x2 + 1)) ∧ (k1 (iOr x1 y4) (x2 + 1)))))))) 0 0
set_option maxHeartbeats 4000000 in
set_option maxRecDepth 20000 in
theorem s_M_itemsWith (l : Launch) (w : St) (a1 : Int) (P : Int → Prop) (h : wp_M_itemsWith (w.1 24) (w.1 25) (w.1 26) (w.1 0 39) a1 P) : Cn l yX10_itemsWith cX10_itemsWith 4 (some .int) 1 LM w [aR 0, aI a1] (okI (fun r w1 => w1 = w ∧ P r)) := by
  unfold wp_M_itemsWith at h
  refine Cn.of2 [some (aR 0), some (aI a1), none, none] (by decide) (Nat.le_of_ble_eq_true rfl) rfl (fun p e s m args below meth c D cA ad A Q hQ hC hr hk => ?_)
  refine r_iconst (pc := 0) hC dX10_itemsWith_0 (rng_lit rfl) ?_
  refine r_istore_n (ls2 := [some (aR 0), some (aI a1), some (aI 0), none]) (pc := 1) hC 2 dX10_itemsWith_1 rfl (by decide) rfl rfl ?_
  refine r_iconst (pc := 2) hC dX10_itemsWith_2 (rng_lit rfl) ?_
  refine r_istore_n (ls2 := [some (aR 0), some (aI a1), some (aI 0), some (aI 0)]) (pc := 3) hC 3 dX10_itemsWith_3 rfl (by decide) rfl rfl ?_
  obtain ⟨I1, μ1, hI1, hB1⟩ := h
  have S1 : ∀ (nn : Nat) (x1 : Int) (x2 : Int), μ1 x1 x2 < nn → I1 x1 x2 → Wd p l e (rmD 1) s m args below meth c Q 0 0 4 D cA ad A LM w 4 [some (aR 0), some (aI a1), some (aI x1), some (aI x2)] [] := by
    intro nn
    induction nn with
    | zero => intro x1 x2 hn; exact absurd hn (Nat.not_lt_zero _)
    | succ nn ih1 =>
      intro x1 x2 hn1 hi
      have h := hB1 x1 x2 hi
      refine r_iload_n (pc := 4) hC 3 dX10_itemsWith_4 rfl rfl ?_
      refine r_aload_n (pc := 5) hC 0 dX10_itemsWith_5 rfl rfl ?_
      refine r_get (kd := 0) (v := (w.1 0 39)) (pc := 6) hC dX10_itemsWith_6 fl_RX10_277 lM_0 rfl rfl ?_
      refine r_ic_ge (pc := 9) (tgt := 52) hC dX10_itemsWith_9 rfl (fun hc2 => ?_) (fun hc2 => ?_)
      · have h := h.1 hc2
        refine r_iload_n (pc := 52) hC 2 dX10_itemsWith_52 rfl rfl ?_
        exact r_reti (pc := 53) (kd := 0) hC hQ dX10_itemsWith_53 hr hk (by decide) (Or.inl rfl) ⟨rfl, h⟩
      have h := h.2 hc2
      refine r_iload_n (pc := 12) hC 2 dX10_itemsWith_12 rfl rfl ?_
      refine r_iload_n (pc := 13) hC 1 dX10_itemsWith_13 rfl rfl ?_
      refine r_aload_n (pc := 14) hC 0 dX10_itemsWith_14 rfl rfl ?_
      refine r_getr (r := 25) (pc := 15) hC dX10_itemsWith_15 fl_RX10_88 lM_0 rfl ?_
      refine r_iload_n (pc := 18) hC 3 dX10_itemsWith_18 rfl rfl ?_
      refine r_iald (v := ((w.1 25) (Int.toNat x2))) (pc := 19) hC dX10_itemsWith_19 lM_25 h.1.1 h.1.2 rfl ?_
      have h := h.2
      refine r_aload_n (pc := 20) hC 0 dX10_itemsWith_20 rfl rfl ?_
      refine r_getr (r := 26) (pc := 21) hC dX10_itemsWith_21 fl_RX10_91 lM_0 rfl ?_
      refine r_iload_n (pc := 24) hC 3 dX10_itemsWith_24 rfl rfl ?_
      refine r_iald (v := ((w.1 26) (Int.toNat x2))) (pc := 25) hC dX10_itemsWith_25 lM_26 h.1.1 h.1.2 rfl ?_
      have h := h.2
      refine r_callSi (pc := 26) hC [aI a1, aI ((w.1 25) (Int.toNat x2)), aI ((w.1 26) (Int.toNat x2))] [aI x1] dX10_itemsWith_26 ml_RX10_151 my_X10_in ms_X10_in rfl ⟨Nat.le_of_ble_eq_true rfl, Nat.le_of_ble_eq_true rfl⟩ ⟨Nat.le_of_ble_eq_true rfl, Nat.le_of_ble_eq_true rfl⟩ (Nat.le_of_ble_eq_true rfl) rfl (s_M_in l _ _ _ _ _ h) (fun r3 w1 hq => ?_)
      obtain ⟨e9, h⟩ := hq
      rw [e9]
      obtain ⟨J2, hJ2, h⟩ := h
      have S2 : ∀ (y4 : Int), J2 y4 → Wd p l e (rmD 1) s m args below meth c Q 0 0 4 D cA ad A LM w 44 [some (aR 0), some (aI a1), none, some (aI x2)] [aI y4, aI x1] := by
        intro y4 hj
        have h := hJ2 y4 hj
        refine r_ior (pc := 44) hC dX10_itemsWith_44 ?_
        refine r_istore_n (ls2 := [some (aR 0), some (aI a1), some (aI (iOr x1 y4)), some (aI x2)]) (pc := 45) hC 2 dX10_itemsWith_45 rfl (by decide) rfl rfl ?_
        refine r_iinc (ls2 := [some (aR 0), some (aI a1), some (aI (iOr x1 y4)), some (aI (x2 + 1))]) (pc := 46) hC dX10_itemsWith_46 rfl (by decide) rfl h.1 rfl ?_
        have h := h.2
        refine r_goto (tgt := 4) (pc := 49) hC dX10_itemsWith_49 rfl ?_
        exact r_to [true, true, true, true] rfl rfl (ih1 (iOr x1 y4) (x2 + 1) (Nat.lt_of_lt_of_le h.2 (Nat.le_of_lt_succ hn1)) h.1)
      refine r_if_eq (pc := 29) (tgt := 43) hC dX10_itemsWith_29 rfl (fun hc1 => ?_) (fun hc1 => ?_)
      · have h := h.1 hc1
        refine r_iconst (pc := 43) hC dX10_itemsWith_43 (rng_lit rfl) ?_
        exact r_to [true, true, false, true] rfl rfl (S2 0 h)
      have h := h.2 hc1
      refine r_iconst (pc := 32) hC dX10_itemsWith_32 (rng_lit rfl) ?_
      refine r_aload_n (pc := 33) hC 0 dX10_itemsWith_33 rfl rfl ?_
      refine r_getr (r := 24) (pc := 34) hC dX10_itemsWith_34 fl_RX10_85 lM_0 rfl ?_
      refine r_iload_n (pc := 37) hC 3 dX10_itemsWith_37 rfl rfl ?_
      refine r_iald (v := ((w.1 24) (Int.toNat x2))) (pc := 38) hC dX10_itemsWith_38 lM_24 h.1.1 h.1.2 rfl ?_
      have h := h.2
      refine r_ishl (pc := 39) hC dX10_itemsWith_39 ?_
      refine r_goto (tgt := 44) (pc := 40) hC dX10_itemsWith_40 rfl ?_
      exact r_to [true, true, false, true] rfl rfl (S2 (iShl 1 ((w.1 24) (Int.toNat x2))) h)
  exact r_to [true, true, true, true] rfl rfl (S1 _ 0 0 (Nat.lt_succ_self _) hI1)
def wp_M_word (m_signAt : (Nat → Int)) (m_wordFrom : (Nat → Int)) (m_wordTo : (Nat → Int)) (m_sentenceOf : (Nat → Int)) (m_likeOf : (Nat → Int)) (m_matchItem : (Nat → Int)) (m_matchFirst : (Nat → Int)) (m_matchLast : (Nat → Int)) (m_thrown : Int) (m_words : Int) (m_matches : Int) (a1 : Int) (a2 : Int) (Q : Int → Int → Prop) : Prop := (rng (m_words - 1)) ∧ (wp_M_in a1 0 (m_words - 1) (fun (r1 : Int) => jn1 (fun (J1 : Int → Prop) => (¬ r1 = 0 → J1 0) ∧ (r1 = 0 → J1 1)) (fun (y2 : Int) => wp_M_throwsIf 0 y2 1 (fun (r3 : Int) (m_thrown_4 : Int) => (¬ r3 = 0 → Q 0 m_thrown_4) ∧ (r3 = 0 → wp_M_in a2 0 5 (fun (r5 : Int) => jn1 (fun (J2 : Int → Prop) => (¬ r5 = 0 → J2 0) ∧ (r5 = 0 → J2 1)) (fun (y6 : Int) => wp_M_throwsIf m_thrown_4 y6 2 (fun (r7 : Int) (m_thrown_8 : Int) => (r7 = 0 → (a2 = 0 → (0 ≤ a1 ∧ a1 < 100) ∧ ((0 ≤ (m_wordFrom (Int.toNat a1)) ∧ (m_wordFrom (Int.toNat a1)) < 601) ∧ (Q (m_signAt (Int.toNat (m_wordFrom (Int.toNat a1)))) m_thrown_8))) ∧ (¬ a2 = 0 → (a2 = 1 → (0 ≤ a1 ∧ a1 < 100) ∧ ((0 ≤ (m_wordTo (Int.toNat a1)) ∧ (m_wordTo (Int.toNat a1)) < 601) ∧ ((0 ≤ a1 ∧ a1 < 100) ∧ ((0 ≤ (m_wordFrom (Int.toNat a1)) ∧ (m_wordFrom (Int.toNat a1)) < 601) ∧ ((rng ((m_signAt (Int.toNat (m_wordTo (Int.toNat a1)))) - (m_signAt (Int.toNat (m_wordFrom (Int.toNat a1)))))) ∧ (Q ((m_signAt (Int.toNat (m_wordTo (Int.toNat a1)))) - (m_signAt (Int.toNat (m_wordFrom (Int.toNat a1))))) m_thrown_8)))))) ∧ (¬ a2 = 1 → (a2 = 2 → (0 ≤ a1 ∧ a1 < 100) ∧ ((0 ≤ a1 ∧ a1 < 100) ∧ ((rng ((m_wordTo (Int.toNat a1)) - (m_wordFrom (Int.toNat a1)))) ∧ (Q ((m_wordTo (Int.toNat a1)) - (m_wordFrom (Int.toNat a1))) m_thrown_8)))) ∧ (¬ a2 = 2 → (a2 = 3 → (0 ≤ a1 ∧ a1 < 100) ∧ (Q (m_sentenceOf (Int.toNat a1)) m_thrown_8)) ∧ (¬ a2 = 3 → (a2 = 4 → wp_M_itemsWith m_matchItem m_matchFirst m_matchLast m_matches a1 (fun (r9 : Int) => Q r9 m_thrown_8)) ∧ (¬ a2 = 4 → (0 ≤ a1 ∧ a1 < 100) ∧ (Q (m_likeOf (Int.toNat a1)) m_thrown_8))))))) ∧ (¬ r7 = 0 → Q 0 m_thrown_8)))))))))
set_option maxHeartbeats 4000000 in
set_option maxRecDepth 20000 in
theorem s_M_word (l : Launch) (w : St) (a1 : Int) (a2 : Int) (P : Int → Int → Prop) (h : wp_M_word (w.1 4) (w.1 5) (w.1 6) (w.1 7) (w.1 8) (w.1 24) (w.1 25) (w.1 26) (w.1 0 0) (w.1 0 12) (w.1 0 39) a1 a2 P) : Cn l yX10_word cX10_word 3 (some .int) 2 LM w [aR 0, aI a1, aI a2] (okI (fun r w1 => ∃ (o0 : Int), w1 = (wI w 0 0 o0) ∧ P r o0)) := by
  unfold wp_M_word at h
  refine Cn.of2 [some (aR 0), some (aI a1), some (aI a2)] (by decide) (Nat.le_of_ble_eq_true rfl) rfl (fun p e s m args below meth c D cA ad A Q hQ hC hr hk => ?_)
  refine r_aload_n (pc := 0) hC 0 dX10_word_0 rfl rfl ?_
  refine r_iconst (pc := 1) hC dX10_word_1 (rng_lit rfl) ?_
  refine r_put (kd := 0) (pc := 2) hC dX10_word_2 pl_RX10_142 lM_0 rfl (by decide) (Or.inl rfl) ?_
  refine r_aload_n (pc := 5) hC 0 dX10_word_5 rfl rfl ?_
  refine r_iload_n (pc := 6) hC 1 dX10_word_6 rfl rfl ?_
  refine r_iconst (pc := 7) hC dX10_word_7 (rng_lit rfl) ?_
  refine r_aload_n (pc := 8) hC 0 dX10_word_8 rfl rfl ?_
  refine r_get (kd := 0) (v := (w.1 0 12)) (pc := 9) hC dX10_word_9 fl_RX10_179 lM_0 rfl rfl ?_
  refine r_iconst (pc := 12) hC dX10_word_12 (rng_lit rfl) ?_
  refine r_isub (pc := 13) hC dX10_word_13 h.1 ?_
  have h := h.2
  refine r_callSi (pc := 14) hC [aI a1, aI 0, aI ((w.1 0 12) - 1)] [aR 0] dX10_word_14 ml_RX10_151 my_X10_in ms_X10_in rfl ⟨Nat.le_of_ble_eq_true rfl, Nat.le_of_ble_eq_true rfl⟩ ⟨Nat.le_of_ble_eq_true rfl, Nat.le_of_ble_eq_true rfl⟩ (Nat.le_of_ble_eq_true rfl) rfl (s_M_in l _ _ _ _ _ h) (fun r1 w1 hq => ?_)
  obtain ⟨e9, h⟩ := hq
  rw [e9]
  obtain ⟨J1, hJ1, h⟩ := h
  have S1 : ∀ (y2 : Int), J1 y2 → Wd p l e (rmD 2) s m args below meth c Q 0 0 3 D cA ad A LM (wI w 0 0 0) 25 [some (aR 0), some (aI a1), some (aI a2)] [aI y2, aR 0] := by
    intro y2 hj
    have h := hJ1 y2 hj
    refine r_iconst (pc := 25) hC dX10_word_25 (rng_lit rfl) ?_
    refine r_callVi (pc := 26) hC [aI y2, aI 1] [] dX10_word_26 ml_RX10_309 my_X10_throwsIf mi_X10_throwsIf lM_0 rfl rfl ⟨Nat.le_of_ble_eq_true rfl, Nat.le_of_ble_eq_true rfl⟩ ⟨Nat.le_of_ble_eq_true rfl, Nat.le_of_ble_eq_true rfl⟩ (Nat.le_of_ble_eq_true rfl) rfl (s_M_throwsIf l _ _ _ _ h) (fun r3 w1 hq => ?_)
    obtain ⟨m_thrown_4, e9, h⟩ := hq
    rw [e9]
    refine r_if_ne (pc := 29) (tgt := 54) hC dX10_word_29 rfl (fun hc8 => ?_) (fun hc8 => ?_)
    · have h := h.1 hc8
      refine r_iconst (pc := 54) hC dX10_word_54 (rng_lit rfl) ?_
      refine r_conv (w2 := (wI w 0 0 m_thrown_4)) rfl ?_
      exact r_reti (pc := 55) (kd := 0) hC hQ dX10_word_55 hr hk (by decide) (Or.inl rfl) ⟨m_thrown_4, rfl, h⟩
    have h := h.2 hc8
    refine r_aload_n (pc := 32) hC 0 dX10_word_32 rfl rfl ?_
    refine r_iload_n (pc := 33) hC 2 dX10_word_33 rfl rfl ?_
    refine r_iconst (pc := 34) hC dX10_word_34 (rng_lit rfl) ?_
    refine r_iconst (pc := 35) hC dX10_word_35 (rng_lit rfl) ?_
    refine r_callSi (pc := 36) hC [aI a2, aI 0, aI 5] [aR 0] dX10_word_36 ml_RX10_151 my_X10_in ms_X10_in rfl ⟨Nat.le_of_ble_eq_true rfl, Nat.le_of_ble_eq_true rfl⟩ ⟨Nat.le_of_ble_eq_true rfl, Nat.le_of_ble_eq_true rfl⟩ (Nat.le_of_ble_eq_true rfl) rfl (s_M_in l _ _ _ _ _ h) (fun r5 w1 hq => ?_)
    obtain ⟨e9, h⟩ := hq
    rw [e9]
    obtain ⟨J2, hJ2, h⟩ := h
    have S2 : ∀ (y6 : Int), J2 y6 → Wd p l e (rmD 2) s m args below meth c Q 0 0 3 D cA ad A LM (wI w 0 0 m_thrown_4) 47 [some (aR 0), some (aI a1), some (aI a2)] [aI y6, aR 0] := by
      intro y6 hj
      have h := hJ2 y6 hj
      refine r_iconst (pc := 47) hC dX10_word_47 (rng_lit rfl) ?_
      refine r_callVi (pc := 48) hC [aI y6, aI 2] [] dX10_word_48 ml_RX10_309 my_X10_throwsIf mi_X10_throwsIf lM_0 rfl rfl ⟨Nat.le_of_ble_eq_true rfl, Nat.le_of_ble_eq_true rfl⟩ ⟨Nat.le_of_ble_eq_true rfl, Nat.le_of_ble_eq_true rfl⟩ (Nat.le_of_ble_eq_true rfl) rfl (s_M_throwsIf l _ _ _ _ h) (fun r7 w1 hq => ?_)
      obtain ⟨m_thrown_8, e9, h⟩ := hq
      rw [e9]
      refine r_if_eq (pc := 51) (tgt := 56) hC dX10_word_51 rfl (fun hc6 => ?_) (fun hc6 => ?_)
      · have h := h.1 hc6
        refine r_iload_n (pc := 56) hC 2 dX10_word_56 rfl rfl ?_
        by_cases hc1 : a2 = 0
        · refine r_tblIn (pc := 57) (tgt := 92) hC dX10_word_57 (by rw [hc1]; decide) (by rw [hc1]; decide) (by rw [hc1]; rfl) rfl ?_
          have h := h.1 hc1
          refine r_aload_n (pc := 92) hC 0 dX10_word_92 rfl rfl ?_
          refine r_getr (r := 4) (pc := 93) hC dX10_word_93 fl_RX10_20 lM_0 rfl ?_
          refine r_aload_n (pc := 96) hC 0 dX10_word_96 rfl rfl ?_
          refine r_getr (r := 5) (pc := 97) hC dX10_word_97 fl_RX10_23 lM_0 rfl ?_
          refine r_iload_n (pc := 100) hC 1 dX10_word_100 rfl rfl ?_
          refine r_iald (v := ((w.1 5) (Int.toNat a1))) (pc := 101) hC dX10_word_101 lM_5 h.1.1 h.1.2 rfl ?_
          have h := h.2
          refine r_iald (v := ((w.1 4) (Int.toNat ((w.1 5) (Int.toNat a1))))) (pc := 102) hC dX10_word_102 lM_4 h.1.1 h.1.2 rfl ?_
          have h := h.2
          refine r_conv (w2 := (wI w 0 0 m_thrown_8)) rfl ?_
          exact r_reti (pc := 103) (kd := 0) hC hQ dX10_word_103 hr hk (by decide) (Or.inl rfl) ⟨m_thrown_8, rfl, h⟩
        have h := h.2 hc1
        by_cases hc2 : a2 = 1
        · refine r_tblIn (pc := 57) (tgt := 104) hC dX10_word_57 (by rw [hc2]; decide) (by rw [hc2]; decide) (by rw [hc2]; rfl) rfl ?_
          have h := h.1 hc2
          refine r_aload_n (pc := 104) hC 0 dX10_word_104 rfl rfl ?_
          refine r_getr (r := 4) (pc := 105) hC dX10_word_105 fl_RX10_20 lM_0 rfl ?_
          refine r_aload_n (pc := 108) hC 0 dX10_word_108 rfl rfl ?_
          refine r_getr (r := 6) (pc := 109) hC dX10_word_109 fl_RX10_26 lM_0 rfl ?_
          refine r_iload_n (pc := 112) hC 1 dX10_word_112 rfl rfl ?_
          refine r_iald (v := ((w.1 6) (Int.toNat a1))) (pc := 113) hC dX10_word_113 lM_6 h.1.1 h.1.2 rfl ?_
          have h := h.2
          refine r_iald (v := ((w.1 4) (Int.toNat ((w.1 6) (Int.toNat a1))))) (pc := 114) hC dX10_word_114 lM_4 h.1.1 h.1.2 rfl ?_
          have h := h.2
          refine r_aload_n (pc := 115) hC 0 dX10_word_115 rfl rfl ?_
          refine r_getr (r := 4) (pc := 116) hC dX10_word_116 fl_RX10_20 lM_0 rfl ?_
          refine r_aload_n (pc := 119) hC 0 dX10_word_119 rfl rfl ?_
          refine r_getr (r := 5) (pc := 120) hC dX10_word_120 fl_RX10_23 lM_0 rfl ?_
          refine r_iload_n (pc := 123) hC 1 dX10_word_123 rfl rfl ?_
          refine r_iald (v := ((w.1 5) (Int.toNat a1))) (pc := 124) hC dX10_word_124 lM_5 h.1.1 h.1.2 rfl ?_
          have h := h.2
          refine r_iald (v := ((w.1 4) (Int.toNat ((w.1 5) (Int.toNat a1))))) (pc := 125) hC dX10_word_125 lM_4 h.1.1 h.1.2 rfl ?_
          have h := h.2
          refine r_isub (pc := 126) hC dX10_word_126 h.1 ?_
          have h := h.2
          refine r_conv (w2 := (wI w 0 0 m_thrown_8)) rfl ?_
          exact r_reti (pc := 127) (kd := 0) hC hQ dX10_word_127 hr hk (by decide) (Or.inl rfl) ⟨m_thrown_8, rfl, h⟩
        have h := h.2 hc2
        by_cases hc3 : a2 = 2
        · refine r_tblIn (pc := 57) (tgt := 128) hC dX10_word_57 (by rw [hc3]; decide) (by rw [hc3]; decide) (by rw [hc3]; rfl) rfl ?_
          have h := h.1 hc3
          refine r_aload_n (pc := 128) hC 0 dX10_word_128 rfl rfl ?_
          refine r_getr (r := 6) (pc := 129) hC dX10_word_129 fl_RX10_26 lM_0 rfl ?_
          refine r_iload_n (pc := 132) hC 1 dX10_word_132 rfl rfl ?_
          refine r_iald (v := ((w.1 6) (Int.toNat a1))) (pc := 133) hC dX10_word_133 lM_6 h.1.1 h.1.2 rfl ?_
          have h := h.2
          refine r_aload_n (pc := 134) hC 0 dX10_word_134 rfl rfl ?_
          refine r_getr (r := 5) (pc := 135) hC dX10_word_135 fl_RX10_23 lM_0 rfl ?_
          refine r_iload_n (pc := 138) hC 1 dX10_word_138 rfl rfl ?_
          refine r_iald (v := ((w.1 5) (Int.toNat a1))) (pc := 139) hC dX10_word_139 lM_5 h.1.1 h.1.2 rfl ?_
          have h := h.2
          refine r_isub (pc := 140) hC dX10_word_140 h.1 ?_
          have h := h.2
          refine r_conv (w2 := (wI w 0 0 m_thrown_8)) rfl ?_
          exact r_reti (pc := 141) (kd := 0) hC hQ dX10_word_141 hr hk (by decide) (Or.inl rfl) ⟨m_thrown_8, rfl, h⟩
        have h := h.2 hc3
        by_cases hc4 : a2 = 3
        · refine r_tblIn (pc := 57) (tgt := 142) hC dX10_word_57 (by rw [hc4]; decide) (by rw [hc4]; decide) (by rw [hc4]; rfl) rfl ?_
          have h := h.1 hc4
          refine r_aload_n (pc := 142) hC 0 dX10_word_142 rfl rfl ?_
          refine r_getr (r := 7) (pc := 143) hC dX10_word_143 fl_RX10_29 lM_0 rfl ?_
          refine r_iload_n (pc := 146) hC 1 dX10_word_146 rfl rfl ?_
          refine r_iald (v := ((w.1 7) (Int.toNat a1))) (pc := 147) hC dX10_word_147 lM_7 h.1.1 h.1.2 rfl ?_
          have h := h.2
          refine r_conv (w2 := (wI w 0 0 m_thrown_8)) rfl ?_
          exact r_reti (pc := 148) (kd := 0) hC hQ dX10_word_148 hr hk (by decide) (Or.inl rfl) ⟨m_thrown_8, rfl, h⟩
        have h := h.2 hc4
        by_cases hc5 : a2 = 4
        · refine r_tblIn (pc := 57) (tgt := 149) hC dX10_word_57 (by rw [hc5]; decide) (by rw [hc5]; decide) (by rw [hc5]; rfl) rfl ?_
          have h := h.1 hc5
          refine r_aload_n (pc := 149) hC 0 dX10_word_149 rfl rfl ?_
          refine r_iload_n (pc := 150) hC 1 dX10_word_150 rfl rfl ?_
          refine r_callVi (pc := 151) hC [aI a1] [] dX10_word_151 ml_RX10_470 my_X10_itemsWith mi_X10_itemsWith lM_0 rfl rfl ⟨Nat.le_of_ble_eq_true rfl, Nat.le_of_ble_eq_true rfl⟩ ⟨Nat.le_of_ble_eq_true rfl, Nat.le_of_ble_eq_true rfl⟩ (Nat.le_of_ble_eq_true rfl) rfl (s_M_itemsWith l _ _ _ h) (fun r9 w1 hq => ?_)
          obtain ⟨e9, h⟩ := hq
          rw [e9]
          refine r_conv (w2 := (wI w 0 0 m_thrown_8)) rfl ?_
          exact r_reti (pc := 154) (kd := 0) hC hQ dX10_word_154 hr hk (by decide) (Or.inl rfl) ⟨m_thrown_8, rfl, h⟩
        have h := h.2 hc5
        refine r_tblOut (pc := 57) (tgt := 155) hC dX10_word_57 (tb_out_4 hc1 hc2 hc3 hc4 hc5) rfl ?_
        refine r_aload_n (pc := 155) hC 0 dX10_word_155 rfl rfl ?_
        refine r_getr (r := 8) (pc := 156) hC dX10_word_156 fl_RX10_32 lM_0 rfl ?_
        refine r_iload_n (pc := 159) hC 1 dX10_word_159 rfl rfl ?_
        refine r_iald (v := ((w.1 8) (Int.toNat a1))) (pc := 160) hC dX10_word_160 lM_8 h.1.1 h.1.2 rfl ?_
        have h := h.2
        refine r_conv (w2 := (wI w 0 0 m_thrown_8)) rfl ?_
        exact r_reti (pc := 161) (kd := 0) hC hQ dX10_word_161 hr hk (by decide) (Or.inl rfl) ⟨m_thrown_8, rfl, h⟩
      have h := h.2 hc6
      refine r_iconst (pc := 54) hC dX10_word_54 (rng_lit rfl) ?_
      refine r_conv (w2 := (wI w 0 0 m_thrown_8)) rfl ?_
      exact r_reti (pc := 55) (kd := 0) hC hQ dX10_word_55 hr hk (by decide) (Or.inl rfl) ⟨m_thrown_8, rfl, h⟩
    refine r_if_ne (pc := 39) (tgt := 46) hC dX10_word_39 rfl (fun hc7 => ?_) (fun hc7 => ?_)
    · have h := h.1 hc7
      refine r_iconst (pc := 46) hC dX10_word_46 (rng_lit rfl) ?_
      exact r_to [true, true, true] rfl rfl (S2 0 h)
    have h := h.2 hc7
    refine r_iconst (pc := 42) hC dX10_word_42 (rng_lit rfl) ?_
    refine r_goto (tgt := 47) (pc := 43) hC dX10_word_43 rfl ?_
    exact r_to [true, true, true] rfl rfl (S2 1 h)
  refine r_if_ne (pc := 17) (tgt := 24) hC dX10_word_17 rfl (fun hc9 => ?_) (fun hc9 => ?_)
  · have h := h.1 hc9
    refine r_iconst (pc := 24) hC dX10_word_24 (rng_lit rfl) ?_
    exact r_to [true, true, true] rfl rfl (S1 0 h)
  have h := h.2 hc9
  refine r_iconst (pc := 20) hC dX10_word_20 (rng_lit rfl) ?_
  refine r_goto (tgt := 25) (pc := 21) hC dX10_word_21 rfl ?_
  exact r_to [true, true, true] rfl rfl (S1 1 h)
def wp_M_unlikeIn (m_likeOf : (Nat → Int)) (m_hasWord : (Nat → Int)) (m_words : Int) (a1 : Int) (Q : Int → Prop) : Prop := lpw2 (fun (x1 : Int) (x2 : Int) (k1 : Int → Int → Prop) => (m_words ≤ x2 → Q x1) ∧ (¬ m_words ≤ x2 → (0 ≤ x2 ∧ x2 < 100) ∧ (jn1 (fun (J2 : Int → Prop) => jn0 (fun (J3 : Prop) => (¬ (m_likeOf (Int.toNat x2)) = x2 → J3) ∧ ((m_likeOf (Int.toNat x2)) = x2 → jn0 (fun (J4 : Prop) => (a1 = (-1) → J4) ∧ (¬ a1 = (-1) → wp_M_hasLike m_hasWord a1 x2 (fun (r4 : Int) => (r4 = 0 → J3) ∧ (¬ r4 = 0 → J4)))) (J2 1))) (J2 0)) (fun (y3 : Int) => (rng (x1 + y3)) ∧ ((rng (x2 + 1)) ∧ (k1 (x1 + y3) (x2 + 1))))))) 0 0
set_option maxHeartbeats 4000000 in
set_option maxRecDepth 20000 in
theorem s_M_unlikeIn (l : Launch) (w : St) (a1 : Int) (P : Int → Prop) (h : wp_M_unlikeIn (w.1 8) (w.1 11) (w.1 0 12) a1 P) : Cn l yX10_unlikeIn cX10_unlikeIn 4 (some .int) 1 LM w [aR 0, aI a1] (okI (fun r w1 => w1 = w ∧ P r)) := by
  unfold wp_M_unlikeIn at h
  refine Cn.of2 [some (aR 0), some (aI a1), none, none] (by decide) (Nat.le_of_ble_eq_true rfl) rfl (fun p e s m args below meth c D cA ad A Q hQ hC hr hk => ?_)
  refine r_iconst (pc := 0) hC dX10_unlikeIn_0 (rng_lit rfl) ?_
  refine r_istore_n (ls2 := [some (aR 0), some (aI a1), some (aI 0), none]) (pc := 1) hC 2 dX10_unlikeIn_1 rfl (by decide) rfl rfl ?_
  refine r_iconst (pc := 2) hC dX10_unlikeIn_2 (rng_lit rfl) ?_
  refine r_istore_n (ls2 := [some (aR 0), some (aI a1), some (aI 0), some (aI 0)]) (pc := 3) hC 3 dX10_unlikeIn_3 rfl (by decide) rfl rfl ?_
  obtain ⟨I1, μ1, hI1, hB1⟩ := h
  have S1 : ∀ (nn : Nat) (x1 : Int) (x2 : Int), μ1 x1 x2 < nn → I1 x1 x2 → Wd p l e (rmD 1) s m args below meth c Q 0 0 4 D cA ad A LM w 4 [some (aR 0), some (aI a1), some (aI x1), some (aI x2)] [] := by
    intro nn
    induction nn with
    | zero => intro x1 x2 hn; exact absurd hn (Nat.not_lt_zero _)
    | succ nn ih1 =>
      intro x1 x2 hn1 hi
      have h := hB1 x1 x2 hi
      refine r_iload_n (pc := 4) hC 3 dX10_unlikeIn_4 rfl rfl ?_
      refine r_aload_n (pc := 5) hC 0 dX10_unlikeIn_5 rfl rfl ?_
      refine r_get (kd := 0) (v := (w.1 0 12)) (pc := 6) hC dX10_unlikeIn_6 fl_RX10_179 lM_0 rfl rfl ?_
      refine r_ic_ge (pc := 9) (tgt := 50) hC dX10_unlikeIn_9 rfl (fun hc4 => ?_) (fun hc4 => ?_)
      · have h := h.1 hc4
        refine r_iload_n (pc := 50) hC 2 dX10_unlikeIn_50 rfl rfl ?_
        exact r_reti (pc := 51) (kd := 0) hC hQ dX10_unlikeIn_51 hr hk (by decide) (Or.inl rfl) ⟨rfl, h⟩
      have h := h.2 hc4
      refine r_iload_n (pc := 12) hC 2 dX10_unlikeIn_12 rfl rfl ?_
      refine r_aload_n (pc := 13) hC 0 dX10_unlikeIn_13 rfl rfl ?_
      refine r_getr (r := 8) (pc := 14) hC dX10_unlikeIn_14 fl_RX10_32 lM_0 rfl ?_
      refine r_iload_n (pc := 17) hC 3 dX10_unlikeIn_17 rfl rfl ?_
      refine r_iald (v := ((w.1 8) (Int.toNat x2))) (pc := 18) hC dX10_unlikeIn_18 lM_8 h.1.1 h.1.2 rfl ?_
      have h := h.2
      refine r_iload_n (pc := 19) hC 3 dX10_unlikeIn_19 rfl rfl ?_
      obtain ⟨J2, hJ2, h⟩ := h
      have S2 : ∀ (y3 : Int), J2 y3 → Wd p l e (rmD 1) s m args below meth c Q 0 0 4 D cA ad A LM w 42 [some (aR 0), some (aI a1), none, some (aI x2)] [aI y3, aI x1] := by
        intro y3 hj
        have h := hJ2 y3 hj
        refine r_iadd (pc := 42) hC dX10_unlikeIn_42 h.1 ?_
        have h := h.2
        refine r_istore_n (ls2 := [some (aR 0), some (aI a1), some (aI (x1 + y3)), some (aI x2)]) (pc := 43) hC 2 dX10_unlikeIn_43 rfl (by decide) rfl rfl ?_
        refine r_iinc (ls2 := [some (aR 0), some (aI a1), some (aI (x1 + y3)), some (aI (x2 + 1))]) (pc := 44) hC dX10_unlikeIn_44 rfl (by decide) rfl h.1 rfl ?_
        have h := h.2
        refine r_goto (tgt := 4) (pc := 47) hC dX10_unlikeIn_47 rfl ?_
        exact r_to [true, true, true, true] rfl rfl (ih1 (x1 + y3) (x2 + 1) (Nat.lt_of_lt_of_le h.2 (Nat.le_of_lt_succ hn1)) h.1)
      obtain ⟨J3, hJ3, h⟩ := h
      have S3 : J3 → Wd p l e (rmD 1) s m args below meth c Q 0 0 4 D cA ad A LM w 41 [some (aR 0), some (aI a1), none, some (aI x2)] [aI x1] := by
        intro hj
        have h := hJ3 hj
        refine r_iconst (pc := 41) hC dX10_unlikeIn_41 (rng_lit rfl) ?_
        exact r_to [true, true, false, true] rfl rfl (S2 0 h)
      refine r_ic_ne (pc := 20) (tgt := 41) hC dX10_unlikeIn_20 rfl (fun hc3 => ?_) (fun hc3 => ?_)
      · have h := h.1 hc3
        exact r_to [true, true, false, true] rfl rfl (S3 h)
      have h := h.2 hc3
      refine r_iload_n (pc := 23) hC 1 dX10_unlikeIn_23 rfl rfl ?_
      refine r_iconst (pc := 24) hC dX10_unlikeIn_24 (rng_lit rfl) ?_
      obtain ⟨J4, hJ4, h⟩ := h
      have S4 : J4 → Wd p l e (rmD 1) s m args below meth c Q 0 0 4 D cA ad A LM w 37 [some (aR 0), some (aI a1), none, some (aI x2)] [aI x1] := by
        intro hj
        have h := hJ4 hj
        refine r_iconst (pc := 37) hC dX10_unlikeIn_37 (rng_lit rfl) ?_
        refine r_goto (tgt := 42) (pc := 38) hC dX10_unlikeIn_38 rfl ?_
        exact r_to [true, true, false, true] rfl rfl (S2 1 h)
      refine r_ic_eq (pc := 25) (tgt := 37) hC dX10_unlikeIn_25 rfl (fun hc2 => ?_) (fun hc2 => ?_)
      · have h := h.1 hc2
        exact r_to [true, true, false, true] rfl rfl (S4 h)
      have h := h.2 hc2
      refine r_aload_n (pc := 28) hC 0 dX10_unlikeIn_28 rfl rfl ?_
      refine r_iload_n (pc := 29) hC 1 dX10_unlikeIn_29 rfl rfl ?_
      refine r_iload_n (pc := 30) hC 3 dX10_unlikeIn_30 rfl rfl ?_
      refine r_callVi (pc := 31) hC [aI a1, aI x2] [aI x1] dX10_unlikeIn_31 ml_RX10_346 my_X10_hasLike mi_X10_hasLike lM_0 rfl rfl ⟨Nat.le_of_ble_eq_true rfl, Nat.le_of_ble_eq_true rfl⟩ ⟨Nat.le_of_ble_eq_true rfl, Nat.le_of_ble_eq_true rfl⟩ (Nat.le_of_ble_eq_true rfl) rfl (s_M_hasLike l _ _ _ _ h) (fun r4 w1 hq => ?_)
      obtain ⟨e9, h⟩ := hq
      rw [e9]
      refine r_if_eq (pc := 34) (tgt := 41) hC dX10_unlikeIn_34 rfl (fun hc1 => ?_) (fun hc1 => ?_)
      · have h := h.1 hc1
        exact r_to [true, true, false, true] rfl rfl (S3 h)
      have h := h.2 hc1
      exact r_to [true, true, false, true] rfl rfl (S4 h)
  exact r_to [true, true, true, true] rfl rfl (S1 _ 0 0 (Nat.lt_succ_self _) hI1)
