def wp_M_trades (m_sentenceOf : (Nat → Int)) (m_likeOf : (Nat → Int)) (m_from : (Nat → Int)) (m_to : (Nat → Int)) (m_hasWord : (Nat → Int)) (m_weight : (Nat → Int)) (m_matchItem : (Nat → Int)) (m_matchFirst : (Nat → Int)) (m_worth : (Nat → Int)) (m_length : (Nat → Int)) (m_inSentence : (Nat → Int)) (m_tooLike : (Nat → Int)) (m_words : Int) (m_sentences : Int) (m_items : Int) (m_matches : Int) (m_areLaid : Int) (m_areLikeLaid : Int) (m_budget : Int) (m_mostOf : Int) (m_limit : Int) (m_chosen : Int) (m_tradeOut : Int) (m_tradeIn : Int) (Q : Int → (Nat → Int) → (Nat → Int) → (Nat → Int) → (Nat → Int) → Int → Int → Int → Int → Prop) : Prop := wp_M_laysLike m_sentenceOf m_likeOf m_from m_to m_hasWord m_weight m_matchItem m_matchFirst m_worth m_length m_inSentence m_tooLike m_words m_sentences m_items m_matches m_areLaid m_areLikeLaid m_limit (fun (m_worth_1 : (Nat → Int)) (m_length_2 : (Nat → Int)) (m_inSentence_3 : (Nat → Int)) (m_tooLike_4 : (Nat → Int)) (m_areLaid_5 : Int) (m_areLikeLaid_6 : Int) => lpw4 (fun (m_tradeOut_7 : Int) (m_tradeIn_8 : Int) (x9 : Int) (x10 : Int) (k1 : Int → Int → Int → Int → Prop) => (m_sentences ≤ x10 → Q x9 m_worth_1 m_length_2 m_inSentence_3 m_tooLike_4 m_areLaid_5 m_areLikeLaid_6 m_tradeOut_7 m_tradeIn_8) ∧ (¬ m_sentences ≤ x10 → lpw4 (fun (m_tradeOut_11 : Int) (m_tradeIn_12 : Int) (x13 : Int) (x14 : Int) (k2 : Int → Int → Int → Int → Prop) => (m_sentences ≤ x14 → (rng (x10 + 1)) ∧ (k1 m_tradeOut_11 m_tradeIn_12 x13 (x10 + 1))) ∧ (¬ m_sentences ≤ x14 → wp_M_holds m_chosen x10 (fun (r15 : Int) => jn3 (fun (J3 : Int → Int → Int → Prop) => (r15 = 0 → J3 m_tradeOut_11 m_tradeIn_12 x13) ∧ (¬ r15 = 0 → wp_M_holds m_chosen x14 (fun (r19 : Int) => (r19 = 0 → (0 ≤ (iOr (iAnd m_chosen (iXor (iShl 1 x10) (-1))) (iShl 1 x14)) ∧ (iOr (iAnd m_chosen (iXor (iShl 1 x10) (-1))) (iShl 1 x14)) < 16384) ∧ ((0 ≤ m_chosen ∧ m_chosen < 16384) ∧ ((rng ((m_worth_1 (Int.toNat (iOr (iAnd m_chosen (iXor (iShl 1 x10) (-1))) (iShl 1 x14)))) - (m_worth_1 (Int.toNat m_chosen)))) ∧ ((((m_worth_1 (Int.toNat (iOr (iAnd m_chosen (iXor (iShl 1 x10) (-1))) (iShl 1 x14)))) - (m_worth_1 (Int.toNat m_chosen))) ≤ x13 → J3 m_tradeOut_11 m_tradeIn_12 x13) ∧ (¬ ((m_worth_1 (Int.toNat (iOr (iAnd m_chosen (iXor (iShl 1 x10) (-1))) (iShl 1 x14)))) - (m_worth_1 (Int.toNat m_chosen))) ≤ x13 → wp_M_may m_length_2 m_tooLike_4 m_sentences m_budget m_mostOf (iOr (iAnd m_chosen (iXor (iShl 1 x10) (-1))) (iShl 1 x14)) (fun (r20 : Int) => (¬ r20 = 0 → (0 ≤ (iOr (iAnd m_chosen (iXor (iShl 1 x10) (-1))) (iShl 1 x14)) ∧ (iOr (iAnd m_chosen (iXor (iShl 1 x10) (-1))) (iShl 1 x14)) < 16384) ∧ ((0 ≤ m_chosen ∧ m_chosen < 16384) ∧ ((rng ((m_worth_1 (Int.toNat (iOr (iAnd m_chosen (iXor (iShl 1 x10) (-1))) (iShl 1 x14)))) - (m_worth_1 (Int.toNat m_chosen)))) ∧ (J3 x10 x14 ((m_worth_1 (Int.toNat (iOr (iAnd m_chosen (iXor (iShl 1 x10) (-1))) (iShl 1 x14)))) - (m_worth_1 (Int.toNat m_chosen))))))) ∧ (r20 = 0 → J3 m_tradeOut_11 m_tradeIn_12 x13))))))) ∧ (¬ r19 = 0 → J3 m_tradeOut_11 m_tradeIn_12 x13)))) (fun (m_tradeOut_16 : Int) (m_tradeIn_17 : Int) (x18 : Int) => (rng (x14 + 1)) ∧ (k2 m_tradeOut_16 m_tradeIn_17 x18 (x14 + 1)))))) m_tradeOut_7 m_tradeIn_8 x9 0)) (-1) (-1) 0 0)
set_option maxHeartbeats 4000000 in
set_option maxRecDepth 20000 in
theorem s_M_trades (l : Launch) (w : St) (P : Int → (Nat → Int) → (Nat → Int) → (Nat → Int) → (Nat → Int) → Int → Int → Int → Int → Prop) (h : wp_M_trades (w.1 7) (w.1 8) (w.1 9) (w.1 10) (w.1 11) (w.1 12) (w.1 24) (w.1 25) (w.1 28) (w.1 29) (w.1 31) (w.1 33) (w.1 0 12) (w.1 0 16) (w.1 0 29) (w.1 0 39) (w.1 0 42) (w.1 0 43) (w.1 0 50) (w.1 0 51) (w.1 0 52) (w.1 0 53) (w.1 0 57) (w.1 0 58) P) : Cn l yX10_trades cX10_trades 5 (some .int) 4 LM w [aR 0] (okI (fun r w1 => ∃ (o0 : (Nat → Int)) (o1 : (Nat → Int)) (o2 : (Nat → Int)) (o3 : (Nat → Int)) (o4 : Int) (o5 : Int) (o6 : Int) (o7 : Int), w1 = (wI (wI (wI (wI (wA (wA (wA (wA w 28 o0) 29 o1) 31 o2) 33 o3) 0 42 o4) 0 43 o5) 0 57 o6) 0 58 o7) ∧ P r o0 o1 o2 o3 o4 o5 o6 o7)) := by
  unfold wp_M_trades at h
  refine Cn.of2 [some (aR 0), none, none, none, none] (by decide) (Nat.le_of_ble_eq_true rfl) rfl (fun p e s m args below meth c D cA ad A Q hQ hC hr hk => ?_)
  refine r_aload_n (pc := 0) hC 0 dX10_trades_0 rfl rfl ?_
  refine r_callVv (pc := 1) hC [] [] dX10_trades_1 ml_RX10_364 my_X10_laysLike mi_X10_laysLike lM_0 rfl rfl ⟨Nat.le_of_ble_eq_true rfl, Nat.le_of_ble_eq_true rfl⟩ ⟨Nat.le_of_ble_eq_true rfl, Nat.le_of_ble_eq_true rfl⟩ (Nat.le_of_ble_eq_true rfl) rfl (s_M_laysLike l _ _ h) (fun w1 hq => ?_)
  obtain ⟨m_worth_1, m_length_2, m_inSentence_3, m_tooLike_4, m_areLaid_5, m_areLikeLaid_6, e9, h⟩ := hq
  rw [e9]
  refine r_aload_n (pc := 4) hC 0 dX10_trades_4 rfl rfl ?_
  refine r_iconst (pc := 5) hC dX10_trades_5 (rng_lit rfl) ?_
  refine r_put (kd := 0) (pc := 6) hC dX10_trades_6 pl_RX10_386 lM_0 rfl (by decide) (Or.inl rfl) ?_
  refine r_aload_n (pc := 9) hC 0 dX10_trades_9 rfl rfl ?_
  refine r_iconst (pc := 10) hC dX10_trades_10 (rng_lit rfl) ?_
  refine r_put (kd := 0) (pc := 11) hC dX10_trades_11 pl_RX10_389 lM_0 rfl (by decide) (Or.inl rfl) ?_
  refine r_iconst (pc := 14) hC dX10_trades_14 (rng_lit rfl) ?_
  refine r_istore_n (ls2 := [some (aR 0), some (aI 0), none, none, none]) (pc := 15) hC 1 dX10_trades_15 rfl (by decide) rfl rfl ?_
  refine r_iconst (pc := 16) hC dX10_trades_16 (rng_lit rfl) ?_
  refine r_istore_n (ls2 := [some (aR 0), some (aI 0), some (aI 0), none, none]) (pc := 17) hC 2 dX10_trades_17 rfl (by decide) rfl rfl ?_
  obtain ⟨I1, μ1, hI1, hB1⟩ := h
  have S1 : ∀ (nn : Nat) (m_tradeOut_7 : Int) (m_tradeIn_8 : Int) (x9 : Int) (x10 : Int), μ1 m_tradeOut_7 m_tradeIn_8 x9 x10 < nn → I1 m_tradeOut_7 m_tradeIn_8 x9 x10 → Wd p l e (rmD 4) s m args below meth c Q 0 0 5 D cA ad A LM (wI (wI (wI (wI (wA (wA (wA (wA w 28 m_worth_1) 29 m_length_2) 31 m_inSentence_3) 33 m_tooLike_4) 0 42 m_areLaid_5) 0 43 m_areLikeLaid_6) 0 57 m_tradeOut_7) 0 58 m_tradeIn_8) 18 [some (aR 0), some (aI x9), some (aI x10), none, none] [] := by
    intro nn
    induction nn with
    | zero => intro m_tradeOut_7 m_tradeIn_8 x9 x10 hn; exact absurd hn (Nat.not_lt_zero _)
    | succ nn ih1 =>
      intro m_tradeOut_7 m_tradeIn_8 x9 x10 hn1 hi
      have h := hB1 m_tradeOut_7 m_tradeIn_8 x9 x10 hi
      refine r_iload_n (pc := 18) hC 2 dX10_trades_18 rfl rfl ?_
      refine r_aload_n (pc := 19) hC 0 dX10_trades_19 rfl rfl ?_
      refine r_get (kd := 0) (v := (w.1 0 16)) (pc := 20) hC dX10_trades_20 fl_RX10_203 lM_0 rfl rfl ?_
      refine r_ic_ge (pc := 23) (tgt := 150) hC dX10_trades_23 rfl (fun hc6 => ?_) (fun hc6 => ?_)
      · have h := h.1 hc6
        refine r_iload_n (pc := 150) hC 1 dX10_trades_150 rfl rfl ?_
        refine r_conv (w2 := (wI (wI (wI (wI (wA (wA (wA (wA w 28 m_worth_1) 29 m_length_2) 31 m_inSentence_3) 33 m_tooLike_4) 0 42 m_areLaid_5) 0 43 m_areLikeLaid_6) 0 57 m_tradeOut_7) 0 58 m_tradeIn_8)) rfl ?_
        exact r_reti (pc := 151) (kd := 0) hC hQ dX10_trades_151 hr hk (by decide) (Or.inl rfl) ⟨m_worth_1, m_length_2, m_inSentence_3, m_tooLike_4, m_areLaid_5, m_areLikeLaid_6, m_tradeOut_7, m_tradeIn_8, rfl, h⟩
      have h := h.2 hc6
      refine r_iconst (pc := 26) hC dX10_trades_26 (rng_lit rfl) ?_
      refine r_istore_n (ls2 := [some (aR 0), some (aI x9), some (aI x10), some (aI 0), none]) (pc := 27) hC 3 dX10_trades_27 rfl (by decide) rfl rfl ?_
      obtain ⟨I2, μ2, hI2, hB2⟩ := h
      have S2 : ∀ (nn : Nat) (m_tradeOut_11 : Int) (m_tradeIn_12 : Int) (x13 : Int) (x14 : Int), μ2 m_tradeOut_11 m_tradeIn_12 x13 x14 < nn → I2 m_tradeOut_11 m_tradeIn_12 x13 x14 → Wd p l e (rmD 4) s m args below meth c Q 0 0 5 D cA ad A LM (wI (wI (wI (wI (wA (wA (wA (wA w 28 m_worth_1) 29 m_length_2) 31 m_inSentence_3) 33 m_tooLike_4) 0 42 m_areLaid_5) 0 43 m_areLikeLaid_6) 0 57 m_tradeOut_11) 0 58 m_tradeIn_12) 28 [some (aR 0), some (aI x13), some (aI x10), some (aI x14), none] [] := by
        intro nn
        induction nn with
        | zero => intro m_tradeOut_11 m_tradeIn_12 x13 x14 hn; exact absurd hn (Nat.not_lt_zero _)
        | succ nn ih2 =>
          intro m_tradeOut_11 m_tradeIn_12 x13 x14 hn2 hi
          have h := hB2 m_tradeOut_11 m_tradeIn_12 x13 x14 hi
          refine r_iload_n (pc := 28) hC 3 dX10_trades_28 rfl rfl ?_
          refine r_aload_n (pc := 29) hC 0 dX10_trades_29 rfl rfl ?_
          refine r_get (kd := 0) (v := (w.1 0 16)) (pc := 30) hC dX10_trades_30 fl_RX10_203 lM_0 rfl rfl ?_
          refine r_ic_ge (pc := 33) (tgt := 144) hC dX10_trades_33 rfl (fun hc5 => ?_) (fun hc5 => ?_)
          · have h := h.1 hc5
            refine r_iinc (ls2 := [some (aR 0), some (aI x13), some (aI (x10 + 1)), some (aI x14), none]) (pc := 144) hC dX10_trades_144 rfl (by decide) rfl h.1 rfl ?_
            have h := h.2
            refine r_goto (tgt := 18) (pc := 147) hC dX10_trades_147 rfl ?_
            exact r_to [true, true, true, false, false] rfl rfl (ih1 m_tradeOut_11 m_tradeIn_12 x13 (x10 + 1) (Nat.lt_of_lt_of_le h.2 (Nat.le_of_lt_succ hn1)) h.1)
          have h := h.2 hc5
          refine r_aload_n (pc := 36) hC 0 dX10_trades_36 rfl rfl ?_
          refine r_get (kd := 0) (v := (w.1 0 53)) (pc := 37) hC dX10_trades_37 fl_RX10_221 lM_0 rfl rfl ?_
          refine r_iload_n (pc := 40) hC 2 dX10_trades_40 rfl rfl ?_
          refine r_callSi (pc := 41) hC [aI (w.1 0 53), aI x10] [] dX10_trades_41 ml_RX10_294 my_X10_holds ms_X10_holds rfl ⟨Nat.le_of_ble_eq_true rfl, Nat.le_of_ble_eq_true rfl⟩ ⟨Nat.le_of_ble_eq_true rfl, Nat.le_of_ble_eq_true rfl⟩ (Nat.le_of_ble_eq_true rfl) rfl (s_M_holds l _ _ _ _ h) (fun r15 w1 hq => ?_)
          obtain ⟨e9, h⟩ := hq
          rw [e9]
          obtain ⟨J3, hJ3, h⟩ := h
          have S3 : ∀ (m_tradeOut_16 : Int) (m_tradeIn_17 : Int) (x18 : Int), J3 m_tradeOut_16 m_tradeIn_17 x18 → Wd p l e (rmD 4) s m args below meth c Q 0 0 5 D cA ad A LM (wI (wI (wI (wI (wA (wA (wA (wA w 28 m_worth_1) 29 m_length_2) 31 m_inSentence_3) 33 m_tooLike_4) 0 42 m_areLaid_5) 0 43 m_areLikeLaid_6) 0 57 m_tradeOut_16) 0 58 m_tradeIn_17) 138 [some (aR 0), some (aI x18), some (aI x10), some (aI x14), none] [] := by
            intro m_tradeOut_16 m_tradeIn_17 x18 hj
            have h := hJ3 m_tradeOut_16 m_tradeIn_17 x18 hj
            refine r_iinc (ls2 := [some (aR 0), some (aI x18), some (aI x10), some (aI (x14 + 1)), none]) (pc := 138) hC dX10_trades_138 rfl (by decide) rfl h.1 rfl ?_
            have h := h.2
            refine r_goto (tgt := 28) (pc := 141) hC dX10_trades_141 rfl ?_
            exact r_to [true, true, true, true, false] rfl rfl (ih2 m_tradeOut_16 m_tradeIn_17 x18 (x14 + 1) (Nat.lt_of_lt_of_le h.2 (Nat.le_of_lt_succ hn2)) h.1)
          refine r_if_eq (pc := 44) (tgt := 138) hC dX10_trades_44 rfl (fun hc4 => ?_) (fun hc4 => ?_)
          · have h := h.1 hc4
            exact r_to [true, true, true, true, false] rfl rfl (S3 m_tradeOut_11 m_tradeIn_12 x13 h)
          have h := h.2 hc4
          refine r_aload_n (pc := 47) hC 0 dX10_trades_47 rfl rfl ?_
          refine r_get (kd := 0) (v := (w.1 0 53)) (pc := 48) hC dX10_trades_48 fl_RX10_221 lM_0 rfl rfl ?_
          refine r_iload_n (pc := 51) hC 3 dX10_trades_51 rfl rfl ?_
          refine r_callSi (pc := 52) hC [aI (w.1 0 53), aI x14] [] dX10_trades_52 ml_RX10_294 my_X10_holds ms_X10_holds rfl ⟨Nat.le_of_ble_eq_true rfl, Nat.le_of_ble_eq_true rfl⟩ ⟨Nat.le_of_ble_eq_true rfl, Nat.le_of_ble_eq_true rfl⟩ (Nat.le_of_ble_eq_true rfl) rfl (s_M_holds l _ _ _ _ h) (fun r19 w1 hq => ?_)
          obtain ⟨e9, h⟩ := hq
          rw [e9]
          refine r_if_eq (pc := 55) (tgt := 61) hC dX10_trades_55 rfl (fun hc3 => ?_) (fun hc3 => ?_)
          · have h := h.1 hc3
            refine r_aload_n (pc := 61) hC 0 dX10_trades_61 rfl rfl ?_
            refine r_get (kd := 0) (v := (w.1 0 53)) (pc := 62) hC dX10_trades_62 fl_RX10_221 lM_0 rfl rfl ?_
            refine r_iconst (pc := 65) hC dX10_trades_65 (rng_lit rfl) ?_
            refine r_iload_n (pc := 66) hC 2 dX10_trades_66 rfl rfl ?_
            refine r_ishl (pc := 67) hC dX10_trades_67 ?_
            refine r_iconst (pc := 68) hC dX10_trades_68 (rng_lit rfl) ?_
            refine r_ixor (pc := 69) hC dX10_trades_69 ?_
            refine r_iand (pc := 70) hC dX10_trades_70 ?_
            refine r_iconst (pc := 71) hC dX10_trades_71 (rng_lit rfl) ?_
            refine r_iload_n (pc := 72) hC 3 dX10_trades_72 rfl rfl ?_
            refine r_ishl (pc := 73) hC dX10_trades_73 ?_
            refine r_ior (pc := 74) hC dX10_trades_74 ?_
            refine r_istore (ls2 := [some (aR 0), some (aI x13), some (aI x10), some (aI x14), some (aI (iOr (iAnd (w.1 0 53) (iXor (iShl 1 x10) (-1))) (iShl 1 x14)))]) (pc := 75) hC dX10_trades_75 (by decide) rfl rfl ?_
            refine r_aload_n (pc := 77) hC 0 dX10_trades_77 rfl rfl ?_
            refine r_getr (r := 28) (pc := 78) hC dX10_trades_78 fl_RX10_97 lM_0 rfl ?_
            refine r_iload (pc := 81) hC dX10_trades_81 rfl ?_
            refine r_iald (v := (m_worth_1 (Int.toNat (iOr (iAnd (w.1 0 53) (iXor (iShl 1 x10) (-1))) (iShl 1 x14))))) (pc := 83) hC dX10_trades_83 lM_28 h.1.1 h.1.2 rfl ?_
            have h := h.2
            refine r_aload_n (pc := 84) hC 0 dX10_trades_84 rfl rfl ?_
            refine r_getr (r := 28) (pc := 85) hC dX10_trades_85 fl_RX10_97 lM_0 rfl ?_
            refine r_aload_n (pc := 88) hC 0 dX10_trades_88 rfl rfl ?_
            refine r_get (kd := 0) (v := (w.1 0 53)) (pc := 89) hC dX10_trades_89 fl_RX10_221 lM_0 rfl rfl ?_
            refine r_iald (v := (m_worth_1 (Int.toNat (w.1 0 53)))) (pc := 92) hC dX10_trades_92 lM_28 h.1.1 h.1.2 rfl ?_
            have h := h.2
            refine r_isub (pc := 93) hC dX10_trades_93 h.1 ?_
            have h := h.2
            refine r_iload_n (pc := 94) hC 1 dX10_trades_94 rfl rfl ?_
            refine r_ic_le (pc := 95) (tgt := 138) hC dX10_trades_95 rfl (fun hc2 => ?_) (fun hc2 => ?_)
            · have h := h.1 hc2
              exact r_to [true, true, true, true, false] rfl rfl (S3 m_tradeOut_11 m_tradeIn_12 x13 h)
            have h := h.2 hc2
            refine r_aload_n (pc := 98) hC 0 dX10_trades_98 rfl rfl ?_
            refine r_iload (pc := 99) hC dX10_trades_99 rfl ?_
            refine r_callVi (pc := 101) hC [aI (iOr (iAnd (w.1 0 53) (iXor (iShl 1 x10) (-1))) (iShl 1 x14))] [] dX10_trades_101 ml_RX10_361 my_X10_may mi_X10_may lM_0 rfl rfl ⟨Nat.le_of_ble_eq_true rfl, Nat.le_of_ble_eq_true rfl⟩ ⟨Nat.le_of_ble_eq_true rfl, Nat.le_of_ble_eq_true rfl⟩ (Nat.le_of_ble_eq_true rfl) rfl (s_M_may l _ _ _ h) (fun r20 w1 hq => ?_)
            obtain ⟨e9, h⟩ := hq
            rw [e9]
            refine r_if_ne (pc := 104) (tgt := 110) hC dX10_trades_104 rfl (fun hc1 => ?_) (fun hc1 => ?_)
            · have h := h.1 hc1
              refine r_aload_n (pc := 110) hC 0 dX10_trades_110 rfl rfl ?_
              refine r_iload_n (pc := 111) hC 2 dX10_trades_111 rfl rfl ?_
              refine r_put (kd := 0) (pc := 112) hC dX10_trades_112 pl_RX10_386 lM_0 rfl (by decide) (Or.inl rfl) ?_
              refine r_aload_n (pc := 115) hC 0 dX10_trades_115 rfl rfl ?_
              refine r_iload_n (pc := 116) hC 3 dX10_trades_116 rfl rfl ?_
              refine r_put (kd := 0) (pc := 117) hC dX10_trades_117 pl_RX10_389 lM_0 rfl (by decide) (Or.inl rfl) ?_
              refine r_aload_n (pc := 120) hC 0 dX10_trades_120 rfl rfl ?_
              refine r_getr (r := 28) (pc := 121) hC dX10_trades_121 fl_RX10_97 lM_0 rfl ?_
              refine r_iload (pc := 124) hC dX10_trades_124 rfl ?_
              refine r_iald (v := (m_worth_1 (Int.toNat (iOr (iAnd (w.1 0 53) (iXor (iShl 1 x10) (-1))) (iShl 1 x14))))) (pc := 126) hC dX10_trades_126 lM_28 h.1.1 h.1.2 rfl ?_
              have h := h.2
              refine r_aload_n (pc := 127) hC 0 dX10_trades_127 rfl rfl ?_
              refine r_getr (r := 28) (pc := 128) hC dX10_trades_128 fl_RX10_97 lM_0 rfl ?_
              refine r_aload_n (pc := 131) hC 0 dX10_trades_131 rfl rfl ?_
              refine r_get (kd := 0) (v := (w.1 0 53)) (pc := 132) hC dX10_trades_132 fl_RX10_221 lM_0 rfl rfl ?_
              refine r_iald (v := (m_worth_1 (Int.toNat (w.1 0 53)))) (pc := 135) hC dX10_trades_135 lM_28 h.1.1 h.1.2 rfl ?_
              have h := h.2
              refine r_isub (pc := 136) hC dX10_trades_136 h.1 ?_
              have h := h.2
              refine r_istore_n (ls2 := [some (aR 0), some (aI ((m_worth_1 (Int.toNat (iOr (iAnd (w.1 0 53) (iXor (iShl 1 x10) (-1))) (iShl 1 x14)))) - (m_worth_1 (Int.toNat (w.1 0 53))))), some (aI x10), some (aI x14), some (aI (iOr (iAnd (w.1 0 53) (iXor (iShl 1 x10) (-1))) (iShl 1 x14)))]) (pc := 137) hC 1 dX10_trades_137 rfl (by decide) rfl rfl ?_
              exact r_to [true, true, true, true, false] rfl rfl (S3 x10 x14 ((m_worth_1 (Int.toNat (iOr (iAnd (w.1 0 53) (iXor (iShl 1 x10) (-1))) (iShl 1 x14)))) - (m_worth_1 (Int.toNat (w.1 0 53)))) h)
            have h := h.2 hc1
            refine r_goto (tgt := 138) (pc := 107) hC dX10_trades_107 rfl ?_
            exact r_to [true, true, true, true, false] rfl rfl (S3 m_tradeOut_11 m_tradeIn_12 x13 h)
          have h := h.2 hc3
          refine r_goto (tgt := 138) (pc := 58) hC dX10_trades_58 rfl ?_
          exact r_to [true, true, true, true, false] rfl rfl (S3 m_tradeOut_11 m_tradeIn_12 x13 h)
      exact r_to [true, true, true, true, false] rfl rfl (S2 _ m_tradeOut_7 m_tradeIn_8 x9 0 (Nat.lt_succ_self _) hI2)
  exact r_to [true, true, true, false, false] rfl rfl (S1 _ (-1) (-1) 0 0 (Nat.lt_succ_self _) hI1)
def wp_M_exchange (m_sentenceOf : (Nat → Int)) (m_likeOf : (Nat → Int)) (m_from : (Nat → Int)) (m_to : (Nat → Int)) (m_hasWord : (Nat → Int)) (m_weight : (Nat → Int)) (m_matchItem : (Nat → Int)) (m_matchFirst : (Nat → Int)) (m_worth : (Nat → Int)) (m_length : (Nat → Int)) (m_inSentence : (Nat → Int)) (m_tooLike : (Nat → Int)) (m_thrown : Int) (m_words : Int) (m_sentences : Int) (m_items : Int) (m_matches : Int) (m_areLaid : Int) (m_areLikeLaid : Int) (m_budget : Int) (m_mostOf : Int) (m_limit : Int) (m_chosen : Int) (m_tradeOut : Int) (m_tradeIn : Int) (a1 : Int) (Q : Int → (Nat → Int) → (Nat → Int) → (Nat → Int) → (Nat → Int) → Int → Int → Int → Int → Int → Prop) : Prop := wp_M_in a1 0 2 (fun (r1 : Int) => jn1 (fun (J1 : Int → Prop) => (¬ r1 = 0 → J1 0) ∧ (r1 = 0 → J1 1)) (fun (y2 : Int) => wp_M_throwsIf 0 y2 1 (fun (r3 : Int) (m_thrown_4 : Int) => (r3 = 0 → wp_M_trades m_sentenceOf m_likeOf m_from m_to m_hasWord m_weight m_matchItem m_matchFirst m_worth m_length m_inSentence m_tooLike m_words m_sentences m_items m_matches m_areLaid m_areLikeLaid m_budget m_mostOf m_limit m_chosen m_tradeOut m_tradeIn (fun (r5 : Int) (m_worth_6 : (Nat → Int)) (m_length_7 : (Nat → Int)) (m_inSentence_8 : (Nat → Int)) (m_tooLike_9 : (Nat → Int)) (m_areLaid_10 : Int) (m_areLikeLaid_11 : Int) (m_tradeOut_12 : Int) (m_tradeIn_13 : Int) => (¬ a1 = 0 → (¬ a1 = 1 → Q r5 m_worth_6 m_length_7 m_inSentence_8 m_tooLike_9 m_thrown_4 m_areLaid_10 m_areLikeLaid_11 m_tradeOut_12 m_tradeIn_13) ∧ (a1 = 1 → Q m_tradeIn_13 m_worth_6 m_length_7 m_inSentence_8 m_tooLike_9 m_thrown_4 m_areLaid_10 m_areLikeLaid_11 m_tradeOut_12 m_tradeIn_13)) ∧ (a1 = 0 → Q m_tradeOut_12 m_worth_6 m_length_7 m_inSentence_8 m_tooLike_9 m_thrown_4 m_areLaid_10 m_areLikeLaid_11 m_tradeOut_12 m_tradeIn_13))) ∧ (¬ r3 = 0 → Q 0 m_worth m_length m_inSentence m_tooLike m_thrown_4 m_areLaid m_areLikeLaid m_tradeOut m_tradeIn))))
set_option maxHeartbeats 4000000 in
set_option maxRecDepth 20000 in
theorem s_M_exchange (l : Launch) (w : St) (a1 : Int) (P : Int → (Nat → Int) → (Nat → Int) → (Nat → Int) → (Nat → Int) → Int → Int → Int → Int → Int → Prop) (h : wp_M_exchange (w.1 7) (w.1 8) (w.1 9) (w.1 10) (w.1 11) (w.1 12) (w.1 24) (w.1 25) (w.1 28) (w.1 29) (w.1 31) (w.1 33) (w.1 0 0) (w.1 0 12) (w.1 0 16) (w.1 0 29) (w.1 0 39) (w.1 0 42) (w.1 0 43) (w.1 0 50) (w.1 0 51) (w.1 0 52) (w.1 0 53) (w.1 0 57) (w.1 0 58) a1 P) : Cn l yX10_exchange cX10_exchange 3 (some .int) 5 LM w [aR 0, aI a1] (okI (fun r w1 => ∃ (o0 : (Nat → Int)) (o1 : (Nat → Int)) (o2 : (Nat → Int)) (o3 : (Nat → Int)) (o4 : Int) (o5 : Int) (o6 : Int) (o7 : Int) (o8 : Int), w1 = (wI (wI (wI (wI (wI (wA (wA (wA (wA w 28 o0) 29 o1) 31 o2) 33 o3) 0 0 o4) 0 42 o5) 0 43 o6) 0 57 o7) 0 58 o8) ∧ P r o0 o1 o2 o3 o4 o5 o6 o7 o8)) := by
  unfold wp_M_exchange at h
  refine Cn.of2 [some (aR 0), some (aI a1), none] (by decide) (Nat.le_of_ble_eq_true rfl) rfl (fun p e s m args below meth c D cA ad A Q hQ hC hr hk => ?_)
  refine r_aload_n (pc := 0) hC 0 dX10_exchange_0 rfl rfl ?_
  refine r_iconst (pc := 1) hC dX10_exchange_1 (rng_lit rfl) ?_
  refine r_put (kd := 0) (pc := 2) hC dX10_exchange_2 pl_RX10_142 lM_0 rfl (by decide) (Or.inl rfl) ?_
  refine r_aload_n (pc := 5) hC 0 dX10_exchange_5 rfl rfl ?_
  refine r_iload_n (pc := 6) hC 1 dX10_exchange_6 rfl rfl ?_
  refine r_iconst (pc := 7) hC dX10_exchange_7 (rng_lit rfl) ?_
  refine r_iconst (pc := 8) hC dX10_exchange_8 (rng_lit rfl) ?_
  refine r_callSi (pc := 9) hC [aI a1, aI 0, aI 2] [aR 0] dX10_exchange_9 ml_RX10_151 my_X10_in ms_X10_in rfl ⟨Nat.le_of_ble_eq_true rfl, Nat.le_of_ble_eq_true rfl⟩ ⟨Nat.le_of_ble_eq_true rfl, Nat.le_of_ble_eq_true rfl⟩ (Nat.le_of_ble_eq_true rfl) rfl (s_M_in l _ _ _ _ _ h) (fun r1 w1 hq => ?_)
  obtain ⟨e9, h⟩ := hq
  rw [e9]
  obtain ⟨J1, hJ1, h⟩ := h
  have S1 : ∀ (y2 : Int), J1 y2 → Wd p l e (rmD 5) s m args below meth c Q 0 0 3 D cA ad A LM (wI w 0 0 0) 20 [some (aR 0), some (aI a1), none] [aI y2, aR 0] := by
    intro y2 hj
    have h := hJ1 y2 hj
    refine r_iconst (pc := 20) hC dX10_exchange_20 (rng_lit rfl) ?_
    refine r_callVi (pc := 21) hC [aI y2, aI 1] [] dX10_exchange_21 ml_RX10_309 my_X10_throwsIf mi_X10_throwsIf lM_0 rfl rfl ⟨Nat.le_of_ble_eq_true rfl, Nat.le_of_ble_eq_true rfl⟩ ⟨Nat.le_of_ble_eq_true rfl, Nat.le_of_ble_eq_true rfl⟩ (Nat.le_of_ble_eq_true rfl) rfl (s_M_throwsIf l _ _ _ _ h) (fun r3 w1 hq => ?_)
    obtain ⟨m_thrown_4, e9, h⟩ := hq
    rw [e9]
    refine r_if_eq (pc := 24) (tgt := 29) hC dX10_exchange_24 rfl (fun hc3 => ?_) (fun hc3 => ?_)
    · have h := h.1 hc3
      refine r_aload_n (pc := 29) hC 0 dX10_exchange_29 rfl rfl ?_
      refine r_callVi (pc := 30) hC [] [] dX10_exchange_30 ml_RX10_392 my_X10_trades mi_X10_trades lM_0 rfl rfl ⟨Nat.le_of_ble_eq_true rfl, Nat.le_of_ble_eq_true rfl⟩ ⟨Nat.le_of_ble_eq_true rfl, Nat.le_of_ble_eq_true rfl⟩ (Nat.le_of_ble_eq_true rfl) rfl (s_M_trades l _ _ h) (fun r5 w1 hq => ?_)
      obtain ⟨m_worth_6, m_length_7, m_inSentence_8, m_tooLike_9, m_areLaid_10, m_areLikeLaid_11, m_tradeOut_12, m_tradeIn_13, e9, h⟩ := hq
      rw [e9]
      refine r_istore_n (ls2 := [some (aR 0), some (aI a1), some (aI r5)]) (pc := 33) hC 2 dX10_exchange_33 rfl (by decide) rfl rfl ?_
      refine r_iload_n (pc := 34) hC 1 dX10_exchange_34 rfl rfl ?_
      refine r_if_ne (pc := 35) (tgt := 45) hC dX10_exchange_35 rfl (fun hc2 => ?_) (fun hc2 => ?_)
      · have h := h.1 hc2
        refine r_iload_n (pc := 45) hC 1 dX10_exchange_45 rfl rfl ?_
        refine r_iconst (pc := 46) hC dX10_exchange_46 (rng_lit rfl) ?_
        refine r_ic_ne (pc := 47) (tgt := 57) hC dX10_exchange_47 rfl (fun hc1 => ?_) (fun hc1 => ?_)
        · have h := h.1 hc1
          refine r_iload_n (pc := 57) hC 2 dX10_exchange_57 rfl rfl ?_
          refine r_conv (w2 := (wI (wI (wI (wI (wI (wA (wA (wA (wA w 28 m_worth_6) 29 m_length_7) 31 m_inSentence_8) 33 m_tooLike_9) 0 0 m_thrown_4) 0 42 m_areLaid_10) 0 43 m_areLikeLaid_11) 0 57 m_tradeOut_12) 0 58 m_tradeIn_13)) rfl ?_
          exact r_reti (pc := 58) (kd := 0) hC hQ dX10_exchange_58 hr hk (by decide) (Or.inl rfl) ⟨m_worth_6, m_length_7, m_inSentence_8, m_tooLike_9, m_thrown_4, m_areLaid_10, m_areLikeLaid_11, m_tradeOut_12, m_tradeIn_13, rfl, h⟩
        have h := h.2 hc1
        refine r_aload_n (pc := 50) hC 0 dX10_exchange_50 rfl rfl ?_
        refine r_get (kd := 0) (v := m_tradeIn_13) (pc := 51) hC dX10_exchange_51 fl_RX10_389 lM_0 rfl rfl ?_
        refine r_goto (tgt := 58) (pc := 54) hC dX10_exchange_54 rfl ?_
        refine r_conv (w2 := (wI (wI (wI (wI (wI (wA (wA (wA (wA w 28 m_worth_6) 29 m_length_7) 31 m_inSentence_8) 33 m_tooLike_9) 0 0 m_thrown_4) 0 42 m_areLaid_10) 0 43 m_areLikeLaid_11) 0 57 m_tradeOut_12) 0 58 m_tradeIn_13)) rfl ?_
        exact r_reti (pc := 58) (kd := 0) hC hQ dX10_exchange_58 hr hk (by decide) (Or.inl rfl) ⟨m_worth_6, m_length_7, m_inSentence_8, m_tooLike_9, m_thrown_4, m_areLaid_10, m_areLikeLaid_11, m_tradeOut_12, m_tradeIn_13, rfl, h⟩
      have h := h.2 hc2
      refine r_aload_n (pc := 38) hC 0 dX10_exchange_38 rfl rfl ?_
      refine r_get (kd := 0) (v := m_tradeOut_12) (pc := 39) hC dX10_exchange_39 fl_RX10_386 lM_0 rfl rfl ?_
      refine r_goto (tgt := 58) (pc := 42) hC dX10_exchange_42 rfl ?_
      refine r_conv (w2 := (wI (wI (wI (wI (wI (wA (wA (wA (wA w 28 m_worth_6) 29 m_length_7) 31 m_inSentence_8) 33 m_tooLike_9) 0 0 m_thrown_4) 0 42 m_areLaid_10) 0 43 m_areLikeLaid_11) 0 57 m_tradeOut_12) 0 58 m_tradeIn_13)) rfl ?_
      exact r_reti (pc := 58) (kd := 0) hC hQ dX10_exchange_58 hr hk (by decide) (Or.inl rfl) ⟨m_worth_6, m_length_7, m_inSentence_8, m_tooLike_9, m_thrown_4, m_areLaid_10, m_areLikeLaid_11, m_tradeOut_12, m_tradeIn_13, rfl, h⟩
    have h := h.2 hc3
    refine r_iconst (pc := 27) hC dX10_exchange_27 (rng_lit rfl) ?_
    refine r_conv (w2 := (wI (wI (wI (wI (wI (wA (wA (wA (wA w 28 (w.1 28)) 29 (w.1 29)) 31 (w.1 31)) 33 (w.1 33)) 0 0 m_thrown_4) 0 42 (w.1 0 42)) 0 43 (w.1 0 43)) 0 57 (w.1 0 57)) 0 58 (w.1 0 58))) rfl ?_
    exact r_reti (pc := 28) (kd := 0) hC hQ dX10_exchange_28 hr hk (by decide) (Or.inl rfl) ⟨(w.1 28), (w.1 29), (w.1 31), (w.1 33), m_thrown_4, (w.1 0 42), (w.1 0 43), (w.1 0 57), (w.1 0 58), rfl, h⟩
  refine r_if_ne (pc := 12) (tgt := 19) hC dX10_exchange_12 rfl (fun hc4 => ?_) (fun hc4 => ?_)
  · have h := h.1 hc4
    refine r_iconst (pc := 19) hC dX10_exchange_19 (rng_lit rfl) ?_
    exact r_to [true, true, false] rfl rfl (S1 0 h)
  have h := h.2 hc4
  refine r_iconst (pc := 15) hC dX10_exchange_15 (rng_lit rfl) ?_
  refine r_goto (tgt := 20) (pc := 16) hC dX10_exchange_16 rfl ?_
  exact r_to [true, true, false] rfl rfl (S1 1 h)
def wp_M_trade (m_sentenceOf : (Nat → Int)) (m_likeOf : (Nat → Int)) (m_from : (Nat → Int)) (m_to : (Nat → Int)) (m_hasWord : (Nat → Int)) (m_weight : (Nat → Int)) (m_matchItem : (Nat → Int)) (m_matchFirst : (Nat → Int)) (m_worth : (Nat → Int)) (m_length : (Nat → Int)) (m_inSentence : (Nat → Int)) (m_tooLike : (Nat → Int)) (m_thrown : Int) (m_words : Int) (m_sentences : Int) (m_items : Int) (m_matches : Int) (m_areLaid : Int) (m_areLikeLaid : Int) (m_budget : Int) (m_mostOf : Int) (m_limit : Int) (m_chosen : Int) (m_tradeOut : Int) (m_tradeIn : Int) (Q : Int → (Nat → Int) → (Nat → Int) → (Nat → Int) → (Nat → Int) → Int → Int → Int → Int → Int → Int → Prop) : Prop := wp_M_trades m_sentenceOf m_likeOf m_from m_to m_hasWord m_weight m_matchItem m_matchFirst m_worth m_length m_inSentence m_tooLike m_words m_sentences m_items m_matches m_areLaid m_areLikeLaid m_budget m_mostOf m_limit m_chosen m_tradeOut m_tradeIn (fun (r1 : Int) (m_worth_2 : (Nat → Int)) (m_length_3 : (Nat → Int)) (m_inSentence_4 : (Nat → Int)) (m_tooLike_5 : (Nat → Int)) (m_areLaid_6 : Int) (m_areLikeLaid_7 : Int) (m_tradeOut_8 : Int) (m_tradeIn_9 : Int) => jn1 (fun (J1 : Int → Prop) => (¬ r1 = 0 → J1 0) ∧ (r1 = 0 → J1 1)) (fun (y10 : Int) => wp_M_throwsIf 0 y10 1 (fun (r11 : Int) (m_thrown_12 : Int) => (r11 = 0 → (0 ≤ (iOr (iAnd m_chosen (iXor (iShl 1 m_tradeOut_8) (-1))) (iShl 1 m_tradeIn_9)) ∧ (iOr (iAnd m_chosen (iXor (iShl 1 m_tradeOut_8) (-1))) (iShl 1 m_tradeIn_9)) < 16384) ∧ (Q (m_worth_2 (Int.toNat (iOr (iAnd m_chosen (iXor (iShl 1 m_tradeOut_8) (-1))) (iShl 1 m_tradeIn_9)))) m_worth_2 m_length_3 m_inSentence_4 m_tooLike_5 m_thrown_12 m_areLaid_6 m_areLikeLaid_7 (iOr (iAnd m_chosen (iXor (iShl 1 m_tradeOut_8) (-1))) (iShl 1 m_tradeIn_9)) m_tradeOut_8 m_tradeIn_9)) ∧ (¬ r11 = 0 → Q 0 m_worth_2 m_length_3 m_inSentence_4 m_tooLike_5 m_thrown_12 m_areLaid_6 m_areLikeLaid_7 m_chosen m_tradeOut_8 m_tradeIn_9))))
set_option maxHeartbeats 4000000 in
set_option maxRecDepth 20000 in
theorem s_M_trade (l : Launch) (w : St) (P : Int → (Nat → Int) → (Nat → Int) → (Nat → Int) → (Nat → Int) → Int → Int → Int → Int → Int → Int → Prop) (h : wp_M_trade (w.1 7) (w.1 8) (w.1 9) (w.1 10) (w.1 11) (w.1 12) (w.1 24) (w.1 25) (w.1 28) (w.1 29) (w.1 31) (w.1 33) (w.1 0 0) (w.1 0 12) (w.1 0 16) (w.1 0 29) (w.1 0 39) (w.1 0 42) (w.1 0 43) (w.1 0 50) (w.1 0 51) (w.1 0 52) (w.1 0 53) (w.1 0 57) (w.1 0 58) P) : Cn l yX10_trade cX10_trade 1 (some .int) 5 LM w [aR 0] (okI (fun r w1 => ∃ (o0 : (Nat → Int)) (o1 : (Nat → Int)) (o2 : (Nat → Int)) (o3 : (Nat → Int)) (o4 : Int) (o5 : Int) (o6 : Int) (o7 : Int) (o8 : Int) (o9 : Int), w1 = (wI (wI (wI (wI (wI (wI (wA (wA (wA (wA w 28 o0) 29 o1) 31 o2) 33 o3) 0 0 o4) 0 42 o5) 0 43 o6) 0 53 o7) 0 57 o8) 0 58 o9) ∧ P r o0 o1 o2 o3 o4 o5 o6 o7 o8 o9)) := by
  unfold wp_M_trade at h
  refine Cn.of2 [some (aR 0)] (by decide) (Nat.le_of_ble_eq_true rfl) rfl (fun p e s m args below meth c D cA ad A Q hQ hC hr hk => ?_)
  refine r_aload_n (pc := 0) hC 0 dX10_trade_0 rfl rfl ?_
  refine r_iconst (pc := 1) hC dX10_trade_1 (rng_lit rfl) ?_
  refine r_put (kd := 0) (pc := 2) hC dX10_trade_2 pl_RX10_142 lM_0 rfl (by decide) (Or.inl rfl) ?_
  refine r_aload_n (pc := 5) hC 0 dX10_trade_5 rfl rfl ?_
  refine r_aload_n (pc := 6) hC 0 dX10_trade_6 rfl rfl ?_
  refine r_callVi (pc := 7) hC [] [aR 0] dX10_trade_7 ml_RX10_392 my_X10_trades mi_X10_trades lM_0 rfl rfl ⟨Nat.le_of_ble_eq_true rfl, Nat.le_of_ble_eq_true rfl⟩ ⟨Nat.le_of_ble_eq_true rfl, Nat.le_of_ble_eq_true rfl⟩ (Nat.le_of_ble_eq_true rfl) rfl (s_M_trades l _ _ h) (fun r1 w1 hq => ?_)
  obtain ⟨m_worth_2, m_length_3, m_inSentence_4, m_tooLike_5, m_areLaid_6, m_areLikeLaid_7, m_tradeOut_8, m_tradeIn_9, e9, h⟩ := hq
  rw [e9]
  obtain ⟨J1, hJ1, h⟩ := h
  have S1 : ∀ (y10 : Int), J1 y10 → Wd p l e (rmD 5) s m args below meth c Q 0 0 1 D cA ad A LM (wI (wI (wI (wI (wI (wA (wA (wA (wA w 28 m_worth_2) 29 m_length_3) 31 m_inSentence_4) 33 m_tooLike_5) 0 0 0) 0 42 m_areLaid_6) 0 43 m_areLikeLaid_7) 0 57 m_tradeOut_8) 0 58 m_tradeIn_9) 18 [some (aR 0)] [aI y10, aR 0] := by
    intro y10 hj
    have h := hJ1 y10 hj
    refine r_iconst (pc := 18) hC dX10_trade_18 (rng_lit rfl) ?_
    refine r_callVi (pc := 19) hC [aI y10, aI 1] [] dX10_trade_19 ml_RX10_309 my_X10_throwsIf mi_X10_throwsIf lM_0 rfl rfl ⟨Nat.le_of_ble_eq_true rfl, Nat.le_of_ble_eq_true rfl⟩ ⟨Nat.le_of_ble_eq_true rfl, Nat.le_of_ble_eq_true rfl⟩ (Nat.le_of_ble_eq_true rfl) rfl (s_M_throwsIf l _ _ _ _ h) (fun r11 w1 hq => ?_)
    obtain ⟨m_thrown_12, e9, h⟩ := hq
    rw [e9]
    refine r_if_eq (pc := 22) (tgt := 27) hC dX10_trade_22 rfl (fun hc1 => ?_) (fun hc1 => ?_)
    · have h := h.1 hc1
      refine r_aload_n (pc := 27) hC 0 dX10_trade_27 rfl rfl ?_
      refine r_aload_n (pc := 28) hC 0 dX10_trade_28 rfl rfl ?_
      refine r_get (kd := 0) (v := (w.1 0 53)) (pc := 29) hC dX10_trade_29 fl_RX10_221 lM_0 rfl rfl ?_
      refine r_iconst (pc := 32) hC dX10_trade_32 (rng_lit rfl) ?_
      refine r_aload_n (pc := 33) hC 0 dX10_trade_33 rfl rfl ?_
      refine r_get (kd := 0) (v := m_tradeOut_8) (pc := 34) hC dX10_trade_34 fl_RX10_386 lM_0 rfl rfl ?_
      refine r_ishl (pc := 37) hC dX10_trade_37 ?_
      refine r_iconst (pc := 38) hC dX10_trade_38 (rng_lit rfl) ?_
      refine r_ixor (pc := 39) hC dX10_trade_39 ?_
      refine r_iand (pc := 40) hC dX10_trade_40 ?_
      refine r_iconst (pc := 41) hC dX10_trade_41 (rng_lit rfl) ?_
      refine r_aload_n (pc := 42) hC 0 dX10_trade_42 rfl rfl ?_
      refine r_get (kd := 0) (v := m_tradeIn_9) (pc := 43) hC dX10_trade_43 fl_RX10_389 lM_0 rfl rfl ?_
      refine r_ishl (pc := 46) hC dX10_trade_46 ?_
      refine r_ior (pc := 47) hC dX10_trade_47 ?_
      refine r_put (kd := 0) (pc := 48) hC dX10_trade_48 pl_RX10_221 lM_0 rfl (by decide) (Or.inl rfl) ?_
      refine r_aload_n (pc := 51) hC 0 dX10_trade_51 rfl rfl ?_
      refine r_getr (r := 28) (pc := 52) hC dX10_trade_52 fl_RX10_97 lM_0 rfl ?_
      refine r_aload_n (pc := 55) hC 0 dX10_trade_55 rfl rfl ?_
      refine r_get (kd := 0) (v := (iOr (iAnd (w.1 0 53) (iXor (iShl 1 m_tradeOut_8) (-1))) (iShl 1 m_tradeIn_9))) (pc := 56) hC dX10_trade_56 fl_RX10_221 lM_0 rfl rfl ?_
      refine r_iald (v := (m_worth_2 (Int.toNat (iOr (iAnd (w.1 0 53) (iXor (iShl 1 m_tradeOut_8) (-1))) (iShl 1 m_tradeIn_9))))) (pc := 59) hC dX10_trade_59 lM_28 h.1.1 h.1.2 rfl ?_
      have h := h.2
      refine r_conv (w2 := (wI (wI (wI (wI (wI (wI (wA (wA (wA (wA w 28 m_worth_2) 29 m_length_3) 31 m_inSentence_4) 33 m_tooLike_5) 0 0 m_thrown_12) 0 42 m_areLaid_6) 0 43 m_areLikeLaid_7) 0 53 (iOr (iAnd (w.1 0 53) (iXor (iShl 1 m_tradeOut_8) (-1))) (iShl 1 m_tradeIn_9))) 0 57 m_tradeOut_8) 0 58 m_tradeIn_9)) rfl ?_
      exact r_reti (pc := 60) (kd := 0) hC hQ dX10_trade_60 hr hk (by decide) (Or.inl rfl) ⟨m_worth_2, m_length_3, m_inSentence_4, m_tooLike_5, m_thrown_12, m_areLaid_6, m_areLikeLaid_7, (iOr (iAnd (w.1 0 53) (iXor (iShl 1 m_tradeOut_8) (-1))) (iShl 1 m_tradeIn_9)), m_tradeOut_8, m_tradeIn_9, rfl, h⟩
    have h := h.2 hc1
    refine r_iconst (pc := 25) hC dX10_trade_25 (rng_lit rfl) ?_
    refine r_conv (w2 := (wI (wI (wI (wI (wI (wI (wA (wA (wA (wA w 28 m_worth_2) 29 m_length_3) 31 m_inSentence_4) 33 m_tooLike_5) 0 0 m_thrown_12) 0 42 m_areLaid_6) 0 43 m_areLikeLaid_7) 0 53 (w.1 0 53)) 0 57 m_tradeOut_8) 0 58 m_tradeIn_9)) rfl ?_
    exact r_reti (pc := 26) (kd := 0) hC hQ dX10_trade_26 hr hk (by decide) (Or.inl rfl) ⟨m_worth_2, m_length_3, m_inSentence_4, m_tooLike_5, m_thrown_12, m_areLaid_6, m_areLikeLaid_7, (w.1 0 53), m_tradeOut_8, m_tradeIn_9, rfl, h⟩
  refine r_if_ne (pc := 10) (tgt := 17) hC dX10_trade_10 rfl (fun hc2 => ?_) (fun hc2 => ?_)
  · have h := h.1 hc2
    refine r_iconst (pc := 17) hC dX10_trade_17 (rng_lit rfl) ?_
    exact r_to [true] rfl rfl (S1 0 h)
  have h := h.2 hc2
  refine r_iconst (pc := 13) hC dX10_trade_13 (rng_lit rfl) ?_
  refine r_goto (tgt := 18) (pc := 14) hC dX10_trade_14 rfl ?_
  exact r_to [true] rfl rfl (S1 1 h)
def wp_M_rank (m_sentenceOf : (Nat → Int)) (m_from : (Nat → Int)) (m_to : (Nat → Int)) (m_weight : (Nat → Int)) (m_matchItem : (Nat → Int)) (m_matchFirst : (Nat → Int)) (m_worth : (Nat → Int)) (m_length : (Nat → Int)) (m_inSentence : (Nat → Int)) (m_thrown : Int) (m_sentences : Int) (m_items : Int) (m_matches : Int) (m_areLaid : Int) (a1 : Int) (Q : Int → (Nat → Int) → (Nat → Int) → (Nat → Int) → Int → Int → Prop) : Prop := wp_M_laysSets m_sentenceOf m_from m_to m_weight m_matchItem m_matchFirst m_worth m_length m_inSentence m_sentences m_items m_matches m_areLaid (fun (m_worth_1 : (Nat → Int)) (m_length_2 : (Nat → Int)) (m_inSentence_3 : (Nat → Int)) (m_areLaid_4 : Int) => lpw1 (fun (x5 : Int) (k1 : Int → Prop) => (m_sentences ≤ x5 → Q (-1) m_worth_1 m_length_2 m_inSentence_3 0 m_areLaid_4) ∧ (¬ m_sentences ≤ x5 → lpw2 (fun (x6 : Int) (x7 : Int) (k2 : Int → Int → Prop) => (m_sentences ≤ x7 → (¬ x6 = a1 → (rng (x5 + 1)) ∧ (k1 (x5 + 1))) ∧ (x6 = a1 → Q x5 m_worth_1 m_length_2 m_inSentence_3 0 m_areLaid_4)) ∧ (¬ m_sentences ≤ x7 → (0 ≤ (iShl 1 x7) ∧ (iShl 1 x7) < 16384) ∧ ((0 ≤ (iShl 1 x5) ∧ (iShl 1 x5) < 16384) ∧ (jn1 (fun (J3 : Int → Prop) => jn0 (fun (J4 : Prop) => ((m_worth_1 (Int.toNat (iShl 1 x5))) < (m_worth_1 (Int.toNat (iShl 1 x7))) → J4) ∧ (¬ (m_worth_1 (Int.toNat (iShl 1 x5))) < (m_worth_1 (Int.toNat (iShl 1 x7))) → (0 ≤ (iShl 1 x7) ∧ (iShl 1 x7) < 16384) ∧ ((0 ≤ (iShl 1 x5) ∧ (iShl 1 x5) < 16384) ∧ (jn0 (fun (J5 : Prop) => (¬ (m_worth_1 (Int.toNat (iShl 1 x7))) = (m_worth_1 (Int.toNat (iShl 1 x5))) → J5) ∧ ((m_worth_1 (Int.toNat (iShl 1 x7))) = (m_worth_1 (Int.toNat (iShl 1 x5))) → (x5 ≤ x7 → J5) ∧ (¬ x5 ≤ x7 → J4))) (J3 0))))) (J3 1)) (fun (y8 : Int) => (rng (x6 + y8)) ∧ ((rng (x7 + 1)) ∧ (k2 (x6 + y8) (x7 + 1)))))))) 0 0)) 0)
set_option maxHeartbeats 4000000 in
set_option maxRecDepth 20000 in
theorem s_M_rank (l : Launch) (w : St) (a1 : Int) (P : Int → (Nat → Int) → (Nat → Int) → (Nat → Int) → Int → Int → Prop) (h : wp_M_rank (w.1 7) (w.1 9) (w.1 10) (w.1 12) (w.1 24) (w.1 25) (w.1 28) (w.1 29) (w.1 31) (w.1 0 0) (w.1 0 16) (w.1 0 29) (w.1 0 39) (w.1 0 42) a1 P) : Cn l yX10_rank cX10_rank 5 (some .int) 2 LM w [aR 0, aI a1] (okI (fun r w1 => ∃ (o0 : (Nat → Int)) (o1 : (Nat → Int)) (o2 : (Nat → Int)) (o3 : Int) (o4 : Int), w1 = (wI (wI (wA (wA (wA w 28 o0) 29 o1) 31 o2) 0 0 o3) 0 42 o4) ∧ P r o0 o1 o2 o3 o4)) := by
  unfold wp_M_rank at h
  refine Cn.of2 [some (aR 0), some (aI a1), none, none, none] (by decide) (Nat.le_of_ble_eq_true rfl) rfl (fun p e s m args below meth c D cA ad A Q hQ hC hr hk => ?_)
  refine r_aload_n (pc := 0) hC 0 dX10_rank_0 rfl rfl ?_
  refine r_iconst (pc := 1) hC dX10_rank_1 (rng_lit rfl) ?_
  refine r_put (kd := 0) (pc := 2) hC dX10_rank_2 pl_RX10_142 lM_0 rfl (by decide) (Or.inl rfl) ?_
  refine r_aload_n (pc := 5) hC 0 dX10_rank_5 rfl rfl ?_
  refine r_callVv (pc := 6) hC [] [] dX10_rank_6 ml_RX10_349 my_X10_laysSets mi_X10_laysSets lM_0 rfl rfl ⟨Nat.le_of_ble_eq_true rfl, Nat.le_of_ble_eq_true rfl⟩ ⟨Nat.le_of_ble_eq_true rfl, Nat.le_of_ble_eq_true rfl⟩ (Nat.le_of_ble_eq_true rfl) rfl (s_M_laysSets l _ _ h) (fun w1 hq => ?_)
  obtain ⟨m_worth_1, m_length_2, m_inSentence_3, m_areLaid_4, e9, h⟩ := hq
  rw [e9]
  refine r_iconst (pc := 9) hC dX10_rank_9 (rng_lit rfl) ?_
  refine r_istore_n (ls2 := [some (aR 0), some (aI a1), some (aI 0), none, none]) (pc := 10) hC 2 dX10_rank_10 rfl (by decide) rfl rfl ?_
  obtain ⟨I1, μ1, hI1, hB1⟩ := h
  have S1 : ∀ (nn : Nat) (x5 : Int), μ1 x5 < nn → I1 x5 → Wd p l e (rmD 2) s m args below meth c Q 0 0 5 D cA ad A LM (wI (wI (wA (wA (wA w 28 m_worth_1) 29 m_length_2) 31 m_inSentence_3) 0 0 0) 0 42 m_areLaid_4) 11 [some (aR 0), some (aI a1), some (aI x5), none, none] [] := by
    intro nn
    induction nn with
    | zero => intro x5 hn; exact absurd hn (Nat.not_lt_zero _)
    | succ nn ih1 =>
      intro x5 hn1 hi
      have h := hB1 x5 hi
      refine r_iload_n (pc := 11) hC 2 dX10_rank_11 rfl rfl ?_
      refine r_aload_n (pc := 12) hC 0 dX10_rank_12 rfl rfl ?_
      refine r_get (kd := 0) (v := (w.1 0 16)) (pc := 13) hC dX10_rank_13 fl_RX10_203 lM_0 rfl rfl ?_
      refine r_ic_ge (pc := 16) (tgt := 106) hC dX10_rank_16 rfl (fun hc6 => ?_) (fun hc6 => ?_)
      · have h := h.1 hc6
        refine r_iconst (pc := 106) hC dX10_rank_106 (rng_lit rfl) ?_
        refine r_conv (w2 := (wI (wI (wA (wA (wA w 28 m_worth_1) 29 m_length_2) 31 m_inSentence_3) 0 0 0) 0 42 m_areLaid_4)) rfl ?_
        exact r_reti (pc := 107) (kd := 0) hC hQ dX10_rank_107 hr hk (by decide) (Or.inl rfl) ⟨m_worth_1, m_length_2, m_inSentence_3, 0, m_areLaid_4, rfl, h⟩
      have h := h.2 hc6
      refine r_iconst (pc := 19) hC dX10_rank_19 (rng_lit rfl) ?_
      refine r_istore_n (ls2 := [some (aR 0), some (aI a1), some (aI x5), some (aI 0), none]) (pc := 20) hC 3 dX10_rank_20 rfl (by decide) rfl rfl ?_
      refine r_iconst (pc := 21) hC dX10_rank_21 (rng_lit rfl) ?_
      refine r_istore (ls2 := [some (aR 0), some (aI a1), some (aI x5), some (aI 0), some (aI 0)]) (pc := 22) hC dX10_rank_22 (by decide) rfl rfl ?_
      obtain ⟨I2, μ2, hI2, hB2⟩ := h
      have S2 : ∀ (nn : Nat) (x6 : Int) (x7 : Int), μ2 x6 x7 < nn → I2 x6 x7 → Wd p l e (rmD 2) s m args below meth c Q 0 0 5 D cA ad A LM (wI (wI (wA (wA (wA w 28 m_worth_1) 29 m_length_2) 31 m_inSentence_3) 0 0 0) 0 42 m_areLaid_4) 24 [some (aR 0), some (aI a1), some (aI x5), some (aI x6), some (aI x7)] [] := by
        intro nn
        induction nn with
        | zero => intro x6 x7 hn; exact absurd hn (Nat.not_lt_zero _)
        | succ nn ih2 =>
          intro x6 x7 hn2 hi
          have h := hB2 x6 x7 hi
          refine r_iload (pc := 24) hC dX10_rank_24 rfl ?_
          refine r_aload_n (pc := 26) hC 0 dX10_rank_26 rfl rfl ?_
          refine r_get (kd := 0) (v := (w.1 0 16)) (pc := 27) hC dX10_rank_27 fl_RX10_203 lM_0 rfl rfl ?_
          refine r_ic_ge (pc := 30) (tgt := 93) hC dX10_rank_30 rfl (fun hc5 => ?_) (fun hc5 => ?_)
          · have h := h.1 hc5
            refine r_iload_n (pc := 93) hC 3 dX10_rank_93 rfl rfl ?_
            refine r_iload_n (pc := 94) hC 1 dX10_rank_94 rfl rfl ?_
            refine r_ic_ne (pc := 95) (tgt := 100) hC dX10_rank_95 rfl (fun hc1 => ?_) (fun hc1 => ?_)
            · have h := h.1 hc1
              refine r_iinc (ls2 := [some (aR 0), some (aI a1), some (aI (x5 + 1)), some (aI x6), some (aI x7)]) (pc := 100) hC dX10_rank_100 rfl (by decide) rfl h.1 rfl ?_
              have h := h.2
              refine r_goto (tgt := 11) (pc := 103) hC dX10_rank_103 rfl ?_
              exact r_to [true, true, true, false, false] rfl rfl (ih1 (x5 + 1) (Nat.lt_of_lt_of_le h.2 (Nat.le_of_lt_succ hn1)) h.1)
            have h := h.2 hc1
            refine r_iload_n (pc := 98) hC 2 dX10_rank_98 rfl rfl ?_
            refine r_conv (w2 := (wI (wI (wA (wA (wA w 28 m_worth_1) 29 m_length_2) 31 m_inSentence_3) 0 0 0) 0 42 m_areLaid_4)) rfl ?_
            exact r_reti (pc := 99) (kd := 0) hC hQ dX10_rank_99 hr hk (by decide) (Or.inl rfl) ⟨m_worth_1, m_length_2, m_inSentence_3, 0, m_areLaid_4, rfl, h⟩
          have h := h.2 hc5
          refine r_iload_n (pc := 33) hC 3 dX10_rank_33 rfl rfl ?_
          refine r_aload_n (pc := 34) hC 0 dX10_rank_34 rfl rfl ?_
          refine r_getr (r := 28) (pc := 35) hC dX10_rank_35 fl_RX10_97 lM_0 rfl ?_
          refine r_iconst (pc := 38) hC dX10_rank_38 (rng_lit rfl) ?_
          refine r_iload (pc := 39) hC dX10_rank_39 rfl ?_
          refine r_ishl (pc := 41) hC dX10_rank_41 ?_
          refine r_iald (v := (m_worth_1 (Int.toNat (iShl 1 x7)))) (pc := 42) hC dX10_rank_42 lM_28 h.1.1 h.1.2 rfl ?_
          have h := h.2
          refine r_aload_n (pc := 43) hC 0 dX10_rank_43 rfl rfl ?_
          refine r_getr (r := 28) (pc := 44) hC dX10_rank_44 fl_RX10_97 lM_0 rfl ?_
          refine r_iconst (pc := 47) hC dX10_rank_47 (rng_lit rfl) ?_
          refine r_iload_n (pc := 48) hC 2 dX10_rank_48 rfl rfl ?_
          refine r_ishl (pc := 49) hC dX10_rank_49 ?_
          refine r_iald (v := (m_worth_1 (Int.toNat (iShl 1 x5)))) (pc := 50) hC dX10_rank_50 lM_28 h.1.1 h.1.2 rfl ?_
          have h := h.2
          obtain ⟨J3, hJ3, h⟩ := h
          have S3 : ∀ (y8 : Int), J3 y8 → Wd p l e (rmD 2) s m args below meth c Q 0 0 5 D cA ad A LM (wI (wI (wA (wA (wA w 28 m_worth_1) 29 m_length_2) 31 m_inSentence_3) 0 0 0) 0 42 m_areLaid_4) 85 [some (aR 0), some (aI a1), some (aI x5), none, some (aI x7)] [aI y8, aI x6] := by
            intro y8 hj
            have h := hJ3 y8 hj
            refine r_iadd (pc := 85) hC dX10_rank_85 h.1 ?_
            have h := h.2
            refine r_istore_n (ls2 := [some (aR 0), some (aI a1), some (aI x5), some (aI (x6 + y8)), some (aI x7)]) (pc := 86) hC 3 dX10_rank_86 rfl (by decide) rfl rfl ?_
            refine r_iinc (ls2 := [some (aR 0), some (aI a1), some (aI x5), some (aI (x6 + y8)), some (aI (x7 + 1))]) (pc := 87) hC dX10_rank_87 rfl (by decide) rfl h.1 rfl ?_
            have h := h.2
            refine r_goto (tgt := 24) (pc := 90) hC dX10_rank_90 rfl ?_
            exact r_to [true, true, true, true, true] rfl rfl (ih2 (x6 + y8) (x7 + 1) (Nat.lt_of_lt_of_le h.2 (Nat.le_of_lt_succ hn2)) h.1)
          obtain ⟨J4, hJ4, h⟩ := h
          have S4 : J4 → Wd p l e (rmD 2) s m args below meth c Q 0 0 5 D cA ad A LM (wI (wI (wA (wA (wA w 28 m_worth_1) 29 m_length_2) 31 m_inSentence_3) 0 0 0) 0 42 m_areLaid_4) 80 [some (aR 0), some (aI a1), some (aI x5), none, some (aI x7)] [aI x6] := by
            intro hj
            have h := hJ4 hj
            refine r_iconst (pc := 80) hC dX10_rank_80 (rng_lit rfl) ?_
            refine r_goto (tgt := 85) (pc := 81) hC dX10_rank_81 rfl ?_
            exact r_to [true, true, true, false, true] rfl rfl (S3 1 h)
          refine r_ic_gt (pc := 51) (tgt := 80) hC dX10_rank_51 rfl (fun hc4 => ?_) (fun hc4 => ?_)
          · have h := h.1 hc4
            exact r_to [true, true, true, false, true] rfl rfl (S4 h)
          have h := h.2 hc4
          refine r_aload_n (pc := 54) hC 0 dX10_rank_54 rfl rfl ?_
          refine r_getr (r := 28) (pc := 55) hC dX10_rank_55 fl_RX10_97 lM_0 rfl ?_
          refine r_iconst (pc := 58) hC dX10_rank_58 (rng_lit rfl) ?_
          refine r_iload (pc := 59) hC dX10_rank_59 rfl ?_
          refine r_ishl (pc := 61) hC dX10_rank_61 ?_
          refine r_iald (v := (m_worth_1 (Int.toNat (iShl 1 x7)))) (pc := 62) hC dX10_rank_62 lM_28 h.1.1 h.1.2 rfl ?_
          have h := h.2
          refine r_aload_n (pc := 63) hC 0 dX10_rank_63 rfl rfl ?_
          refine r_getr (r := 28) (pc := 64) hC dX10_rank_64 fl_RX10_97 lM_0 rfl ?_
          refine r_iconst (pc := 67) hC dX10_rank_67 (rng_lit rfl) ?_
          refine r_iload_n (pc := 68) hC 2 dX10_rank_68 rfl rfl ?_
          refine r_ishl (pc := 69) hC dX10_rank_69 ?_
          refine r_iald (v := (m_worth_1 (Int.toNat (iShl 1 x5)))) (pc := 70) hC dX10_rank_70 lM_28 h.1.1 h.1.2 rfl ?_
          have h := h.2
          obtain ⟨J5, hJ5, h⟩ := h
          have S5 : J5 → Wd p l e (rmD 2) s m args below meth c Q 0 0 5 D cA ad A LM (wI (wI (wA (wA (wA w 28 m_worth_1) 29 m_length_2) 31 m_inSentence_3) 0 0 0) 0 42 m_areLaid_4) 84 [some (aR 0), some (aI a1), some (aI x5), none, some (aI x7)] [aI x6] := by
            intro hj
            have h := hJ5 hj
            refine r_iconst (pc := 84) hC dX10_rank_84 (rng_lit rfl) ?_
            exact r_to [true, true, true, false, true] rfl rfl (S3 0 h)
          refine r_ic_ne (pc := 71) (tgt := 84) hC dX10_rank_71 rfl (fun hc3 => ?_) (fun hc3 => ?_)
          · have h := h.1 hc3
            exact r_to [true, true, true, false, true] rfl rfl (S5 h)
          have h := h.2 hc3
          refine r_iload (pc := 74) hC dX10_rank_74 rfl ?_
          refine r_iload_n (pc := 76) hC 2 dX10_rank_76 rfl rfl ?_
          refine r_ic_ge (pc := 77) (tgt := 84) hC dX10_rank_77 rfl (fun hc2 => ?_) (fun hc2 => ?_)
          · have h := h.1 hc2
            exact r_to [true, true, true, false, true] rfl rfl (S5 h)
          have h := h.2 hc2
          exact r_to [true, true, true, false, true] rfl rfl (S4 h)
      exact r_to [true, true, true, true, true] rfl rfl (S2 _ 0 0 (Nat.lt_succ_self _) hI2)
  exact r_to [true, true, true, false, false] rfl rfl (S1 _ 0 (Nat.lt_succ_self _) hI1)
def wp_M_need (m_sentenceOf : (Nat → Int)) (m_likeOf : (Nat → Int)) (m_from : (Nat → Int)) (m_to : (Nat → Int)) (m_hasWord : (Nat → Int)) (m_weight : (Nat → Int)) (m_matchItem : (Nat → Int)) (m_matchFirst : (Nat → Int)) (m_worth : (Nat → Int)) (m_length : (Nat → Int)) (m_inSentence : (Nat → Int)) (m_tooLike : (Nat → Int)) (m_thrown : Int) (m_words : Int) (m_sentences : Int) (m_items : Int) (m_matches : Int) (m_areLaid : Int) (m_areLikeLaid : Int) (m_mostOf : Int) (m_limit : Int) (a1 : Int) (Q : Int → (Nat → Int) → (Nat → Int) → (Nat → Int) → (Nat → Int) → Int → Int → Int → Prop) : Prop := wp_M_in a1 1 1008 (fun (r1 : Int) => jn1 (fun (J1 : Int → Prop) => (¬ r1 = 0 → J1 0) ∧ (r1 = 0 → J1 1)) (fun (y2 : Int) => wp_M_throwsIf 0 y2 1 (fun (r3 : Int) (m_thrown_4 : Int) => (r3 = 0 → wp_M_laysLike m_sentenceOf m_likeOf m_from m_to m_hasWord m_weight m_matchItem m_matchFirst m_worth m_length m_inSentence m_tooLike m_words m_sentences m_items m_matches m_areLaid m_areLikeLaid m_limit (fun (m_worth_5 : (Nat → Int)) (m_length_6 : (Nat → Int)) (m_inSentence_7 : (Nat → Int)) (m_tooLike_8 : (Nat → Int)) (m_areLaid_9 : Int) (m_areLikeLaid_10 : Int) => lpw2 (fun (x11 : Int) (x12 : Int) (k2 : Int → Int → Prop) => ((iShl 1 m_sentences) ≤ x12 → (¬ x11 = 268435456 → (20 ≤ x11 → Q x11 m_worth_5 m_length_6 m_inSentence_7 m_tooLike_8 m_thrown_4 m_areLaid_9 m_areLikeLaid_10) ∧ (¬ 20 ≤ x11 → Q 20 m_worth_5 m_length_6 m_inSentence_7 m_tooLike_8 m_thrown_4 m_areLaid_9 m_areLikeLaid_10)) ∧ (x11 = 268435456 → Q (-1) m_worth_5 m_length_6 m_inSentence_7 m_tooLike_8 m_thrown_4 m_areLaid_9 m_areLikeLaid_10)) ∧ (¬ (iShl 1 m_sentences) ≤ x12 → (0 ≤ x12 ∧ x12 < 16384) ∧ (jn1 (fun (J3 : Int → Prop) => ((m_worth_5 (Int.toNat x12)) < a1 → J3 x11) ∧ (¬ (m_worth_5 (Int.toNat x12)) < a1 → (0 ≤ x12 ∧ x12 < 16384) ∧ ((x11 ≤ (m_length_6 (Int.toNat x12)) → J3 x11) ∧ (¬ x11 ≤ (m_length_6 (Int.toNat x12)) → wp_M_mayBe m_length_6 m_tooLike_8 m_sentences m_mostOf x12 700 (fun (r14 : Int) => (r14 = 0 → J3 x11) ∧ (¬ r14 = 0 → (0 ≤ x12 ∧ x12 < 16384) ∧ (J3 (m_length_6 (Int.toNat x12))))))))) (fun (x13 : Int) => (rng (x12 + 1)) ∧ (k2 x13 (x12 + 1)))))) 268435456 1)) ∧ (¬ r3 = 0 → Q 0 m_worth m_length m_inSentence m_tooLike m_thrown_4 m_areLaid m_areLikeLaid))))
set_option maxHeartbeats 4000000 in
set_option maxRecDepth 20000 in
theorem s_M_need (l : Launch) (w : St) (a1 : Int) (P : Int → (Nat → Int) → (Nat → Int) → (Nat → Int) → (Nat → Int) → Int → Int → Int → Prop) (h : wp_M_need (w.1 7) (w.1 8) (w.1 9) (w.1 10) (w.1 11) (w.1 12) (w.1 24) (w.1 25) (w.1 28) (w.1 29) (w.1 31) (w.1 33) (w.1 0 0) (w.1 0 12) (w.1 0 16) (w.1 0 29) (w.1 0 39) (w.1 0 42) (w.1 0 43) (w.1 0 51) (w.1 0 52) a1 P) : Cn l yX10_need cX10_need 4 (some .int) 3 LM w [aR 0, aI a1] (okI (fun r w1 => ∃ (o0 : (Nat → Int)) (o1 : (Nat → Int)) (o2 : (Nat → Int)) (o3 : (Nat → Int)) (o4 : Int) (o5 : Int) (o6 : Int), w1 = (wI (wI (wI (wA (wA (wA (wA w 28 o0) 29 o1) 31 o2) 33 o3) 0 0 o4) 0 42 o5) 0 43 o6) ∧ P r o0 o1 o2 o3 o4 o5 o6)) := by
  unfold wp_M_need at h
  refine Cn.of2 [some (aR 0), some (aI a1), none, none] (by decide) (Nat.le_of_ble_eq_true rfl) rfl (fun p e s m args below meth c D cA ad A Q hQ hC hr hk => ?_)
  refine r_aload_n (pc := 0) hC 0 dX10_need_0 rfl rfl ?_
  refine r_iconst (pc := 1) hC dX10_need_1 (rng_lit rfl) ?_
  refine r_put (kd := 0) (pc := 2) hC dX10_need_2 pl_RX10_142 lM_0 rfl (by decide) (Or.inl rfl) ?_
  refine r_aload_n (pc := 5) hC 0 dX10_need_5 rfl rfl ?_
  refine r_iload_n (pc := 6) hC 1 dX10_need_6 rfl rfl ?_
  refine r_iconst (pc := 7) hC dX10_need_7 (rng_lit rfl) ?_
  refine r_sipush (pc := 8) hC dX10_need_8 ⟨rfl, rng_lit rfl⟩ ?_
  refine r_callSi (pc := 11) hC [aI a1, aI 1, aI 1008] [aR 0] dX10_need_11 ml_RX10_151 my_X10_in ms_X10_in rfl ⟨Nat.le_of_ble_eq_true rfl, Nat.le_of_ble_eq_true rfl⟩ ⟨Nat.le_of_ble_eq_true rfl, Nat.le_of_ble_eq_true rfl⟩ (Nat.le_of_ble_eq_true rfl) rfl (s_M_in l _ _ _ _ _ h) (fun r1 w1 hq => ?_)
  obtain ⟨e9, h⟩ := hq
  rw [e9]
  obtain ⟨J1, hJ1, h⟩ := h
  have S1 : ∀ (y2 : Int), J1 y2 → Wd p l e (rmD 3) s m args below meth c Q 0 0 4 D cA ad A LM (wI w 0 0 0) 22 [some (aR 0), some (aI a1), none, none] [aI y2, aR 0] := by
    intro y2 hj
    have h := hJ1 y2 hj
    refine r_iconst (pc := 22) hC dX10_need_22 (rng_lit rfl) ?_
    refine r_callVi (pc := 23) hC [aI y2, aI 1] [] dX10_need_23 ml_RX10_309 my_X10_throwsIf mi_X10_throwsIf lM_0 rfl rfl ⟨Nat.le_of_ble_eq_true rfl, Nat.le_of_ble_eq_true rfl⟩ ⟨Nat.le_of_ble_eq_true rfl, Nat.le_of_ble_eq_true rfl⟩ (Nat.le_of_ble_eq_true rfl) rfl (s_M_throwsIf l _ _ _ _ h) (fun r3 w1 hq => ?_)
    obtain ⟨m_thrown_4, e9, h⟩ := hq
    rw [e9]
    refine r_if_eq (pc := 26) (tgt := 31) hC dX10_need_26 rfl (fun hc7 => ?_) (fun hc7 => ?_)
    · have h := h.1 hc7
      refine r_aload_n (pc := 31) hC 0 dX10_need_31 rfl rfl ?_
      refine r_callVv (pc := 32) hC [] [] dX10_need_32 ml_RX10_364 my_X10_laysLike mi_X10_laysLike lM_0 rfl rfl ⟨Nat.le_of_ble_eq_true rfl, Nat.le_of_ble_eq_true rfl⟩ ⟨Nat.le_of_ble_eq_true rfl, Nat.le_of_ble_eq_true rfl⟩ (Nat.le_of_ble_eq_true rfl) rfl (s_M_laysLike l _ _ h) (fun w1 hq => ?_)
      obtain ⟨m_worth_5, m_length_6, m_inSentence_7, m_tooLike_8, m_areLaid_9, m_areLikeLaid_10, e9, h⟩ := hq
      rw [e9]
      refine r_ldcw (n := 268435456) (pc := 35) hC dX10_need_35 kc_RX10_395 (rng_lit rfl) ?_
      refine r_istore_n (ls2 := [some (aR 0), some (aI a1), some (aI 268435456), none]) (pc := 38) hC 2 dX10_need_38 rfl (by decide) rfl rfl ?_
      refine r_iconst (pc := 39) hC dX10_need_39 (rng_lit rfl) ?_
      refine r_istore_n (ls2 := [some (aR 0), some (aI a1), some (aI 268435456), some (aI 1)]) (pc := 40) hC 3 dX10_need_40 rfl (by decide) rfl rfl ?_
      obtain ⟨I2, μ2, hI2, hB2⟩ := h
      have S2 : ∀ (nn : Nat) (x11 : Int) (x12 : Int), μ2 x11 x12 < nn → I2 x11 x12 → Wd p l e (rmD 3) s m args below meth c Q 0 0 4 D cA ad A LM (wI (wI (wI (wA (wA (wA (wA w 28 m_worth_5) 29 m_length_6) 31 m_inSentence_7) 33 m_tooLike_8) 0 0 m_thrown_4) 0 42 m_areLaid_9) 0 43 m_areLikeLaid_10) 41 [some (aR 0), some (aI a1), some (aI x11), some (aI x12)] [] := by
        intro nn
        induction nn with
        | zero => intro x11 x12 hn; exact absurd hn (Nat.not_lt_zero _)
        | succ nn ih2 =>
          intro x11 x12 hn2 hi
          have h := hB2 x11 x12 hi
          refine r_iload_n (pc := 41) hC 3 dX10_need_41 rfl rfl ?_
          refine r_iconst (pc := 42) hC dX10_need_42 (rng_lit rfl) ?_
          refine r_aload_n (pc := 43) hC 0 dX10_need_43 rfl rfl ?_
          refine r_get (kd := 0) (v := (w.1 0 16)) (pc := 44) hC dX10_need_44 fl_RX10_203 lM_0 rfl rfl ?_
          refine r_ishl (pc := 47) hC dX10_need_47 ?_
          refine r_ic_ge (pc := 48) (tgt := 95) hC dX10_need_48 rfl (fun hc6 => ?_) (fun hc6 => ?_)
          · have h := h.1 hc6
            refine r_iload_n (pc := 95) hC 2 dX10_need_95 rfl rfl ?_
            refine r_ldcw (n := 268435456) (pc := 96) hC dX10_need_96 kc_RX10_395 (rng_lit rfl) ?_
            refine r_ic_ne (pc := 99) (tgt := 106) hC dX10_need_99 rfl (fun hc2 => ?_) (fun hc2 => ?_)
            · have h := h.1 hc2
              refine r_iload_n (pc := 106) hC 2 dX10_need_106 rfl rfl ?_
              refine r_bipush (pc := 107) hC dX10_need_107 ⟨rfl, rng_lit rfl⟩ ?_
              refine r_ic_ge (pc := 109) (tgt := 117) hC dX10_need_109 rfl (fun hc1 => ?_) (fun hc1 => ?_)
              · have h := h.1 hc1
                refine r_iload_n (pc := 117) hC 2 dX10_need_117 rfl rfl ?_
                refine r_conv (w2 := (wI (wI (wI (wA (wA (wA (wA w 28 m_worth_5) 29 m_length_6) 31 m_inSentence_7) 33 m_tooLike_8) 0 0 m_thrown_4) 0 42 m_areLaid_9) 0 43 m_areLikeLaid_10)) rfl ?_
                exact r_reti (pc := 118) (kd := 0) hC hQ dX10_need_118 hr hk (by decide) (Or.inl rfl) ⟨m_worth_5, m_length_6, m_inSentence_7, m_tooLike_8, m_thrown_4, m_areLaid_9, m_areLikeLaid_10, rfl, h⟩
              have h := h.2 hc1
              refine r_bipush (pc := 112) hC dX10_need_112 ⟨rfl, rng_lit rfl⟩ ?_
              refine r_goto (tgt := 118) (pc := 114) hC dX10_need_114 rfl ?_
              refine r_conv (w2 := (wI (wI (wI (wA (wA (wA (wA w 28 m_worth_5) 29 m_length_6) 31 m_inSentence_7) 33 m_tooLike_8) 0 0 m_thrown_4) 0 42 m_areLaid_9) 0 43 m_areLikeLaid_10)) rfl ?_
              exact r_reti (pc := 118) (kd := 0) hC hQ dX10_need_118 hr hk (by decide) (Or.inl rfl) ⟨m_worth_5, m_length_6, m_inSentence_7, m_tooLike_8, m_thrown_4, m_areLaid_9, m_areLikeLaid_10, rfl, h⟩
            have h := h.2 hc2
            refine r_iconst (pc := 102) hC dX10_need_102 (rng_lit rfl) ?_
            refine r_goto (tgt := 118) (pc := 103) hC dX10_need_103 rfl ?_
            refine r_conv (w2 := (wI (wI (wI (wA (wA (wA (wA w 28 m_worth_5) 29 m_length_6) 31 m_inSentence_7) 33 m_tooLike_8) 0 0 m_thrown_4) 0 42 m_areLaid_9) 0 43 m_areLikeLaid_10)) rfl ?_
            exact r_reti (pc := 118) (kd := 0) hC hQ dX10_need_118 hr hk (by decide) (Or.inl rfl) ⟨m_worth_5, m_length_6, m_inSentence_7, m_tooLike_8, m_thrown_4, m_areLaid_9, m_areLikeLaid_10, rfl, h⟩
          have h := h.2 hc6
          refine r_aload_n (pc := 51) hC 0 dX10_need_51 rfl rfl ?_
          refine r_getr (r := 28) (pc := 52) hC dX10_need_52 fl_RX10_97 lM_0 rfl ?_
          refine r_iload_n (pc := 55) hC 3 dX10_need_55 rfl rfl ?_
          refine r_iald (v := (m_worth_5 (Int.toNat x12))) (pc := 56) hC dX10_need_56 lM_28 h.1.1 h.1.2 rfl ?_
          have h := h.2
          refine r_iload_n (pc := 57) hC 1 dX10_need_57 rfl rfl ?_
          obtain ⟨J3, hJ3, h⟩ := h
          have S3 : ∀ (x13 : Int), J3 x13 → Wd p l e (rmD 3) s m args below meth c Q 0 0 4 D cA ad A LM (wI (wI (wI (wA (wA (wA (wA w 28 m_worth_5) 29 m_length_6) 31 m_inSentence_7) 33 m_tooLike_8) 0 0 m_thrown_4) 0 42 m_areLaid_9) 0 43 m_areLikeLaid_10) 89 [some (aR 0), some (aI a1), some (aI x13), some (aI x12)] [] := by
            intro x13 hj
            have h := hJ3 x13 hj
            refine r_iinc (ls2 := [some (aR 0), some (aI a1), some (aI x13), some (aI (x12 + 1))]) (pc := 89) hC dX10_need_89 rfl (by decide) rfl h.1 rfl ?_
            have h := h.2
            refine r_goto (tgt := 41) (pc := 92) hC dX10_need_92 rfl ?_
            exact r_to [true, true, true, true] rfl rfl (ih2 x13 (x12 + 1) (Nat.lt_of_lt_of_le h.2 (Nat.le_of_lt_succ hn2)) h.1)
          refine r_ic_lt (pc := 58) (tgt := 89) hC dX10_need_58 rfl (fun hc5 => ?_) (fun hc5 => ?_)
          · have h := h.1 hc5
            exact r_to [true, true, true, true] rfl rfl (S3 x11 h)
          have h := h.2 hc5
          refine r_aload_n (pc := 61) hC 0 dX10_need_61 rfl rfl ?_
          refine r_getr (r := 29) (pc := 62) hC dX10_need_62 fl_RX10_100 lM_0 rfl ?_
          refine r_iload_n (pc := 65) hC 3 dX10_need_65 rfl rfl ?_
          refine r_iald (v := (m_length_6 (Int.toNat x12))) (pc := 66) hC dX10_need_66 lM_29 h.1.1 h.1.2 rfl ?_
          have h := h.2
          refine r_iload_n (pc := 67) hC 2 dX10_need_67 rfl rfl ?_
          refine r_ic_ge (pc := 68) (tgt := 89) hC dX10_need_68 rfl (fun hc4 => ?_) (fun hc4 => ?_)
          · have h := h.1 hc4
            exact r_to [true, true, true, true] rfl rfl (S3 x11 h)
          have h := h.2 hc4
          refine r_aload_n (pc := 71) hC 0 dX10_need_71 rfl rfl ?_
          refine r_iload_n (pc := 72) hC 3 dX10_need_72 rfl rfl ?_
          refine r_sipush (pc := 73) hC dX10_need_73 ⟨rfl, rng_lit rfl⟩ ?_
          refine r_callVi (pc := 76) hC [aI x12, aI 700] [] dX10_need_76 ml_RX10_358 my_X10_mayBe mi_X10_mayBe lM_0 rfl rfl ⟨Nat.le_of_ble_eq_true rfl, Nat.le_of_ble_eq_true rfl⟩ ⟨Nat.le_of_ble_eq_true rfl, Nat.le_of_ble_eq_true rfl⟩ (Nat.le_of_ble_eq_true rfl) rfl (s_M_mayBe l _ _ _ _ h) (fun r14 w1 hq => ?_)
          obtain ⟨e9, h⟩ := hq
          rw [e9]
          refine r_if_eq (pc := 79) (tgt := 89) hC dX10_need_79 rfl (fun hc3 => ?_) (fun hc3 => ?_)
          · have h := h.1 hc3
            exact r_to [true, true, true, true] rfl rfl (S3 x11 h)
          have h := h.2 hc3
          refine r_aload_n (pc := 82) hC 0 dX10_need_82 rfl rfl ?_
          refine r_getr (r := 29) (pc := 83) hC dX10_need_83 fl_RX10_100 lM_0 rfl ?_
          refine r_iload_n (pc := 86) hC 3 dX10_need_86 rfl rfl ?_
          refine r_iald (v := (m_length_6 (Int.toNat x12))) (pc := 87) hC dX10_need_87 lM_29 h.1.1 h.1.2 rfl ?_
          have h := h.2
          refine r_istore_n (ls2 := [some (aR 0), some (aI a1), some (aI (m_length_6 (Int.toNat x12))), some (aI x12)]) (pc := 88) hC 2 dX10_need_88 rfl (by decide) rfl rfl ?_
          exact r_to [true, true, true, true] rfl rfl (S3 (m_length_6 (Int.toNat x12)) h)
      exact r_to [true, true, true, true] rfl rfl (S2 _ 268435456 1 (Nat.lt_succ_self _) hI2)
    have h := h.2 hc7
    refine r_iconst (pc := 29) hC dX10_need_29 (rng_lit rfl) ?_
    refine r_conv (w2 := (wI (wI (wI (wA (wA (wA (wA w 28 (w.1 28)) 29 (w.1 29)) 31 (w.1 31)) 33 (w.1 33)) 0 0 m_thrown_4) 0 42 (w.1 0 42)) 0 43 (w.1 0 43))) rfl ?_
    exact r_reti (pc := 30) (kd := 0) hC hQ dX10_need_30 hr hk (by decide) (Or.inl rfl) ⟨(w.1 28), (w.1 29), (w.1 31), (w.1 33), m_thrown_4, (w.1 0 42), (w.1 0 43), rfl, h⟩
  refine r_if_ne (pc := 14) (tgt := 21) hC dX10_need_14 rfl (fun hc8 => ?_) (fun hc8 => ?_)
  · have h := h.1 hc8
    refine r_iconst (pc := 21) hC dX10_need_21 (rng_lit rfl) ?_
    exact r_to [true, true, false, false] rfl rfl (S1 0 h)
  have h := h.2 hc8
  refine r_iconst (pc := 17) hC dX10_need_17 (rng_lit rfl) ?_
  refine r_goto (tgt := 22) (pc := 18) hC dX10_need_18 rfl ?_
  exact r_to [true, true, false, false] rfl rfl (S1 1 h)
def wp_M_loss (m_sentenceOf : (Nat → Int)) (m_likeOf : (Nat → Int)) (m_from : (Nat → Int)) (m_to : (Nat → Int)) (m_hasWord : (Nat → Int)) (m_weight : (Nat → Int)) (m_matchItem : (Nat → Int)) (m_matchFirst : (Nat → Int)) (m_worth : (Nat → Int)) (m_length : (Nat → Int)) (m_inSentence : (Nat → Int)) (m_tooLike : (Nat → Int)) (m_thrown : Int) (m_words : Int) (m_sentences : Int) (m_items : Int) (m_matches : Int) (m_areLaid : Int) (m_areLikeLaid : Int) (m_budget : Int) (m_mostOf : Int) (m_limit : Int) (a1 : Int) (Q : Int → (Nat → Int) → (Nat → Int) → (Nat → Int) → (Nat → Int) → Int → Int → Int → Prop) : Prop := wp_M_noSentence m_thrown m_sentences a1 (fun (r1 : Int) (m_thrown_2 : Int) => (r1 = 0 → wp_M_bestBut m_sentenceOf m_likeOf m_from m_to m_hasWord m_weight m_matchItem m_matchFirst m_worth m_length m_inSentence m_tooLike m_words m_sentences m_items m_matches m_areLaid m_areLikeLaid m_budget m_mostOf m_limit (iShl 1 a1) (fun (r3 : Int) (m_worth_4 : (Nat → Int)) (m_length_5 : (Nat → Int)) (m_inSentence_6 : (Nat → Int)) (m_tooLike_7 : (Nat → Int)) (m_areLaid_8 : Int) (m_areLikeLaid_9 : Int) => (0 ≤ r3 ∧ r3 < 16384) ∧ (wp_M_bestBut m_sentenceOf m_likeOf m_from m_to m_hasWord m_weight m_matchItem m_matchFirst m_worth_4 m_length_5 m_inSentence_6 m_tooLike_7 m_words m_sentences m_items m_matches m_areLaid_8 m_areLikeLaid_9 m_budget m_mostOf m_limit 0 (fun (r10 : Int) (m_worth_11 : (Nat → Int)) (m_length_12 : (Nat → Int)) (m_inSentence_13 : (Nat → Int)) (m_tooLike_14 : (Nat → Int)) (m_areLaid_15 : Int) (m_areLikeLaid_16 : Int) => (0 ≤ r10 ∧ r10 < 16384) ∧ ((rng ((m_worth_11 (Int.toNat r10)) - (m_worth_4 (Int.toNat r3)))) ∧ (Q ((m_worth_11 (Int.toNat r10)) - (m_worth_4 (Int.toNat r3))) m_worth_11 m_length_12 m_inSentence_13 m_tooLike_14 m_thrown_2 m_areLaid_15 m_areLikeLaid_16)))))) ∧ (¬ r1 = 0 → Q 0 m_worth m_length m_inSentence m_tooLike m_thrown_2 m_areLaid m_areLikeLaid))
set_option maxHeartbeats 4000000 in
set_option maxRecDepth 20000 in
theorem s_M_loss (l : Launch) (w : St) (a1 : Int) (P : Int → (Nat → Int) → (Nat → Int) → (Nat → Int) → (Nat → Int) → Int → Int → Int → Prop) (h : wp_M_loss (w.1 7) (w.1 8) (w.1 9) (w.1 10) (w.1 11) (w.1 12) (w.1 24) (w.1 25) (w.1 28) (w.1 29) (w.1 31) (w.1 33) (w.1 0 0) (w.1 0 12) (w.1 0 16) (w.1 0 29) (w.1 0 39) (w.1 0 42) (w.1 0 43) (w.1 0 50) (w.1 0 51) (w.1 0 52) a1 P) : Cn l yX10_loss cX10_loss 3 (some .int) 5 LM w [aR 0, aI a1] (okI (fun r w1 => ∃ (o0 : (Nat → Int)) (o1 : (Nat → Int)) (o2 : (Nat → Int)) (o3 : (Nat → Int)) (o4 : Int) (o5 : Int) (o6 : Int), w1 = (wI (wI (wI (wA (wA (wA (wA w 28 o0) 29 o1) 31 o2) 33 o3) 0 0 o4) 0 42 o5) 0 43 o6) ∧ P r o0 o1 o2 o3 o4 o5 o6)) := by
  unfold wp_M_loss at h
  refine Cn.of2 [some (aR 0), some (aI a1), none] (by decide) (Nat.le_of_ble_eq_true rfl) rfl (fun p e s m args below meth c D cA ad A Q hQ hC hr hk => ?_)
  refine r_aload_n (pc := 0) hC 0 dX10_loss_0 rfl rfl ?_
  refine r_iload_n (pc := 1) hC 1 dX10_loss_1 rfl rfl ?_
  refine r_callVi (pc := 2) hC [aI a1] [] dX10_loss_2 ml_RX10_340 my_X10_noSentence mi_X10_noSentence lM_0 rfl rfl ⟨Nat.le_of_ble_eq_true rfl, Nat.le_of_ble_eq_true rfl⟩ ⟨Nat.le_of_ble_eq_true rfl, Nat.le_of_ble_eq_true rfl⟩ (Nat.le_of_ble_eq_true rfl) rfl (s_M_noSentence l _ _ _ h) (fun r1 w1 hq => ?_)
  obtain ⟨m_thrown_2, e9, h⟩ := hq
  rw [e9]
  refine r_if_eq (pc := 5) (tgt := 10) hC dX10_loss_5 rfl (fun hc1 => ?_) (fun hc1 => ?_)
  · have h := h.1 hc1
    refine r_aload_n (pc := 10) hC 0 dX10_loss_10 rfl rfl ?_
    refine r_getr (r := 28) (pc := 11) hC dX10_loss_11 fl_RX10_97 lM_0 rfl ?_
    refine r_aload_n (pc := 14) hC 0 dX10_loss_14 rfl rfl ?_
    refine r_iconst (pc := 15) hC dX10_loss_15 (rng_lit rfl) ?_
    refine r_iload_n (pc := 16) hC 1 dX10_loss_16 rfl rfl ?_
    refine r_ishl (pc := 17) hC dX10_loss_17 ?_
    refine r_callVi (pc := 18) hC [aI (iShl 1 a1)] [aR 28] dX10_loss_18 ml_RX10_376 my_X10_bestBut mi_X10_bestBut lM_0 rfl rfl ⟨Nat.le_of_ble_eq_true rfl, Nat.le_of_ble_eq_true rfl⟩ ⟨Nat.le_of_ble_eq_true rfl, Nat.le_of_ble_eq_true rfl⟩ (Nat.le_of_ble_eq_true rfl) rfl (s_M_bestBut l _ _ _ h) (fun r3 w1 hq => ?_)
    obtain ⟨m_worth_4, m_length_5, m_inSentence_6, m_tooLike_7, m_areLaid_8, m_areLikeLaid_9, e9, h⟩ := hq
    rw [e9]
    refine r_iald (v := (m_worth_4 (Int.toNat r3))) (pc := 21) hC dX10_loss_21 lM_28 h.1.1 h.1.2 rfl ?_
    have h := h.2
    refine r_istore_n (ls2 := [some (aR 0), some (aI a1), some (aI (m_worth_4 (Int.toNat r3)))]) (pc := 22) hC 2 dX10_loss_22 rfl (by decide) rfl rfl ?_
    refine r_aload_n (pc := 23) hC 0 dX10_loss_23 rfl rfl ?_
    refine r_getr (r := 28) (pc := 24) hC dX10_loss_24 fl_RX10_97 lM_0 rfl ?_
    refine r_aload_n (pc := 27) hC 0 dX10_loss_27 rfl rfl ?_
    refine r_iconst (pc := 28) hC dX10_loss_28 (rng_lit rfl) ?_
    refine r_callVi (pc := 29) hC [aI 0] [aR 28] dX10_loss_29 ml_RX10_376 my_X10_bestBut mi_X10_bestBut lM_0 rfl rfl ⟨Nat.le_of_ble_eq_true rfl, Nat.le_of_ble_eq_true rfl⟩ ⟨Nat.le_of_ble_eq_true rfl, Nat.le_of_ble_eq_true rfl⟩ (Nat.le_of_ble_eq_true rfl) rfl (s_M_bestBut l _ _ _ h) (fun r10 w1 hq => ?_)
    obtain ⟨m_worth_11, m_length_12, m_inSentence_13, m_tooLike_14, m_areLaid_15, m_areLikeLaid_16, e9, h⟩ := hq
    rw [e9]
    refine r_iald (v := (m_worth_11 (Int.toNat r10))) (pc := 32) hC dX10_loss_32 lM_28 h.1.1 h.1.2 rfl ?_
    have h := h.2
    refine r_iload_n (pc := 33) hC 2 dX10_loss_33 rfl rfl ?_
    refine r_isub (pc := 34) hC dX10_loss_34 h.1 ?_
    have h := h.2
    refine r_conv (w2 := (wI (wI (wI (wA (wA (wA (wA w 28 m_worth_11) 29 m_length_12) 31 m_inSentence_13) 33 m_tooLike_14) 0 0 m_thrown_2) 0 42 m_areLaid_15) 0 43 m_areLikeLaid_16)) rfl ?_
    exact r_reti (pc := 35) (kd := 0) hC hQ dX10_loss_35 hr hk (by decide) (Or.inl rfl) ⟨m_worth_11, m_length_12, m_inSentence_13, m_tooLike_14, m_thrown_2, m_areLaid_15, m_areLikeLaid_16, rfl, h⟩
  have h := h.2 hc1
  refine r_iconst (pc := 8) hC dX10_loss_8 (rng_lit rfl) ?_
  refine r_conv (w2 := (wI (wI (wI (wA (wA (wA (wA w 28 (w.1 28)) 29 (w.1 29)) 31 (w.1 31)) 33 (w.1 33)) 0 0 m_thrown_2) 0 42 (w.1 0 42)) 0 43 (w.1 0 43))) rfl ?_
  exact r_reti (pc := 9) (kd := 0) hC hQ dX10_loss_9 hr hk (by decide) (Or.inl rfl) ⟨(w.1 28), (w.1 29), (w.1 31), (w.1 33), m_thrown_2, (w.1 0 42), (w.1 0 43), rfl, h⟩
def wp_M_variety (m_sentenceOf : (Nat → Int)) (m_likeOf : (Nat → Int)) (m_from : (Nat → Int)) (m_to : (Nat → Int)) (m_hasWord : (Nat → Int)) (m_weight : (Nat → Int)) (m_matchItem : (Nat → Int)) (m_matchFirst : (Nat → Int)) (m_worth : (Nat → Int)) (m_length : (Nat → Int)) (m_inSentence : (Nat → Int)) (m_tooLike : (Nat → Int)) (m_words : Int) (m_sentences : Int) (m_items : Int) (m_matches : Int) (m_areLaid : Int) (m_areLikeLaid : Int) (m_limit : Int) (Q : Int → (Nat → Int) → (Nat → Int) → (Nat → Int) → (Nat → Int) → Int → Int → Prop) : Prop := wp_M_laysLike m_sentenceOf m_likeOf m_from m_to m_hasWord m_weight m_matchItem m_matchFirst m_worth m_length m_inSentence m_tooLike m_words m_sentences m_items m_matches m_areLaid m_areLikeLaid m_limit (fun (m_worth_1 : (Nat → Int)) (m_length_2 : (Nat → Int)) (m_inSentence_3 : (Nat → Int)) (m_tooLike_4 : (Nat → Int)) (m_areLaid_5 : Int) (m_areLikeLaid_6 : Int) => lpw2 (fun (x7 : Int) (x8 : Int) (k1 : Int → Int → Prop) => ((iShl 1 m_sentences) ≤ x8 → Q x7 m_worth_1 m_length_2 m_inSentence_3 m_tooLike_4 m_areLaid_5 m_areLikeLaid_6) ∧ (¬ (iShl 1 m_sentences) ≤ x8 → wp_M_bits x8 (fun (r9 : Int) => wp_M_bits x7 (fun (r10 : Int) => jn1 (fun (J2 : Int → Prop) => (r9 ≤ r10 → J2 x7) ∧ (¬ r9 ≤ r10 → wp_M_areUnlike m_tooLike_4 m_sentences x8 (fun (r12 : Int) => (r12 = 0 → J2 x7) ∧ (¬ r12 = 0 → J2 x8)))) (fun (x11 : Int) => (rng (x8 + 1)) ∧ (k1 x11 (x8 + 1))))))) 0 1)
set_option maxHeartbeats 4000000 in
set_option maxRecDepth 20000 in
theorem s_M_variety (l : Launch) (w : St) (P : Int → (Nat → Int) → (Nat → Int) → (Nat → Int) → (Nat → Int) → Int → Int → Prop) (h : wp_M_variety (w.1 7) (w.1 8) (w.1 9) (w.1 10) (w.1 11) (w.1 12) (w.1 24) (w.1 25) (w.1 28) (w.1 29) (w.1 31) (w.1 33) (w.1 0 12) (w.1 0 16) (w.1 0 29) (w.1 0 39) (w.1 0 42) (w.1 0 43) (w.1 0 52) P) : Cn l yX10_variety cX10_variety 3 (some .int) 3 LM w [aR 0] (okI (fun r w1 => ∃ (o0 : (Nat → Int)) (o1 : (Nat → Int)) (o2 : (Nat → Int)) (o3 : (Nat → Int)) (o4 : Int) (o5 : Int), w1 = (wI (wI (wA (wA (wA (wA w 28 o0) 29 o1) 31 o2) 33 o3) 0 42 o4) 0 43 o5) ∧ P r o0 o1 o2 o3 o4 o5)) := by
  unfold wp_M_variety at h
  refine Cn.of2 [some (aR 0), none, none] (by decide) (Nat.le_of_ble_eq_true rfl) rfl (fun p e s m args below meth c D cA ad A Q hQ hC hr hk => ?_)
  refine r_aload_n (pc := 0) hC 0 dX10_variety_0 rfl rfl ?_
  refine r_callVv (pc := 1) hC [] [] dX10_variety_1 ml_RX10_364 my_X10_laysLike mi_X10_laysLike lM_0 rfl rfl ⟨Nat.le_of_ble_eq_true rfl, Nat.le_of_ble_eq_true rfl⟩ ⟨Nat.le_of_ble_eq_true rfl, Nat.le_of_ble_eq_true rfl⟩ (Nat.le_of_ble_eq_true rfl) rfl (s_M_laysLike l _ _ h) (fun w1 hq => ?_)
  obtain ⟨m_worth_1, m_length_2, m_inSentence_3, m_tooLike_4, m_areLaid_5, m_areLikeLaid_6, e9, h⟩ := hq
  rw [e9]
  refine r_iconst (pc := 4) hC dX10_variety_4 (rng_lit rfl) ?_
  refine r_istore_n (ls2 := [some (aR 0), some (aI 0), none]) (pc := 5) hC 1 dX10_variety_5 rfl (by decide) rfl rfl ?_
  refine r_iconst (pc := 6) hC dX10_variety_6 (rng_lit rfl) ?_
  refine r_istore_n (ls2 := [some (aR 0), some (aI 0), some (aI 1)]) (pc := 7) hC 2 dX10_variety_7 rfl (by decide) rfl rfl ?_
  obtain ⟨I1, μ1, hI1, hB1⟩ := h
  have S1 : ∀ (nn : Nat) (x7 : Int) (x8 : Int), μ1 x7 x8 < nn → I1 x7 x8 → Wd p l e (rmD 3) s m args below meth c Q 0 0 3 D cA ad A LM (wI (wI (wA (wA (wA (wA w 28 m_worth_1) 29 m_length_2) 31 m_inSentence_3) 33 m_tooLike_4) 0 42 m_areLaid_5) 0 43 m_areLikeLaid_6) 8 [some (aR 0), some (aI x7), some (aI x8)] [] := by
    intro nn
    induction nn with
    | zero => intro x7 x8 hn; exact absurd hn (Nat.not_lt_zero _)
    | succ nn ih1 =>
      intro x7 x8 hn1 hi
      have h := hB1 x7 x8 hi
      refine r_iload_n (pc := 8) hC 2 dX10_variety_8 rfl rfl ?_
      refine r_iconst (pc := 9) hC dX10_variety_9 (rng_lit rfl) ?_
      refine r_aload_n (pc := 10) hC 0 dX10_variety_10 rfl rfl ?_
      refine r_get (kd := 0) (v := (w.1 0 16)) (pc := 11) hC dX10_variety_11 fl_RX10_203 lM_0 rfl rfl ?_
      refine r_ishl (pc := 14) hC dX10_variety_14 ?_
      refine r_ic_ge (pc := 15) (tgt := 45) hC dX10_variety_15 rfl (fun hc3 => ?_) (fun hc3 => ?_)
      · have h := h.1 hc3
        refine r_iload_n (pc := 45) hC 1 dX10_variety_45 rfl rfl ?_
        refine r_conv (w2 := (wI (wI (wA (wA (wA (wA w 28 m_worth_1) 29 m_length_2) 31 m_inSentence_3) 33 m_tooLike_4) 0 42 m_areLaid_5) 0 43 m_areLikeLaid_6)) rfl ?_
        exact r_reti (pc := 46) (kd := 0) hC hQ dX10_variety_46 hr hk (by decide) (Or.inl rfl) ⟨m_worth_1, m_length_2, m_inSentence_3, m_tooLike_4, m_areLaid_5, m_areLikeLaid_6, rfl, h⟩
      have h := h.2 hc3
      refine r_iload_n (pc := 18) hC 2 dX10_variety_18 rfl rfl ?_
      refine r_callSi (pc := 19) hC [aI x8] [] dX10_variety_19 ml_RX10_319 my_X10_bits ms_X10_bits rfl ⟨Nat.le_of_ble_eq_true rfl, Nat.le_of_ble_eq_true rfl⟩ ⟨Nat.le_of_ble_eq_true rfl, Nat.le_of_ble_eq_true rfl⟩ (Nat.le_of_ble_eq_true rfl) rfl (s_M_bits l _ _ _ h) (fun r9 w1 hq => ?_)
      obtain ⟨e9, h⟩ := hq
      rw [e9]
      refine r_iload_n (pc := 22) hC 1 dX10_variety_22 rfl rfl ?_
      refine r_callSi (pc := 23) hC [aI x7] [aI r9] dX10_variety_23 ml_RX10_319 my_X10_bits ms_X10_bits rfl ⟨Nat.le_of_ble_eq_true rfl, Nat.le_of_ble_eq_true rfl⟩ ⟨Nat.le_of_ble_eq_true rfl, Nat.le_of_ble_eq_true rfl⟩ (Nat.le_of_ble_eq_true rfl) rfl (s_M_bits l _ _ _ h) (fun r10 w1 hq => ?_)
      obtain ⟨e9, h⟩ := hq
      rw [e9]
      obtain ⟨J2, hJ2, h⟩ := h
      have S2 : ∀ (x11 : Int), J2 x11 → Wd p l e (rmD 3) s m args below meth c Q 0 0 3 D cA ad A LM (wI (wI (wA (wA (wA (wA w 28 m_worth_1) 29 m_length_2) 31 m_inSentence_3) 33 m_tooLike_4) 0 42 m_areLaid_5) 0 43 m_areLikeLaid_6) 39 [some (aR 0), some (aI x11), some (aI x8)] [] := by
        intro x11 hj
        have h := hJ2 x11 hj
        refine r_iinc (ls2 := [some (aR 0), some (aI x11), some (aI (x8 + 1))]) (pc := 39) hC dX10_variety_39 rfl (by decide) rfl h.1 rfl ?_
        have h := h.2
        refine r_goto (tgt := 8) (pc := 42) hC dX10_variety_42 rfl ?_
        exact r_to [true, true, true] rfl rfl (ih1 x11 (x8 + 1) (Nat.lt_of_lt_of_le h.2 (Nat.le_of_lt_succ hn1)) h.1)
      refine r_ic_le (pc := 26) (tgt := 39) hC dX10_variety_26 rfl (fun hc2 => ?_) (fun hc2 => ?_)
      · have h := h.1 hc2
        exact r_to [true, true, true] rfl rfl (S2 x7 h)
      have h := h.2 hc2
      refine r_aload_n (pc := 29) hC 0 dX10_variety_29 rfl rfl ?_
      refine r_iload_n (pc := 30) hC 2 dX10_variety_30 rfl rfl ?_
      refine r_callVi (pc := 31) hC [aI x8] [] dX10_variety_31 ml_RX10_355 my_X10_areUnlike mi_X10_areUnlike lM_0 rfl rfl ⟨Nat.le_of_ble_eq_true rfl, Nat.le_of_ble_eq_true rfl⟩ ⟨Nat.le_of_ble_eq_true rfl, Nat.le_of_ble_eq_true rfl⟩ (Nat.le_of_ble_eq_true rfl) rfl (s_M_areUnlike l _ _ _ h) (fun r12 w1 hq => ?_)
      obtain ⟨e9, h⟩ := hq
      rw [e9]
      refine r_if_eq (pc := 34) (tgt := 39) hC dX10_variety_34 rfl (fun hc1 => ?_) (fun hc1 => ?_)
      · have h := h.1 hc1
        exact r_to [true, true, true] rfl rfl (S2 x7 h)
      have h := h.2 hc1
      refine r_iload_n (pc := 37) hC 2 dX10_variety_37 rfl rfl ?_
      refine r_istore_n (ls2 := [some (aR 0), some (aI x8), some (aI x8)]) (pc := 38) hC 1 dX10_variety_38 rfl (by decide) rfl rfl ?_
      exact r_to [true, true, true] rfl rfl (S2 x8 h)
  exact r_to [true, true, true] rfl rfl (S1 _ 0 1 (Nat.lt_succ_self _) hI1)
def wp_M_merit (m_sentenceOf : (Nat → Int)) (m_likeOf : (Nat → Int)) (m_from : (Nat → Int)) (m_to : (Nat → Int)) (m_hasWord : (Nat → Int)) (m_weight : (Nat → Int)) (m_matchItem : (Nat → Int)) (m_matchFirst : (Nat → Int)) (m_worth : (Nat → Int)) (m_length : (Nat → Int)) (m_inSentence : (Nat → Int)) (m_tooLike : (Nat → Int)) (m_step : (Nat → Int)) (m_words : Int) (m_sentences : Int) (m_items : Int) (m_matches : Int) (m_areLaid : Int) (m_areLikeLaid : Int) (m_budget : Int) (m_mostOf : Int) (m_limit : Int) (m_steps : Int) (Q : Int → (Nat → Int) → (Nat → Int) → (Nat → Int) → (Nat → Int) → (Nat → Int) → Int → Int → Int → Prop) : Prop := wp_M_bestBut m_sentenceOf m_likeOf m_from m_to m_hasWord m_weight m_matchItem m_matchFirst m_worth m_length m_inSentence m_tooLike m_words m_sentences m_items m_matches m_areLaid m_areLikeLaid m_budget m_mostOf m_limit 0 (fun (r1 : Int) (m_worth_2 : (Nat → Int)) (m_length_3 : (Nat → Int)) (m_inSentence_4 : (Nat → Int)) (m_tooLike_5 : (Nat → Int)) (m_areLaid_6 : Int) (m_areLikeLaid_7 : Int) => (0 ≤ r1 ∧ r1 < 16384) ∧ ((¬ (m_worth_2 (Int.toNat r1)) = 0 → wp_M_greedy m_sentenceOf m_likeOf m_from m_to m_hasWord m_weight m_matchItem m_matchFirst m_worth_2 m_length_3 m_inSentence_4 m_tooLike_5 m_step m_words m_sentences m_items m_matches m_areLaid_6 m_areLikeLaid_7 m_budget m_mostOf m_limit m_steps (fun (r8 : Int) (m_worth_9 : (Nat → Int)) (m_length_10 : (Nat → Int)) (m_inSentence_11 : (Nat → Int)) (m_tooLike_12 : (Nat → Int)) (m_step_13 : (Nat → Int)) (m_areLaid_14 : Int) (m_areLikeLaid_15 : Int) (m_steps_16 : Int) => (0 ≤ r8 ∧ r8 < 16384) ∧ ((rng (100 * (m_worth_9 (Int.toNat r8)))) ∧ (((m_worth_2 (Int.toNat r1)) ≠ 0 ∧ rng (Int.tdiv (100 * (m_worth_9 (Int.toNat r8))) (m_worth_2 (Int.toNat r1)))) ∧ (Q (Int.tdiv (100 * (m_worth_9 (Int.toNat r8))) (m_worth_2 (Int.toNat r1))) m_worth_9 m_length_10 m_inSentence_11 m_tooLike_12 m_step_13 m_areLaid_14 m_areLikeLaid_15 m_steps_16))))) ∧ ((m_worth_2 (Int.toNat r1)) = 0 → Q 100 m_worth_2 m_length_3 m_inSentence_4 m_tooLike_5 m_step m_areLaid_6 m_areLikeLaid_7 m_steps)))
set_option maxHeartbeats 4000000 in
set_option maxRecDepth 20000 in
theorem s_M_merit (l : Launch) (w : St) (P : Int → (Nat → Int) → (Nat → Int) → (Nat → Int) → (Nat → Int) → (Nat → Int) → Int → Int → Int → Prop) (h : wp_M_merit (w.1 7) (w.1 8) (w.1 9) (w.1 10) (w.1 11) (w.1 12) (w.1 24) (w.1 25) (w.1 28) (w.1 29) (w.1 31) (w.1 33) (w.1 34) (w.1 0 12) (w.1 0 16) (w.1 0 29) (w.1 0 39) (w.1 0 42) (w.1 0 43) (w.1 0 50) (w.1 0 51) (w.1 0 52) (w.1 0 56) P) : Cn l yX10_merit cX10_merit 2 (some .int) 7 LM w [aR 0] (okI (fun r w1 => ∃ (o0 : (Nat → Int)) (o1 : (Nat → Int)) (o2 : (Nat → Int)) (o3 : (Nat → Int)) (o4 : (Nat → Int)) (o5 : Int) (o6 : Int) (o7 : Int), w1 = (wI (wI (wI (wA (wA (wA (wA (wA w 28 o0) 29 o1) 31 o2) 33 o3) 34 o4) 0 42 o5) 0 43 o6) 0 56 o7) ∧ P r o0 o1 o2 o3 o4 o5 o6 o7)) := by
  unfold wp_M_merit at h
  refine Cn.of2 [some (aR 0), none] (by decide) (Nat.le_of_ble_eq_true rfl) rfl (fun p e s m args below meth c D cA ad A Q hQ hC hr hk => ?_)
  refine r_aload_n (pc := 0) hC 0 dX10_merit_0 rfl rfl ?_
  refine r_getr (r := 28) (pc := 1) hC dX10_merit_1 fl_RX10_97 lM_0 rfl ?_
  refine r_aload_n (pc := 4) hC 0 dX10_merit_4 rfl rfl ?_
  refine r_iconst (pc := 5) hC dX10_merit_5 (rng_lit rfl) ?_
  refine r_callVi (pc := 6) hC [aI 0] [aR 28] dX10_merit_6 ml_RX10_376 my_X10_bestBut mi_X10_bestBut lM_0 rfl rfl ⟨Nat.le_of_ble_eq_true rfl, Nat.le_of_ble_eq_true rfl⟩ ⟨Nat.le_of_ble_eq_true rfl, Nat.le_of_ble_eq_true rfl⟩ (Nat.le_of_ble_eq_true rfl) rfl (s_M_bestBut l _ _ _ h) (fun r1 w1 hq => ?_)
  obtain ⟨m_worth_2, m_length_3, m_inSentence_4, m_tooLike_5, m_areLaid_6, m_areLikeLaid_7, e9, h⟩ := hq
  rw [e9]
  refine r_iald (v := (m_worth_2 (Int.toNat r1))) (pc := 9) hC dX10_merit_9 lM_28 h.1.1 h.1.2 rfl ?_
  have h := h.2
  refine r_istore_n (ls2 := [some (aR 0), some (aI (m_worth_2 (Int.toNat r1)))]) (pc := 10) hC 1 dX10_merit_10 rfl (by decide) rfl rfl ?_
  refine r_iload_n (pc := 11) hC 1 dX10_merit_11 rfl rfl ?_
  refine r_if_ne (pc := 12) (tgt := 20) hC dX10_merit_12 rfl (fun hc1 => ?_) (fun hc1 => ?_)
  · have h := h.1 hc1
    refine r_bipush (pc := 20) hC dX10_merit_20 ⟨rfl, rng_lit rfl⟩ ?_
    refine r_aload_n (pc := 22) hC 0 dX10_merit_22 rfl rfl ?_
    refine r_getr (r := 28) (pc := 23) hC dX10_merit_23 fl_RX10_97 lM_0 rfl ?_
    refine r_aload_n (pc := 26) hC 0 dX10_merit_26 rfl rfl ?_
    refine r_callVi (pc := 27) hC [] [aR 28, aI 100] dX10_merit_27 ml_RX10_379 my_X10_greedy mi_X10_greedy lM_0 rfl rfl ⟨Nat.le_of_ble_eq_true rfl, Nat.le_of_ble_eq_true rfl⟩ ⟨Nat.le_of_ble_eq_true rfl, Nat.le_of_ble_eq_true rfl⟩ (Nat.le_of_ble_eq_true rfl) rfl (s_M_greedy l _ _ h) (fun r8 w1 hq => ?_)
    obtain ⟨m_worth_9, m_length_10, m_inSentence_11, m_tooLike_12, m_step_13, m_areLaid_14, m_areLikeLaid_15, m_steps_16, e9, h⟩ := hq
    rw [e9]
    refine r_iald (v := (m_worth_9 (Int.toNat r8))) (pc := 30) hC dX10_merit_30 lM_28 h.1.1 h.1.2 rfl ?_
    have h := h.2
    refine r_imul (pc := 31) hC dX10_merit_31 h.1 ?_
    have h := h.2
    refine r_iload_n (pc := 32) hC 1 dX10_merit_32 rfl rfl ?_
    refine r_idiv (pc := 33) hC dX10_merit_33 h.1.1 h.1.2 ?_
    have h := h.2
    refine r_conv (w2 := (wI (wI (wI (wA (wA (wA (wA (wA w 28 m_worth_9) 29 m_length_10) 31 m_inSentence_11) 33 m_tooLike_12) 34 m_step_13) 0 42 m_areLaid_14) 0 43 m_areLikeLaid_15) 0 56 m_steps_16)) rfl ?_
    exact r_reti (pc := 34) (kd := 0) hC hQ dX10_merit_34 hr hk (by decide) (Or.inl rfl) ⟨m_worth_9, m_length_10, m_inSentence_11, m_tooLike_12, m_step_13, m_areLaid_14, m_areLikeLaid_15, m_steps_16, rfl, h⟩
  have h := h.2 hc1
  refine r_bipush (pc := 15) hC dX10_merit_15 ⟨rfl, rng_lit rfl⟩ ?_
  refine r_goto (tgt := 34) (pc := 17) hC dX10_merit_17 rfl ?_
  refine r_conv (w2 := (wI (wI (wI (wA (wA (wA (wA (wA w 28 m_worth_2) 29 m_length_3) 31 m_inSentence_4) 33 m_tooLike_5) 34 (w.1 34)) 0 42 m_areLaid_6) 0 43 m_areLikeLaid_7) 0 56 (w.1 0 56))) rfl ?_
  exact r_reti (pc := 34) (kd := 0) hC hQ dX10_merit_34 hr hk (by decide) (Or.inl rfl) ⟨m_worth_2, m_length_3, m_inSentence_4, m_tooLike_5, (w.1 34), m_areLaid_6, m_areLikeLaid_7, (w.1 0 56), rfl, h⟩
def wp_M_puts (m_out : (Nat → Int)) (m_outMany : Int) (a1 : Int) (Q : (Nat → Int) → Int → Prop) : Prop := ((0 ≤ m_outMany ∧ m_outMany < 9000) ∧ -128 ≤ (i2b a1) ∧ (i2b a1) < 128) ∧ ((rng (m_outMany + 1)) ∧ (Q (uI m_out m_outMany (i2b a1)) (m_outMany + 1)))
set_option maxHeartbeats 4000000 in
set_option maxRecDepth 20000 in
theorem s_M_puts (l : Launch) (w : St) (a1 : Int) (P : (Nat → Int) → Int → Prop) (h : wp_M_puts (w.1 35) (w.1 0 60) a1 P) : Cn l yX10_puts cX10_puts 2 none 0 LM w [aR 0, aI a1] (okV (fun w1 => ∃ (o0 : (Nat → Int)) (o1 : Int), w1 = (wI (wA w 35 o0) 0 60 o1) ∧ P o0 o1)) := by
  unfold wp_M_puts at h
  refine Cn.of2 [some (aR 0), some (aI a1)] (by decide) (Nat.le_of_ble_eq_true rfl) rfl (fun p e s m args below meth c D cA ad A Q hQ hC hr hk => ?_)
  refine r_aload_n (pc := 0) hC 0 dX10_puts_0 rfl rfl ?_
  refine r_getr (r := 35) (pc := 1) hC dX10_puts_1 fl_RX10_127 lM_0 rfl ?_
  refine r_aload_n (pc := 4) hC 0 dX10_puts_4 rfl rfl ?_
  refine r_get (kd := 0) (v := (w.1 0 60)) (pc := 5) hC dX10_puts_5 fl_RX10_396 lM_0 rfl rfl ?_
  refine r_iload_n (pc := 8) hC 1 dX10_puts_8 rfl rfl ?_
  refine r_i2b (pc := 9) hC dX10_puts_9 ?_
  refine r_bast (pc := 10) hC dX10_puts_10 lM_35 h.1.1.1 h.1.1.2 h.1.2 ?_
  have h := h.2
  refine r_aload_n (pc := 11) hC 0 dX10_puts_11 rfl rfl ?_
  refine r_dup (pc := 12) hC dX10_puts_12 rfl ?_
  refine r_get (kd := 0) (v := (w.1 0 60)) (pc := 13) hC dX10_puts_13 fl_RX10_396 lM_0 rfl rfl ?_
  refine r_iconst (pc := 16) hC dX10_puts_16 (rng_lit rfl) ?_
  refine r_iadd (pc := 17) hC dX10_puts_17 h.1 ?_
  have h := h.2
  refine r_put (kd := 0) (pc := 18) hC dX10_puts_18 pl_RX10_396 lM_0 rfl (by decide) (Or.inl rfl) ?_
  refine r_conv (w2 := (wI (wA w 35 (uI (w.1 35) (w.1 0 60) (i2b a1))) 0 60 ((w.1 0 60) + 1))) rfl ?_
  exact r_retv (pc := 21) hC hQ dX10_puts_21 hr hk ⟨(uI (w.1 35) (w.1 0 60) (i2b a1)), ((w.1 0 60) + 1), rfl, h⟩
def wp_M_says (m_out : (Nat → Int)) (m_outMany : Int) (a1 : Nat) (Q : (Nat → Int) → Int → Prop) : Prop := lpw3 (fun (m_out_1 : (Nat → Int)) (m_outMany_2 : Int) (x3 : Int) (k1 : (Nat → Int) → Int → Int → Prop) => (a1 < 37) ∧ (((sLen a1) ≤ x3 → Q m_out_1 m_outMany_2) ∧ (¬ (sLen a1) ≤ x3 → (a1 < 37 ∧ 0 ≤ x3 ∧ x3 < sLen a1) ∧ (wp_M_puts m_out_1 m_outMany_2 (sAt a1 x3) (fun (m_out_4 : (Nat → Int)) (m_outMany_5 : Int) => (rng (x3 + 1)) ∧ (k1 m_out_4 m_outMany_5 (x3 + 1))))))) m_out m_outMany 0
set_option maxHeartbeats 4000000 in
set_option maxRecDepth 20000 in
theorem s_M_says (l : Launch) (w : St) (a1 : Nat) (P : (Nat → Int) → Int → Prop) (h : wp_M_says (w.1 35) (w.1 0 60) a1 P) : Cn l yX10_says cX10_says 3 none 4 LM w [aR 0, aR (10000 + a1)] (okV (fun w1 => ∃ (o0 : (Nat → Int)) (o1 : Int), w1 = (wI (wA w 35 o0) 0 60 o1) ∧ P o0 o1)) := by
  unfold wp_M_says at h
  refine Cn.of2 [some (aR 0), some (aR (10000 + a1)), none] (by decide) (Nat.le_of_ble_eq_true rfl) rfl (fun p e s m args below meth c D cA ad A Q hQ hC hr hk => ?_)
  refine r_iconst (pc := 0) hC dX10_says_0 (rng_lit rfl) ?_
  refine r_istore_n (ls2 := [some (aR 0), some (aR (10000 + a1)), some (aI 0)]) (pc := 1) hC 2 dX10_says_1 rfl (by decide) rfl rfl ?_
  obtain ⟨I1, μ1, hI1, hB1⟩ := h
  have S1 : ∀ (nn : Nat) (m_out_1 : (Nat → Int)) (m_outMany_2 : Int) (x3 : Int), μ1 m_out_1 m_outMany_2 x3 < nn → I1 m_out_1 m_outMany_2 x3 → Wd p l e (rmD 4) s m args below meth c Q 0 0 3 D cA ad A LM (wI (wA w 35 m_out_1) 0 60 m_outMany_2) 2 [some (aR 0), some (aR (10000 + a1)), some (aI x3)] [] := by
    intro nn
    induction nn with
    | zero => intro m_out_1 m_outMany_2 x3 hn; exact absurd hn (Nat.not_lt_zero _)
    | succ nn ih1 =>
      intro m_out_1 m_outMany_2 x3 hn1 hi
      have h := hB1 m_out_1 m_outMany_2 x3 hi
      refine r_iload_n (pc := 2) hC 2 dX10_says_2 rfl rfl ?_
      refine r_aload_n (pc := 3) hC 1 dX10_says_3 rfl rfl ?_
      refine r_slen (pc := 4) hC dX10_says_4 ml_RX10_239 h.1 ⟨Nat.le_of_ble_eq_true rfl, Nat.le_of_ble_eq_true rfl⟩ ⟨Nat.le_of_ble_eq_true rfl, Nat.le_of_ble_eq_true rfl⟩ (Nat.le_of_ble_eq_true rfl) ?_
      have h := h.2
      refine r_ic_ge (pc := 7) (tgt := 25) hC dX10_says_7 rfl (fun hc1 => ?_) (fun hc1 => ?_)
      · have h := h.1 hc1
        refine r_conv (w2 := (wI (wA w 35 m_out_1) 0 60 m_outMany_2)) rfl ?_
        exact r_retv (pc := 25) hC hQ dX10_says_25 hr hk ⟨m_out_1, m_outMany_2, rfl, h⟩
      have h := h.2 hc1
      refine r_aload_n (pc := 10) hC 0 dX10_says_10 rfl rfl ?_
      refine r_aload_n (pc := 11) hC 1 dX10_says_11 rfl rfl ?_
      refine r_iload_n (pc := 12) hC 2 dX10_says_12 rfl rfl ?_
      refine r_sat (pc := 13) hC dX10_says_13 ml_RX10_244 h.1.1 h.1.2.1 h.1.2.2 ⟨Nat.le_of_ble_eq_true rfl, Nat.le_of_ble_eq_true rfl⟩ ⟨Nat.le_of_ble_eq_true rfl, Nat.le_of_ble_eq_true rfl⟩ (Nat.le_of_ble_eq_true rfl) ?_
      have h := h.2
      refine r_callVv (pc := 16) hC [aI (sAt a1 x3)] [] dX10_says_16 ml_RX10_399 my_X10_puts mi_X10_puts lM_0 rfl rfl ⟨Nat.le_of_ble_eq_true rfl, Nat.le_of_ble_eq_true rfl⟩ ⟨Nat.le_of_ble_eq_true rfl, Nat.le_of_ble_eq_true rfl⟩ (Nat.le_of_ble_eq_true rfl) rfl (s_M_puts l _ _ _ h) (fun w1 hq => ?_)
      obtain ⟨m_out_4, m_outMany_5, e9, h⟩ := hq
      rw [e9]
      refine r_iinc (ls2 := [some (aR 0), some (aR (10000 + a1)), some (aI (x3 + 1))]) (pc := 19) hC dX10_says_19 rfl (by decide) rfl h.1 rfl ?_
      have h := h.2
      refine r_goto (tgt := 2) (pc := 22) hC dX10_says_22 rfl ?_
      exact r_to [true, true, true] rfl rfl (ih1 m_out_4 m_outMany_5 (x3 + 1) (Nat.lt_of_lt_of_le h.2 (Nat.le_of_lt_succ hn1)) h.1)
  exact r_to [true, true, true] rfl rfl (S1 _ (w.1 35) (w.1 0 60) 0 (Nat.lt_succ_self _) hI1)
def wp_M_spells (m_page : (Nat → Int)) (m_signAt : (Nat → Int)) (m_out : (Nat → Int)) (m_signs : Int) (m_outMany : Int) (a1 : Int) (Q : (Nat → Int) → Int → Prop) : Prop := wp_M_plain m_page m_signAt m_signs a1 (fun (r1 : Int) => (¬ r1 = 60 → (¬ r1 = 62 → (¬ r1 = 38 → (¬ r1 = 34 → (0 ≤ a1 ∧ a1 < 601) ∧ (lpw3 (fun (m_out_2 : (Nat → Int)) (m_outMany_3 : Int) (x4 : Int) (k1 : (Nat → Int) → Int → Int → Prop) => (rng (a1 + 1)) ∧ ((0 ≤ (a1 + 1) ∧ (a1 + 1) < 601) ∧ (((m_signAt (Int.toNat (a1 + 1))) ≤ x4 → Q m_out_2 m_outMany_3) ∧ (¬ (m_signAt (Int.toNat (a1 + 1))) ≤ x4 → (0 ≤ x4 ∧ x4 < 600) ∧ (wp_M_puts m_out_2 m_outMany_3 (m_page (Int.toNat x4)) (fun (m_out_5 : (Nat → Int)) (m_outMany_6 : Int) => (rng (x4 + 1)) ∧ (k1 m_out_5 m_outMany_6 (x4 + 1)))))))) m_out m_outMany (m_signAt (Int.toNat a1)))) ∧ (r1 = 34 → wp_M_says m_out m_outMany 36 (fun (m_out_7 : (Nat → Int)) (m_outMany_8 : Int) => Q m_out_7 m_outMany_8))) ∧ (r1 = 38 → wp_M_says m_out m_outMany 35 (fun (m_out_9 : (Nat → Int)) (m_outMany_10 : Int) => Q m_out_9 m_outMany_10))) ∧ (r1 = 62 → wp_M_says m_out m_outMany 34 (fun (m_out_11 : (Nat → Int)) (m_outMany_12 : Int) => Q m_out_11 m_outMany_12))) ∧ (r1 = 60 → wp_M_says m_out m_outMany 33 (fun (m_out_13 : (Nat → Int)) (m_outMany_14 : Int) => Q m_out_13 m_outMany_14)))
set_option maxHeartbeats 4000000 in
set_option maxRecDepth 20000 in
theorem s_M_spells (l : Launch) (w : St) (a1 : Int) (P : (Nat → Int) → Int → Prop) (h : wp_M_spells (w.1 3) (w.1 4) (w.1 35) (w.1 0 7) (w.1 0 60) a1 P) : Cn l yX10_spells cX10_spells 4 none 5 LM w [aR 0, aI a1] (okV (fun w1 => ∃ (o0 : (Nat → Int)) (o1 : Int), w1 = (wI (wA w 35 o0) 0 60 o1) ∧ P o0 o1)) := by
  unfold wp_M_spells at h
  refine Cn.of2 [some (aR 0), some (aI a1), none, none] (by decide) (Nat.le_of_ble_eq_true rfl) rfl (fun p e s m args below meth c D cA ad A Q hQ hC hr hk => ?_)
  refine r_aload_n (pc := 0) hC 0 dX10_spells_0 rfl rfl ?_
  refine r_iload_n (pc := 1) hC 1 dX10_spells_1 rfl rfl ?_
  refine r_callVi (pc := 2) hC [aI a1] [] dX10_spells_2 ml_RX10_166 my_X10_plain mi_X10_plain lM_0 rfl rfl ⟨Nat.le_of_ble_eq_true rfl, Nat.le_of_ble_eq_true rfl⟩ ⟨Nat.le_of_ble_eq_true rfl, Nat.le_of_ble_eq_true rfl⟩ (Nat.le_of_ble_eq_true rfl) rfl (s_M_plain l _ _ _ h) (fun r1 w1 hq => ?_)
  obtain ⟨e9, h⟩ := hq
  rw [e9]
  refine r_istore_n (ls2 := [some (aR 0), some (aI a1), some (aI r1), none]) (pc := 5) hC 2 dX10_spells_5 rfl (by decide) rfl rfl ?_
  refine r_iload_n (pc := 6) hC 2 dX10_spells_6 rfl rfl ?_
  refine r_bipush (pc := 7) hC dX10_spells_7 ⟨rfl, rng_lit rfl⟩ ?_
  refine r_ic_ne (pc := 9) (tgt := 22) hC dX10_spells_9 rfl (fun hc5 => ?_) (fun hc5 => ?_)
  · have h := h.1 hc5
    refine r_iload_n (pc := 22) hC 2 dX10_spells_22 rfl rfl ?_
    refine r_bipush (pc := 23) hC dX10_spells_23 ⟨rfl, rng_lit rfl⟩ ?_
    refine r_ic_ne (pc := 25) (tgt := 38) hC dX10_spells_25 rfl (fun hc4 => ?_) (fun hc4 => ?_)
    · have h := h.1 hc4
      refine r_iload_n (pc := 38) hC 2 dX10_spells_38 rfl rfl ?_
      refine r_bipush (pc := 39) hC dX10_spells_39 ⟨rfl, rng_lit rfl⟩ ?_
      refine r_ic_ne (pc := 41) (tgt := 54) hC dX10_spells_41 rfl (fun hc3 => ?_) (fun hc3 => ?_)
      · have h := h.1 hc3
        refine r_iload_n (pc := 54) hC 2 dX10_spells_54 rfl rfl ?_
        refine r_bipush (pc := 55) hC dX10_spells_55 ⟨rfl, rng_lit rfl⟩ ?_
        refine r_ic_ne (pc := 57) (tgt := 70) hC dX10_spells_57 rfl (fun hc2 => ?_) (fun hc2 => ?_)
        · have h := h.1 hc2
          refine r_aload_n (pc := 70) hC 0 dX10_spells_70 rfl rfl ?_
          refine r_getr (r := 4) (pc := 71) hC dX10_spells_71 fl_RX10_20 lM_0 rfl ?_
          refine r_iload_n (pc := 74) hC 1 dX10_spells_74 rfl rfl ?_
          refine r_iald (v := ((w.1 4) (Int.toNat a1))) (pc := 75) hC dX10_spells_75 lM_4 h.1.1 h.1.2 rfl ?_
          have h := h.2
          refine r_istore_n (ls2 := [some (aR 0), some (aI a1), some (aI r1), some (aI ((w.1 4) (Int.toNat a1)))]) (pc := 76) hC 3 dX10_spells_76 rfl (by decide) rfl rfl ?_
          obtain ⟨I1, μ1, hI1, hB1⟩ := h
          have S1 : ∀ (nn : Nat) (m_out_2 : (Nat → Int)) (m_outMany_3 : Int) (x4 : Int), μ1 m_out_2 m_outMany_3 x4 < nn → I1 m_out_2 m_outMany_3 x4 → Wd p l e (rmD 5) s m args below meth c Q 0 0 4 D cA ad A LM (wI (wA w 35 m_out_2) 0 60 m_outMany_3) 77 [some (aR 0), some (aI a1), none, some (aI x4)] [] := by
            intro nn
            induction nn with
            | zero => intro m_out_2 m_outMany_3 x4 hn; exact absurd hn (Nat.not_lt_zero _)
            | succ nn ih1 =>
              intro m_out_2 m_outMany_3 x4 hn1 hi
              have h := hB1 m_out_2 m_outMany_3 x4 hi
              refine r_iload_n (pc := 77) hC 3 dX10_spells_77 rfl rfl ?_
              refine r_aload_n (pc := 78) hC 0 dX10_spells_78 rfl rfl ?_
              refine r_getr (r := 4) (pc := 79) hC dX10_spells_79 fl_RX10_20 lM_0 rfl ?_
              refine r_iload_n (pc := 82) hC 1 dX10_spells_82 rfl rfl ?_
              refine r_iconst (pc := 83) hC dX10_spells_83 (rng_lit rfl) ?_
              refine r_iadd (pc := 84) hC dX10_spells_84 h.1 ?_
              have h := h.2
              refine r_iald (v := ((w.1 4) (Int.toNat (a1 + 1)))) (pc := 85) hC dX10_spells_85 lM_4 h.1.1 h.1.2 rfl ?_
              have h := h.2
              refine r_ic_ge (pc := 86) (tgt := 105) hC dX10_spells_86 rfl (fun hc1 => ?_) (fun hc1 => ?_)
              · have h := h.1 hc1
                refine r_conv (w2 := (wI (wA w 35 m_out_2) 0 60 m_outMany_3)) rfl ?_
                exact r_retv (pc := 105) hC hQ dX10_spells_105 hr hk ⟨m_out_2, m_outMany_3, rfl, h⟩
              have h := h.2 hc1
              refine r_aload_n (pc := 89) hC 0 dX10_spells_89 rfl rfl ?_
              refine r_aload_n (pc := 90) hC 0 dX10_spells_90 rfl rfl ?_
              refine r_getr (r := 3) (pc := 91) hC dX10_spells_91 fl_RX10_17 lM_0 rfl ?_
              refine r_iload_n (pc := 94) hC 3 dX10_spells_94 rfl rfl ?_
              refine r_iald (v := ((w.1 3) (Int.toNat x4))) (pc := 95) hC dX10_spells_95 lM_3 h.1.1 h.1.2 rfl ?_
              have h := h.2
              refine r_callVv (pc := 96) hC [aI ((w.1 3) (Int.toNat x4))] [] dX10_spells_96 ml_RX10_399 my_X10_puts mi_X10_puts lM_0 rfl rfl ⟨Nat.le_of_ble_eq_true rfl, Nat.le_of_ble_eq_true rfl⟩ ⟨Nat.le_of_ble_eq_true rfl, Nat.le_of_ble_eq_true rfl⟩ (Nat.le_of_ble_eq_true rfl) rfl (s_M_puts l _ _ _ h) (fun w1 hq => ?_)
              obtain ⟨m_out_5, m_outMany_6, e9, h⟩ := hq
              rw [e9]
              refine r_iinc (ls2 := [some (aR 0), some (aI a1), none, some (aI (x4 + 1))]) (pc := 99) hC dX10_spells_99 rfl (by decide) rfl h.1 rfl ?_
              have h := h.2
              refine r_goto (tgt := 77) (pc := 102) hC dX10_spells_102 rfl ?_
              exact r_to [true, true, false, true] rfl rfl (ih1 m_out_5 m_outMany_6 (x4 + 1) (Nat.lt_of_lt_of_le h.2 (Nat.le_of_lt_succ hn1)) h.1)
          exact r_to [true, true, false, true] rfl rfl (S1 _ (w.1 35) (w.1 0 60) ((w.1 4) (Int.toNat a1)) (Nat.lt_succ_self _) hI1)
        have h := h.2 hc2
        refine r_aload_n (pc := 60) hC 0 dX10_spells_60 rfl rfl ?_
        refine r_ldcsw (j := 36) (pc := 61) hC dX10_spells_61 rfl ⟨rfl, rfl⟩ ?_
        refine r_callVv (pc := 64) hC [aR (10000 + 36)] [] dX10_spells_64 ml_RX10_405 my_X10_says mi_X10_says lM_0 rfl rfl ⟨Nat.le_of_ble_eq_true rfl, Nat.le_of_ble_eq_true rfl⟩ ⟨Nat.le_of_ble_eq_true rfl, Nat.le_of_ble_eq_true rfl⟩ (Nat.le_of_ble_eq_true rfl) rfl (s_M_says l _ _ _ h) (fun w1 hq => ?_)
        obtain ⟨m_out_7, m_outMany_8, e9, h⟩ := hq
        rw [e9]
        refine r_goto (tgt := 105) (pc := 67) hC dX10_spells_67 rfl ?_
        refine r_conv (w2 := (wI (wA w 35 m_out_7) 0 60 m_outMany_8)) rfl ?_
        exact r_retv (pc := 105) hC hQ dX10_spells_105 hr hk ⟨m_out_7, m_outMany_8, rfl, h⟩
      have h := h.2 hc3
      refine r_aload_n (pc := 44) hC 0 dX10_spells_44 rfl rfl ?_
      refine r_ldcsw (j := 35) (pc := 45) hC dX10_spells_45 rfl ⟨rfl, rfl⟩ ?_
      refine r_callVv (pc := 48) hC [aR (10000 + 35)] [] dX10_spells_48 ml_RX10_405 my_X10_says mi_X10_says lM_0 rfl rfl ⟨Nat.le_of_ble_eq_true rfl, Nat.le_of_ble_eq_true rfl⟩ ⟨Nat.le_of_ble_eq_true rfl, Nat.le_of_ble_eq_true rfl⟩ (Nat.le_of_ble_eq_true rfl) rfl (s_M_says l _ _ _ h) (fun w1 hq => ?_)
      obtain ⟨m_out_9, m_outMany_10, e9, h⟩ := hq
      rw [e9]
      refine r_goto (tgt := 105) (pc := 51) hC dX10_spells_51 rfl ?_
      refine r_conv (w2 := (wI (wA w 35 m_out_9) 0 60 m_outMany_10)) rfl ?_
      exact r_retv (pc := 105) hC hQ dX10_spells_105 hr hk ⟨m_out_9, m_outMany_10, rfl, h⟩
    have h := h.2 hc4
    refine r_aload_n (pc := 28) hC 0 dX10_spells_28 rfl rfl ?_
    refine r_ldcsw (j := 34) (pc := 29) hC dX10_spells_29 rfl ⟨rfl, rfl⟩ ?_
    refine r_callVv (pc := 32) hC [aR (10000 + 34)] [] dX10_spells_32 ml_RX10_405 my_X10_says mi_X10_says lM_0 rfl rfl ⟨Nat.le_of_ble_eq_true rfl, Nat.le_of_ble_eq_true rfl⟩ ⟨Nat.le_of_ble_eq_true rfl, Nat.le_of_ble_eq_true rfl⟩ (Nat.le_of_ble_eq_true rfl) rfl (s_M_says l _ _ _ h) (fun w1 hq => ?_)
    obtain ⟨m_out_11, m_outMany_12, e9, h⟩ := hq
    rw [e9]
    refine r_goto (tgt := 105) (pc := 35) hC dX10_spells_35 rfl ?_
    refine r_conv (w2 := (wI (wA w 35 m_out_11) 0 60 m_outMany_12)) rfl ?_
    exact r_retv (pc := 105) hC hQ dX10_spells_105 hr hk ⟨m_out_11, m_outMany_12, rfl, h⟩
  have h := h.2 hc5
  refine r_aload_n (pc := 12) hC 0 dX10_spells_12 rfl rfl ?_
  refine r_ldcsw (j := 33) (pc := 13) hC dX10_spells_13 rfl ⟨rfl, rfl⟩ ?_
  refine r_callVv (pc := 16) hC [aR (10000 + 33)] [] dX10_spells_16 ml_RX10_405 my_X10_says mi_X10_says lM_0 rfl rfl ⟨Nat.le_of_ble_eq_true rfl, Nat.le_of_ble_eq_true rfl⟩ ⟨Nat.le_of_ble_eq_true rfl, Nat.le_of_ble_eq_true rfl⟩ (Nat.le_of_ble_eq_true rfl) rfl (s_M_says l _ _ _ h) (fun w1 hq => ?_)
  obtain ⟨m_out_13, m_outMany_14, e9, h⟩ := hq
  rw [e9]
  refine r_goto (tgt := 105) (pc := 19) hC dX10_spells_19 rfl ?_
  refine r_conv (w2 := (wI (wA w 35 m_out_13) 0 60 m_outMany_14)) rfl ?_
  exact r_retv (pc := 105) hC hQ dX10_spells_105 hr hk ⟨m_out_13, m_outMany_14, rfl, h⟩
def wp_M_closesSoft (m_out : (Nat → Int)) (m_outMany : Int) (m_isSoftOpen : Int) (Q : (Nat → Int) → Int → Int → Prop) : Prop := jn2 (fun (J1 : (Nat → Int) → Int → Prop) => (m_isSoftOpen = 0 → J1 m_out m_outMany) ∧ (¬ m_isSoftOpen = 0 → wp_M_says m_out m_outMany 29 (fun (m_out_3 : (Nat → Int)) (m_outMany_4 : Int) => J1 m_out_3 m_outMany_4))) (fun (m_out_1 : (Nat → Int)) (m_outMany_2 : Int) => Q m_out_1 m_outMany_2 0)
set_option maxHeartbeats 4000000 in
set_option maxRecDepth 20000 in
theorem s_M_closesSoft (l : Launch) (w : St) (P : (Nat → Int) → Int → Int → Prop) (h : wp_M_closesSoft (w.1 35) (w.1 0 60) (w.1 0 68) P) : Cn l yX10_closesSoft cX10_closesSoft 1 none 5 LM w [aR 0] (okV (fun w1 => ∃ (o0 : (Nat → Int)) (o1 : Int) (o2 : Int), w1 = (wI (wI (wA w 35 o0) 0 60 o1) 0 68 o2) ∧ P o0 o1 o2)) := by
  unfold wp_M_closesSoft at h
  refine Cn.of2 [some (aR 0)] (by decide) (Nat.le_of_ble_eq_true rfl) rfl (fun p e s m args below meth c D cA ad A Q hQ hC hr hk => ?_)
  refine r_aload_n (pc := 0) hC 0 dX10_closesSoft_0 rfl rfl ?_
  refine r_get (kd := 1) (v := (w.1 0 68)) (pc := 1) hC dX10_closesSoft_1 fl_RX10_415 lM_0 rfl rfl ?_
  obtain ⟨J1, hJ1, h⟩ := h
  have S1 : ∀ (m_out_1 : (Nat → Int)) (m_outMany_2 : Int), J1 m_out_1 m_outMany_2 → Wd p l e (rmD 5) s m args below meth c Q 0 0 1 D cA ad A LM (wI (wA w 35 m_out_1) 0 60 m_outMany_2) 14 [some (aR 0)] [] := by
    intro m_out_1 m_outMany_2 hj
    have h := hJ1 m_out_1 m_outMany_2 hj
    refine r_aload_n (pc := 14) hC 0 dX10_closesSoft_14 rfl rfl ?_
    refine r_iconst (pc := 15) hC dX10_closesSoft_15 (rng_lit rfl) ?_
    refine r_put (kd := 1) (pc := 16) hC dX10_closesSoft_16 pl_RX10_415 lM_0 rfl (by decide) (Or.inr okK1_0) ?_
    refine r_conv (w2 := (wI (wI (wA w 35 m_out_1) 0 60 m_outMany_2) 0 68 0)) rfl ?_
    exact r_retv (pc := 19) hC hQ dX10_closesSoft_19 hr hk ⟨m_out_1, m_outMany_2, 0, rfl, h⟩
  refine r_if_eq (pc := 4) (tgt := 14) hC dX10_closesSoft_4 rfl (fun hc1 => ?_) (fun hc1 => ?_)
  · have h := h.1 hc1
    exact r_to [true] rfl rfl (S1 (w.1 35) (w.1 0 60) h)
  have h := h.2 hc1
  refine r_aload_n (pc := 7) hC 0 dX10_closesSoft_7 rfl rfl ?_
  refine r_ldcsw (j := 29) (pc := 8) hC dX10_closesSoft_8 rfl ⟨rfl, rfl⟩ ?_
  refine r_callVv (pc := 11) hC [aR (10000 + 29)] [] dX10_closesSoft_11 ml_RX10_405 my_X10_says mi_X10_says lM_0 rfl rfl ⟨Nat.le_of_ble_eq_true rfl, Nat.le_of_ble_eq_true rfl⟩ ⟨Nat.le_of_ble_eq_true rfl, Nat.le_of_ble_eq_true rfl⟩ (Nat.le_of_ble_eq_true rfl) rfl (s_M_says l _ _ _ h) (fun w1 hq => ?_)
  obtain ⟨m_out_3, m_outMany_4, e9, h⟩ := hq
  rw [e9]
  exact r_to [true] rfl rfl (S1 m_out_3 m_outMany_4 h)
def wp_M_closesStrong (m_out : (Nat → Int)) (m_outMany : Int) (m_isStrongOpen : Int) (Q : (Nat → Int) → Int → Int → Prop) : Prop := jn2 (fun (J1 : (Nat → Int) → Int → Prop) => (m_isStrongOpen = 0 → J1 m_out m_outMany) ∧ (¬ m_isStrongOpen = 0 → wp_M_says m_out m_outMany 30 (fun (m_out_3 : (Nat → Int)) (m_outMany_4 : Int) => J1 m_out_3 m_outMany_4))) (fun (m_out_1 : (Nat → Int)) (m_outMany_2 : Int) => Q m_out_1 m_outMany_2 0)
set_option maxHeartbeats 4000000 in
set_option maxRecDepth 20000 in
theorem s_M_closesStrong (l : Launch) (w : St) (P : (Nat → Int) → Int → Int → Prop) (h : wp_M_closesStrong (w.1 35) (w.1 0 60) (w.1 0 67) P) : Cn l yX10_closesStrong cX10_closesStrong 1 none 5 LM w [aR 0] (okV (fun w1 => ∃ (o0 : (Nat → Int)) (o1 : Int) (o2 : Int), w1 = (wI (wI (wA w 35 o0) 0 60 o1) 0 67 o2) ∧ P o0 o1 o2)) := by
  unfold wp_M_closesStrong at h
  refine Cn.of2 [some (aR 0)] (by decide) (Nat.le_of_ble_eq_true rfl) rfl (fun p e s m args below meth c D cA ad A Q hQ hC hr hk => ?_)
  refine r_aload_n (pc := 0) hC 0 dX10_closesStrong_0 rfl rfl ?_
  refine r_get (kd := 1) (v := (w.1 0 67)) (pc := 1) hC dX10_closesStrong_1 fl_RX10_420 lM_0 rfl rfl ?_
  obtain ⟨J1, hJ1, h⟩ := h
  have S1 : ∀ (m_out_1 : (Nat → Int)) (m_outMany_2 : Int), J1 m_out_1 m_outMany_2 → Wd p l e (rmD 5) s m args below meth c Q 0 0 1 D cA ad A LM (wI (wA w 35 m_out_1) 0 60 m_outMany_2) 14 [some (aR 0)] [] := by
    intro m_out_1 m_outMany_2 hj
    have h := hJ1 m_out_1 m_outMany_2 hj
    refine r_aload_n (pc := 14) hC 0 dX10_closesStrong_14 rfl rfl ?_
    refine r_iconst (pc := 15) hC dX10_closesStrong_15 (rng_lit rfl) ?_
    refine r_put (kd := 1) (pc := 16) hC dX10_closesStrong_16 pl_RX10_420 lM_0 rfl (by decide) (Or.inr okK1_0) ?_
    refine r_conv (w2 := (wI (wI (wA w 35 m_out_1) 0 60 m_outMany_2) 0 67 0)) rfl ?_
    exact r_retv (pc := 19) hC hQ dX10_closesStrong_19 hr hk ⟨m_out_1, m_outMany_2, 0, rfl, h⟩
  refine r_if_eq (pc := 4) (tgt := 14) hC dX10_closesStrong_4 rfl (fun hc1 => ?_) (fun hc1 => ?_)
  · have h := h.1 hc1
    exact r_to [true] rfl rfl (S1 (w.1 35) (w.1 0 60) h)
  have h := h.2 hc1
  refine r_aload_n (pc := 7) hC 0 dX10_closesStrong_7 rfl rfl ?_
  refine r_ldcsw (j := 30) (pc := 8) hC dX10_closesStrong_8 rfl ⟨rfl, rfl⟩ ?_
  refine r_callVv (pc := 11) hC [aR (10000 + 30)] [] dX10_closesStrong_11 ml_RX10_405 my_X10_says mi_X10_says lM_0 rfl rfl ⟨Nat.le_of_ble_eq_true rfl, Nat.le_of_ble_eq_true rfl⟩ ⟨Nat.le_of_ble_eq_true rfl, Nat.le_of_ble_eq_true rfl⟩ (Nat.le_of_ble_eq_true rfl) rfl (s_M_says l _ _ _ h) (fun w1 hq => ?_)
  obtain ⟨m_out_3, m_outMany_4, e9, h⟩ := hq
  rw [e9]
  exact r_to [true] rfl rfl (S1 m_out_3 m_outMany_4 h)
