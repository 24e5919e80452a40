def wp_M_echoOf (m_likeOf : (Nat → Int)) (m_hasWord : (Nat → Int)) (m_words : Int) (m_sentences : Int) (a1 : Int) (Q : Int → Prop) : Prop := lpw3 (fun (x1 : Int) (x2 : Int) (x3 : Int) (k1 : Int → Int → Int → Prop) => (m_sentences ≤ x3 → Q x1) ∧ (¬ m_sentences ≤ x3 → jn2 (fun (J2 : Int → Int → Prop) => (x3 = a1 → J2 x1 x2) ∧ (¬ x3 = a1 → wp_M_commonOf m_likeOf m_hasWord m_words a1 x3 (fun (r6 : Int) => (x2 < r6 → wp_M_commonOf m_likeOf m_hasWord m_words a1 x3 (fun (r7 : Int) => J2 x3 r7)) ∧ (¬ x2 < r6 → J2 x1 x2)))) (fun (x4 : Int) (x5 : Int) => (rng (x3 + 1)) ∧ (k1 x4 x5 (x3 + 1))))) (-1) 0 0
set_option maxHeartbeats 4000000 in
set_option maxRecDepth 20000 in
theorem s_M_echoOf (l : Launch) (w : St) (a1 : Int) (P : Int → Prop) (h : wp_M_echoOf (w.1 8) (w.1 11) (w.1 0 12) (w.1 0 16) a1 P) : Cn l yX10_echoOf cX10_echoOf 5 (some .int) 2 LM w [aR 0, aI a1] (okI (fun r w1 => w1 = w ∧ P r)) := by
  unfold wp_M_echoOf at h
  refine Cn.of2 [some (aR 0), some (aI a1), none, none, none] (by decide) (Nat.le_of_ble_eq_true rfl) rfl (fun p e s m args below meth c D cA ad A Q hQ hC hr hk => ?_)
  refine r_iconst (pc := 0) hC dX10_echoOf_0 (rng_lit rfl) ?_
  refine r_istore_n (ls2 := [some (aR 0), some (aI a1), some (aI (-1)), none, none]) (pc := 1) hC 2 dX10_echoOf_1 rfl (by decide) rfl rfl ?_
  refine r_iconst (pc := 2) hC dX10_echoOf_2 (rng_lit rfl) ?_
  refine r_istore_n (ls2 := [some (aR 0), some (aI a1), some (aI (-1)), some (aI 0), none]) (pc := 3) hC 3 dX10_echoOf_3 rfl (by decide) rfl rfl ?_
  refine r_iconst (pc := 4) hC dX10_echoOf_4 (rng_lit rfl) ?_
  refine r_istore (ls2 := [some (aR 0), some (aI a1), some (aI (-1)), some (aI 0), some (aI 0)]) (pc := 5) hC dX10_echoOf_5 (by decide) rfl rfl ?_
  obtain ⟨I1, μ1, hI1, hB1⟩ := h
  have S1 : ∀ (nn : Nat) (x1 : Int) (x2 : Int) (x3 : Int), μ1 x1 x2 x3 < nn → I1 x1 x2 x3 → Wd p l e (rmD 2) s m args below meth c Q 0 0 5 D cA ad A LM w 7 [some (aR 0), some (aI a1), some (aI x1), some (aI x2), some (aI x3)] [] := by
    intro nn
    induction nn with
    | zero => intro x1 x2 x3 hn; exact absurd hn (Nat.not_lt_zero _)
    | succ nn ih1 =>
      intro x1 x2 x3 hn1 hi
      have h := hB1 x1 x2 x3 hi
      refine r_iload (pc := 7) hC dX10_echoOf_7 rfl ?_
      refine r_aload_n (pc := 9) hC 0 dX10_echoOf_9 rfl rfl ?_
      refine r_get (kd := 0) (v := (w.1 0 16)) (pc := 10) hC dX10_echoOf_10 fl_RX10_203 lM_0 rfl rfl ?_
      refine r_ic_ge (pc := 13) (tgt := 53) hC dX10_echoOf_13 rfl (fun hc3 => ?_) (fun hc3 => ?_)
      · have h := h.1 hc3
        refine r_iload_n (pc := 53) hC 2 dX10_echoOf_53 rfl rfl ?_
        exact r_reti (pc := 54) (kd := 0) hC hQ dX10_echoOf_54 hr hk (by decide) (Or.inl rfl) ⟨rfl, h⟩
      have h := h.2 hc3
      refine r_iload (pc := 16) hC dX10_echoOf_16 rfl ?_
      refine r_iload_n (pc := 18) hC 1 dX10_echoOf_18 rfl rfl ?_
      obtain ⟨J2, hJ2, h⟩ := h
      have S2 : ∀ (x4 : Int) (x5 : Int), J2 x4 x5 → Wd p l e (rmD 2) s m args below meth c Q 0 0 5 D cA ad A LM w 47 [some (aR 0), some (aI a1), some (aI x4), some (aI x5), some (aI x3)] [] := by
        intro x4 x5 hj
        have h := hJ2 x4 x5 hj
        refine r_iinc (ls2 := [some (aR 0), some (aI a1), some (aI x4), some (aI x5), some (aI (x3 + 1))]) (pc := 47) hC dX10_echoOf_47 rfl (by decide) rfl h.1 rfl ?_
        have h := h.2
        refine r_goto (tgt := 7) (pc := 50) hC dX10_echoOf_50 rfl ?_
        exact r_to [true, true, true, true, true] rfl rfl (ih1 x4 x5 (x3 + 1) (Nat.lt_of_lt_of_le h.2 (Nat.le_of_lt_succ hn1)) h.1)
      refine r_ic_eq (pc := 19) (tgt := 47) hC dX10_echoOf_19 rfl (fun hc2 => ?_) (fun hc2 => ?_)
      · have h := h.1 hc2
        exact r_to [true, true, true, true, true] rfl rfl (S2 x1 x2 h)
      have h := h.2 hc2
      refine r_aload_n (pc := 22) hC 0 dX10_echoOf_22 rfl rfl ?_
      refine r_iload_n (pc := 23) hC 1 dX10_echoOf_23 rfl rfl ?_
      refine r_iload (pc := 24) hC dX10_echoOf_24 rfl ?_
      refine r_callVi (pc := 26) hC [aI a1, aI x3] [] dX10_echoOf_26 ml_RX10_352 my_X10_commonOf mi_X10_commonOf lM_0 rfl rfl ⟨Nat.le_of_ble_eq_true rfl, Nat.le_of_ble_eq_true rfl⟩ ⟨Nat.le_of_ble_eq_true rfl, Nat.le_of_ble_eq_true rfl⟩ (Nat.le_of_ble_eq_true rfl) rfl (s_M_commonOf l _ _ _ _ h) (fun r6 w1 hq => ?_)
      obtain ⟨e9, h⟩ := hq
      rw [e9]
      refine r_iload_n (pc := 29) hC 3 dX10_echoOf_29 rfl rfl ?_
      refine r_ic_gt (pc := 30) (tgt := 36) hC dX10_echoOf_30 rfl (fun hc1 => ?_) (fun hc1 => ?_)
      · have h := h.1 hc1
        refine r_iload (pc := 36) hC dX10_echoOf_36 rfl ?_
        refine r_istore_n (ls2 := [some (aR 0), some (aI a1), some (aI x3), some (aI x2), some (aI x3)]) (pc := 38) hC 2 dX10_echoOf_38 rfl (by decide) rfl rfl ?_
        refine r_aload_n (pc := 39) hC 0 dX10_echoOf_39 rfl rfl ?_
        refine r_iload_n (pc := 40) hC 1 dX10_echoOf_40 rfl rfl ?_
        refine r_iload (pc := 41) hC dX10_echoOf_41 rfl ?_
        refine r_callVi (pc := 43) hC [aI a1, aI x3] [] dX10_echoOf_43 ml_RX10_352 my_X10_commonOf mi_X10_commonOf lM_0 rfl rfl ⟨Nat.le_of_ble_eq_true rfl, Nat.le_of_ble_eq_true rfl⟩ ⟨Nat.le_of_ble_eq_true rfl, Nat.le_of_ble_eq_true rfl⟩ (Nat.le_of_ble_eq_true rfl) rfl (s_M_commonOf l _ _ _ _ h) (fun r7 w1 hq => ?_)
        obtain ⟨e9, h⟩ := hq
        rw [e9]
        refine r_istore_n (ls2 := [some (aR 0), some (aI a1), some (aI x3), some (aI r7), some (aI x3)]) (pc := 46) hC 3 dX10_echoOf_46 rfl (by decide) rfl rfl ?_
        exact r_to [true, true, true, true, true] rfl rfl (S2 x3 r7 h)
      have h := h.2 hc1
      refine r_goto (tgt := 47) (pc := 33) hC dX10_echoOf_33 rfl ?_
      exact r_to [true, true, true, true, true] rfl rfl (S2 x1 x2 h)
  exact r_to [true, true, true, true, true] rfl rfl (S1 _ (-1) 0 0 (Nat.lt_succ_self _) hI1)
def wp_M_sentence (m_signAt : (Nat → Int)) (m_sentenceOf : (Nat → Int)) (m_likeOf : (Nat → Int)) (m_from : (Nat → Int)) (m_to : (Nat → Int)) (m_hasWord : (Nat → Int)) (m_weight : (Nat → Int)) (m_matchItem : (Nat → Int)) (m_matchFirst : (Nat → Int)) (m_worth : (Nat → Int)) (m_length : (Nat → Int)) (m_inSentence : (Nat → Int)) (m_tooLike : (Nat → Int)) (m_thrown : Int) (m_words : Int) (m_sentences : Int) (m_items : Int) (m_matches : Int) (m_areLaid : Int) (m_areLikeLaid : Int) (m_budget : Int) (m_mostOf : Int) (m_limit : Int) (m_chosen : Int) (a1 : Int) (a2 : Int) (Q : Int → (Nat → Int) → (Nat → Int) → (Nat → Int) → (Nat → Int) → Int → Int → Int → Prop) : Prop := wp_M_noSentence m_thrown m_sentences a1 (fun (r1 : Int) (m_thrown_2 : Int) => (¬ r1 = 0 → Q 0 m_worth m_length m_inSentence m_tooLike m_thrown_2 m_areLaid m_areLikeLaid) ∧ (r1 = 0 → wp_M_in a2 0 10 (fun (r3 : Int) => jn1 (fun (J1 : Int → Prop) => (¬ r3 = 0 → J1 0) ∧ (r3 = 0 → J1 1)) (fun (y4 : Int) => wp_M_throwsIf m_thrown_2 y4 2 (fun (r5 : Int) (m_thrown_6 : Int) => (r5 = 0 → wp_M_laysLike m_sentenceOf m_likeOf m_from m_to m_hasWord m_weight m_matchItem m_matchFirst m_worth m_length m_inSentence m_tooLike m_words m_sentences m_items m_matches m_areLaid m_areLikeLaid m_limit (fun (m_worth_7 : (Nat → Int)) (m_length_8 : (Nat → Int)) (m_inSentence_9 : (Nat → Int)) (m_tooLike_10 : (Nat → Int)) (m_areLaid_11 : Int) (m_areLikeLaid_12 : Int) => (a2 = 0 → (0 ≤ a1 ∧ a1 < 14) ∧ ((0 ≤ (m_from (Int.toNat a1)) ∧ (m_from (Int.toNat a1)) < 601) ∧ (Q (m_signAt (Int.toNat (m_from (Int.toNat a1)))) m_worth_7 m_length_8 m_inSentence_9 m_tooLike_10 m_thrown_6 m_areLaid_11 m_areLikeLaid_12))) ∧ (¬ a2 = 0 → (a2 = 1 → (0 ≤ a1 ∧ a1 < 14) ∧ ((0 ≤ (m_to (Int.toNat a1)) ∧ (m_to (Int.toNat a1)) < 601) ∧ ((0 ≤ a1 ∧ a1 < 14) ∧ ((0 ≤ (m_from (Int.toNat a1)) ∧ (m_from (Int.toNat a1)) < 601) ∧ ((rng ((m_signAt (Int.toNat (m_to (Int.toNat a1)))) - (m_signAt (Int.toNat (m_from (Int.toNat a1)))))) ∧ (Q ((m_signAt (Int.toNat (m_to (Int.toNat a1)))) - (m_signAt (Int.toNat (m_from (Int.toNat a1))))) m_worth_7 m_length_8 m_inSentence_9 m_tooLike_10 m_thrown_6 m_areLaid_11 m_areLikeLaid_12)))))) ∧ (¬ a2 = 1 → (a2 = 2 → (0 ≤ a1 ∧ a1 < 14) ∧ ((0 ≤ a1 ∧ a1 < 14) ∧ ((rng ((m_to (Int.toNat a1)) - (m_from (Int.toNat a1)))) ∧ (Q ((m_to (Int.toNat a1)) - (m_from (Int.toNat a1))) m_worth_7 m_length_8 m_inSentence_9 m_tooLike_10 m_thrown_6 m_areLaid_11 m_areLikeLaid_12)))) ∧ (¬ a2 = 2 → (a2 = 3 → wp_M_firstWord m_sentenceOf m_words a1 (fun (r13 : Int) => Q r13 m_worth_7 m_length_8 m_inSentence_9 m_tooLike_10 m_thrown_6 m_areLaid_11 m_areLikeLaid_12)) ∧ (¬ a2 = 3 → (a2 = 4 → wp_M_wordsIn m_sentenceOf m_words a1 (fun (r14 : Int) => Q r14 m_worth_7 m_length_8 m_inSentence_9 m_tooLike_10 m_thrown_6 m_areLaid_11 m_areLikeLaid_12)) ∧ (¬ a2 = 4 → (a2 = 5 → wp_M_unlikeIn m_likeOf m_hasWord m_words a1 (fun (r15 : Int) => Q r15 m_worth_7 m_length_8 m_inSentence_9 m_tooLike_10 m_thrown_6 m_areLaid_11 m_areLikeLaid_12)) ∧ (¬ a2 = 5 → (a2 = 6 → wp_M_set m_sentenceOf m_likeOf m_from m_to m_hasWord m_weight m_matchItem m_matchFirst m_worth_7 m_length_8 m_inSentence_9 m_tooLike_10 m_thrown_6 m_words m_sentences m_items m_matches m_areLaid_11 m_areLikeLaid_12 m_budget m_mostOf m_limit (iShl 1 a1) 3 (fun (r16 : Int) (m_worth_17 : (Nat → Int)) (m_length_18 : (Nat → Int)) (m_inSentence_19 : (Nat → Int)) (m_tooLike_20 : (Nat → Int)) (m_thrown_21 : Int) (m_areLaid_22 : Int) (m_areLikeLaid_23 : Int) => Q r16 m_worth_17 m_length_18 m_inSentence_19 m_tooLike_20 m_thrown_21 m_areLaid_22 m_areLikeLaid_23)) ∧ (¬ a2 = 6 → (a2 = 7 → (0 ≤ (iShl 1 a1) ∧ (iShl 1 a1) < 16384) ∧ (Q (m_worth_7 (Int.toNat (iShl 1 a1))) m_worth_7 m_length_8 m_inSentence_9 m_tooLike_10 m_thrown_6 m_areLaid_11 m_areLikeLaid_12)) ∧ (¬ a2 = 7 → (a2 = 8 → (0 ≤ (iOr m_chosen (iShl 1 a1)) ∧ (iOr m_chosen (iShl 1 a1)) < 16384) ∧ ((0 ≤ m_chosen ∧ m_chosen < 16384) ∧ ((rng ((m_worth_7 (Int.toNat (iOr m_chosen (iShl 1 a1)))) - (m_worth_7 (Int.toNat m_chosen)))) ∧ (Q ((m_worth_7 (Int.toNat (iOr m_chosen (iShl 1 a1)))) - (m_worth_7 (Int.toNat m_chosen))) m_worth_7 m_length_8 m_inSentence_9 m_tooLike_10 m_thrown_6 m_areLaid_11 m_areLikeLaid_12)))) ∧ (¬ a2 = 8 → (a2 = 9 → (¬ (iAnd m_chosen (iShl 1 a1)) = 0 → Q 0 m_worth_7 m_length_8 m_inSentence_9 m_tooLike_10 m_thrown_6 m_areLaid_11 m_areLikeLaid_12) ∧ ((iAnd m_chosen (iShl 1 a1)) = 0 → wp_M_may m_length_8 m_tooLike_10 m_sentences m_budget m_mostOf (iOr m_chosen (iShl 1 a1)) (fun (r24 : Int) => (r24 = 0 → Q 0 m_worth_7 m_length_8 m_inSentence_9 m_tooLike_10 m_thrown_6 m_areLaid_11 m_areLikeLaid_12) ∧ (¬ r24 = 0 → Q 1 m_worth_7 m_length_8 m_inSentence_9 m_tooLike_10 m_thrown_6 m_areLaid_11 m_areLikeLaid_12)))) ∧ (¬ a2 = 9 → wp_M_echoOf m_likeOf m_hasWord m_words m_sentences a1 (fun (r25 : Int) => Q r25 m_worth_7 m_length_8 m_inSentence_9 m_tooLike_10 m_thrown_6 m_areLaid_11 m_areLikeLaid_12))))))))))))) ∧ (¬ r5 = 0 → Q 0 m_worth m_length m_inSentence m_tooLike m_thrown_6 m_areLaid m_areLikeLaid))))))
set_option maxHeartbeats 4000000 in
set_option maxRecDepth 20000 in
theorem s_M_sentence (l : Launch) (w : St) (a1 : Int) (a2 : Int) (P : Int → (Nat → Int) → (Nat → Int) → (Nat → Int) → (Nat → Int) → Int → Int → Int → Prop) (h : wp_M_sentence (w.1 4) (w.1 7) (w.1 8) (w.1 9) (w.1 10) (w.1 11) (w.1 12) (w.1 24) (w.1 25) (w.1 28) (w.1 29) (w.1 31) (w.1 33) (w.1 0 0) (w.1 0 12) (w.1 0 16) (w.1 0 29) (w.1 0 39) (w.1 0 42) (w.1 0 43) (w.1 0 50) (w.1 0 51) (w.1 0 52) (w.1 0 53) a1 a2 P) : Cn l yX10_sentence cX10_sentence 4 (some .int) 5 LM w [aR 0, aI a1, aI a2] (okI (fun r w1 => ∃ (o0 : (Nat → Int)) (o1 : (Nat → Int)) (o2 : (Nat → Int)) (o3 : (Nat → Int)) (o4 : Int) (o5 : Int) (o6 : Int), w1 = (wI (wI (wI (wA (wA (wA (wA w 28 o0) 29 o1) 31 o2) 33 o3) 0 0 o4) 0 42 o5) 0 43 o6) ∧ P r o0 o1 o2 o3 o4 o5 o6)) := by
  unfold wp_M_sentence at h
  refine Cn.of2 [some (aR 0), some (aI a1), some (aI a2), none] (by decide) (Nat.le_of_ble_eq_true rfl) rfl (fun p e s m args below meth c D cA ad A Q hQ hC hr hk => ?_)
  refine r_aload_n (pc := 0) hC 0 dX10_sentence_0 rfl rfl ?_
  refine r_iload_n (pc := 1) hC 1 dX10_sentence_1 rfl rfl ?_
  refine r_callVi (pc := 2) hC [aI a1] [] dX10_sentence_2 ml_RX10_340 my_X10_noSentence mi_X10_noSentence lM_0 rfl rfl ⟨Nat.le_of_ble_eq_true rfl, Nat.le_of_ble_eq_true rfl⟩ ⟨Nat.le_of_ble_eq_true rfl, Nat.le_of_ble_eq_true rfl⟩ (Nat.le_of_ble_eq_true rfl) rfl (s_M_noSentence l _ _ _ h) (fun r1 w1 hq => ?_)
  obtain ⟨m_thrown_2, e9, h⟩ := hq
  rw [e9]
  refine r_if_ne (pc := 5) (tgt := 31) hC dX10_sentence_5 rfl (fun hc15 => ?_) (fun hc15 => ?_)
  · have h := h.1 hc15
    refine r_iconst (pc := 31) hC dX10_sentence_31 (rng_lit rfl) ?_
    refine r_conv (w2 := (wI (wI (wI (wA (wA (wA (wA w 28 (w.1 28)) 29 (w.1 29)) 31 (w.1 31)) 33 (w.1 33)) 0 0 m_thrown_2) 0 42 (w.1 0 42)) 0 43 (w.1 0 43))) rfl ?_
    exact r_reti (pc := 32) (kd := 0) hC hQ dX10_sentence_32 hr hk (by decide) (Or.inl rfl) ⟨(w.1 28), (w.1 29), (w.1 31), (w.1 33), m_thrown_2, (w.1 0 42), (w.1 0 43), rfl, h⟩
  have h := h.2 hc15
  refine r_aload_n (pc := 8) hC 0 dX10_sentence_8 rfl rfl ?_
  refine r_iload_n (pc := 9) hC 2 dX10_sentence_9 rfl rfl ?_
  refine r_iconst (pc := 10) hC dX10_sentence_10 (rng_lit rfl) ?_
  refine r_bipush (pc := 11) hC dX10_sentence_11 ⟨rfl, rng_lit rfl⟩ ?_
  refine r_callSi (pc := 13) hC [aI a2, aI 0, aI 10] [aR 0] dX10_sentence_13 ml_RX10_151 my_X10_in ms_X10_in rfl ⟨Nat.le_of_ble_eq_true rfl, Nat.le_of_ble_eq_true rfl⟩ ⟨Nat.le_of_ble_eq_true rfl, Nat.le_of_ble_eq_true rfl⟩ (Nat.le_of_ble_eq_true rfl) rfl (s_M_in l _ _ _ _ _ h) (fun r3 w1 hq => ?_)
  obtain ⟨e9, h⟩ := hq
  rw [e9]
  obtain ⟨J1, hJ1, h⟩ := h
  have S1 : ∀ (y4 : Int), J1 y4 → Wd p l e (rmD 5) s m args below meth c Q 0 0 4 D cA ad A LM (wI w 0 0 m_thrown_2) 24 [some (aR 0), some (aI a1), some (aI a2), none] [aI y4, aR 0] := by
    intro y4 hj
    have h := hJ1 y4 hj
    refine r_iconst (pc := 24) hC dX10_sentence_24 (rng_lit rfl) ?_
    refine r_callVi (pc := 25) hC [aI y4, aI 2] [] dX10_sentence_25 ml_RX10_309 my_X10_throwsIf mi_X10_throwsIf lM_0 rfl rfl ⟨Nat.le_of_ble_eq_true rfl, Nat.le_of_ble_eq_true rfl⟩ ⟨Nat.le_of_ble_eq_true rfl, Nat.le_of_ble_eq_true rfl⟩ (Nat.le_of_ble_eq_true rfl) rfl (s_M_throwsIf l _ _ _ _ h) (fun r5 w1 hq => ?_)
    obtain ⟨m_thrown_6, e9, h⟩ := hq
    rw [e9]
    refine r_if_eq (pc := 28) (tgt := 33) hC dX10_sentence_28 rfl (fun hc13 => ?_) (fun hc13 => ?_)
    · have h := h.1 hc13
      refine r_aload_n (pc := 33) hC 0 dX10_sentence_33 rfl rfl ?_
      refine r_callVv (pc := 34) hC [] [] dX10_sentence_34 ml_RX10_364 my_X10_laysLike mi_X10_laysLike lM_0 rfl rfl ⟨Nat.le_of_ble_eq_true rfl, Nat.le_of_ble_eq_true rfl⟩ ⟨Nat.le_of_ble_eq_true rfl, Nat.le_of_ble_eq_true rfl⟩ (Nat.le_of_ble_eq_true rfl) rfl (s_M_laysLike l _ _ h) (fun w1 hq => ?_)
      obtain ⟨m_worth_7, m_length_8, m_inSentence_9, m_tooLike_10, m_areLaid_11, m_areLikeLaid_12, e9, h⟩ := hq
      rw [e9]
      refine r_iconst (pc := 37) hC dX10_sentence_37 (rng_lit rfl) ?_
      refine r_iload_n (pc := 38) hC 1 dX10_sentence_38 rfl rfl ?_
      refine r_ishl (pc := 39) hC dX10_sentence_39 ?_
      refine r_istore_n (ls2 := [some (aR 0), some (aI a1), some (aI a2), some (aI (iShl 1 a1))]) (pc := 40) hC 3 dX10_sentence_40 rfl (by decide) rfl rfl ?_
      refine r_iload_n (pc := 41) hC 2 dX10_sentence_41 rfl rfl ?_
      by_cases hc1 : a2 = 0
      · refine r_tblIn (pc := 42) (tgt := 96) hC dX10_sentence_42 (by rw [hc1]; decide) (by rw [hc1]; decide) (by rw [hc1]; rfl) rfl ?_
        have h := h.1 hc1
        refine r_aload_n (pc := 96) hC 0 dX10_sentence_96 rfl rfl ?_
        refine r_getr (r := 4) (pc := 97) hC dX10_sentence_97 fl_RX10_20 lM_0 rfl ?_
        refine r_aload_n (pc := 100) hC 0 dX10_sentence_100 rfl rfl ?_
        refine r_getr (r := 9) (pc := 101) hC dX10_sentence_101 fl_RX10_35 lM_0 rfl ?_
        refine r_iload_n (pc := 104) hC 1 dX10_sentence_104 rfl rfl ?_
        refine r_iald (v := ((w.1 9) (Int.toNat a1))) (pc := 105) hC dX10_sentence_105 lM_9 h.1.1 h.1.2 rfl ?_
        have h := h.2
        refine r_iald (v := ((w.1 4) (Int.toNat ((w.1 9) (Int.toNat a1))))) (pc := 106) hC dX10_sentence_106 lM_4 h.1.1 h.1.2 rfl ?_
        have h := h.2
        refine r_conv (w2 := (wI (wI (wI (wA (wA (wA (wA w 28 m_worth_7) 29 m_length_8) 31 m_inSentence_9) 33 m_tooLike_10) 0 0 m_thrown_6) 0 42 m_areLaid_11) 0 43 m_areLikeLaid_12)) rfl ?_
        exact r_reti (pc := 107) (kd := 0) hC hQ dX10_sentence_107 hr hk (by decide) (Or.inl rfl) ⟨m_worth_7, m_length_8, m_inSentence_9, m_tooLike_10, m_thrown_6, m_areLaid_11, m_areLikeLaid_12, rfl, h⟩
      have h := h.2 hc1
      by_cases hc2 : a2 = 1
      · refine r_tblIn (pc := 42) (tgt := 108) hC dX10_sentence_42 (by rw [hc2]; decide) (by rw [hc2]; decide) (by rw [hc2]; rfl) rfl ?_
        have h := h.1 hc2
        refine r_aload_n (pc := 108) hC 0 dX10_sentence_108 rfl rfl ?_
        refine r_getr (r := 4) (pc := 109) hC dX10_sentence_109 fl_RX10_20 lM_0 rfl ?_
        refine r_aload_n (pc := 112) hC 0 dX10_sentence_112 rfl rfl ?_
        refine r_getr (r := 10) (pc := 113) hC dX10_sentence_113 fl_RX10_38 lM_0 rfl ?_
        refine r_iload_n (pc := 116) hC 1 dX10_sentence_116 rfl rfl ?_
        refine r_iald (v := ((w.1 10) (Int.toNat a1))) (pc := 117) hC dX10_sentence_117 lM_10 h.1.1 h.1.2 rfl ?_
        have h := h.2
        refine r_iald (v := ((w.1 4) (Int.toNat ((w.1 10) (Int.toNat a1))))) (pc := 118) hC dX10_sentence_118 lM_4 h.1.1 h.1.2 rfl ?_
        have h := h.2
        refine r_aload_n (pc := 119) hC 0 dX10_sentence_119 rfl rfl ?_
        refine r_getr (r := 4) (pc := 120) hC dX10_sentence_120 fl_RX10_20 lM_0 rfl ?_
        refine r_aload_n (pc := 123) hC 0 dX10_sentence_123 rfl rfl ?_
        refine r_getr (r := 9) (pc := 124) hC dX10_sentence_124 fl_RX10_35 lM_0 rfl ?_
        refine r_iload_n (pc := 127) hC 1 dX10_sentence_127 rfl rfl ?_
        refine r_iald (v := ((w.1 9) (Int.toNat a1))) (pc := 128) hC dX10_sentence_128 lM_9 h.1.1 h.1.2 rfl ?_
        have h := h.2
        refine r_iald (v := ((w.1 4) (Int.toNat ((w.1 9) (Int.toNat a1))))) (pc := 129) hC dX10_sentence_129 lM_4 h.1.1 h.1.2 rfl ?_
        have h := h.2
        refine r_isub (pc := 130) hC dX10_sentence_130 h.1 ?_
        have h := h.2
        refine r_conv (w2 := (wI (wI (wI (wA (wA (wA (wA w 28 m_worth_7) 29 m_length_8) 31 m_inSentence_9) 33 m_tooLike_10) 0 0 m_thrown_6) 0 42 m_areLaid_11) 0 43 m_areLikeLaid_12)) rfl ?_
        exact r_reti (pc := 131) (kd := 0) hC hQ dX10_sentence_131 hr hk (by decide) (Or.inl rfl) ⟨m_worth_7, m_length_8, m_inSentence_9, m_tooLike_10, m_thrown_6, m_areLaid_11, m_areLikeLaid_12, rfl, h⟩
      have h := h.2 hc2
      by_cases hc3 : a2 = 2
      · refine r_tblIn (pc := 42) (tgt := 132) hC dX10_sentence_42 (by rw [hc3]; decide) (by rw [hc3]; decide) (by rw [hc3]; rfl) rfl ?_
        have h := h.1 hc3
        refine r_aload_n (pc := 132) hC 0 dX10_sentence_132 rfl rfl ?_
        refine r_getr (r := 10) (pc := 133) hC dX10_sentence_133 fl_RX10_38 lM_0 rfl ?_
        refine r_iload_n (pc := 136) hC 1 dX10_sentence_136 rfl rfl ?_
        refine r_iald (v := ((w.1 10) (Int.toNat a1))) (pc := 137) hC dX10_sentence_137 lM_10 h.1.1 h.1.2 rfl ?_
        have h := h.2
        refine r_aload_n (pc := 138) hC 0 dX10_sentence_138 rfl rfl ?_
        refine r_getr (r := 9) (pc := 139) hC dX10_sentence_139 fl_RX10_35 lM_0 rfl ?_
        refine r_iload_n (pc := 142) hC 1 dX10_sentence_142 rfl rfl ?_
        refine r_iald (v := ((w.1 9) (Int.toNat a1))) (pc := 143) hC dX10_sentence_143 lM_9 h.1.1 h.1.2 rfl ?_
        have h := h.2
        refine r_isub (pc := 144) hC dX10_sentence_144 h.1 ?_
        have h := h.2
        refine r_conv (w2 := (wI (wI (wI (wA (wA (wA (wA w 28 m_worth_7) 29 m_length_8) 31 m_inSentence_9) 33 m_tooLike_10) 0 0 m_thrown_6) 0 42 m_areLaid_11) 0 43 m_areLikeLaid_12)) rfl ?_
        exact r_reti (pc := 145) (kd := 0) hC hQ dX10_sentence_145 hr hk (by decide) (Or.inl rfl) ⟨m_worth_7, m_length_8, m_inSentence_9, m_tooLike_10, m_thrown_6, m_areLaid_11, m_areLikeLaid_12, rfl, h⟩
      have h := h.2 hc3
      by_cases hc4 : a2 = 3
      · refine r_tblIn (pc := 42) (tgt := 146) hC dX10_sentence_42 (by rw [hc4]; decide) (by rw [hc4]; decide) (by rw [hc4]; rfl) rfl ?_
        have h := h.1 hc4
        refine r_aload_n (pc := 146) hC 0 dX10_sentence_146 rfl rfl ?_
        refine r_iload_n (pc := 147) hC 1 dX10_sentence_147 rfl rfl ?_
        refine r_callVi (pc := 148) hC [aI a1] [] dX10_sentence_148 ml_RX10_325 my_X10_firstWord mi_X10_firstWord lM_0 rfl rfl ⟨Nat.le_of_ble_eq_true rfl, Nat.le_of_ble_eq_true rfl⟩ ⟨Nat.le_of_ble_eq_true rfl, Nat.le_of_ble_eq_true rfl⟩ (Nat.le_of_ble_eq_true rfl) rfl (s_M_firstWord l _ _ _ h) (fun r13 w1 hq => ?_)
        obtain ⟨e9, h⟩ := hq
        rw [e9]
        refine r_conv (w2 := (wI (wI (wI (wA (wA (wA (wA w 28 m_worth_7) 29 m_length_8) 31 m_inSentence_9) 33 m_tooLike_10) 0 0 m_thrown_6) 0 42 m_areLaid_11) 0 43 m_areLikeLaid_12)) rfl ?_
        exact r_reti (pc := 151) (kd := 0) hC hQ dX10_sentence_151 hr hk (by decide) (Or.inl rfl) ⟨m_worth_7, m_length_8, m_inSentence_9, m_tooLike_10, m_thrown_6, m_areLaid_11, m_areLikeLaid_12, rfl, h⟩
      have h := h.2 hc4
      by_cases hc5 : a2 = 4
      · refine r_tblIn (pc := 42) (tgt := 152) hC dX10_sentence_42 (by rw [hc5]; decide) (by rw [hc5]; decide) (by rw [hc5]; rfl) rfl ?_
        have h := h.1 hc5
        refine r_aload_n (pc := 152) hC 0 dX10_sentence_152 rfl rfl ?_
        refine r_iload_n (pc := 153) hC 1 dX10_sentence_153 rfl rfl ?_
        refine r_callVi (pc := 154) hC [aI a1] [] dX10_sentence_154 ml_RX10_328 my_X10_wordsIn mi_X10_wordsIn lM_0 rfl rfl ⟨Nat.le_of_ble_eq_true rfl, Nat.le_of_ble_eq_true rfl⟩ ⟨Nat.le_of_ble_eq_true rfl, Nat.le_of_ble_eq_true rfl⟩ (Nat.le_of_ble_eq_true rfl) rfl (s_M_wordsIn l _ _ _ h) (fun r14 w1 hq => ?_)
        obtain ⟨e9, h⟩ := hq
        rw [e9]
        refine r_conv (w2 := (wI (wI (wI (wA (wA (wA (wA w 28 m_worth_7) 29 m_length_8) 31 m_inSentence_9) 33 m_tooLike_10) 0 0 m_thrown_6) 0 42 m_areLaid_11) 0 43 m_areLikeLaid_12)) rfl ?_
        exact r_reti (pc := 157) (kd := 0) hC hQ dX10_sentence_157 hr hk (by decide) (Or.inl rfl) ⟨m_worth_7, m_length_8, m_inSentence_9, m_tooLike_10, m_thrown_6, m_areLaid_11, m_areLikeLaid_12, rfl, h⟩
      have h := h.2 hc5
      by_cases hc6 : a2 = 5
      · refine r_tblIn (pc := 42) (tgt := 158) hC dX10_sentence_42 (by rw [hc6]; decide) (by rw [hc6]; decide) (by rw [hc6]; rfl) rfl ?_
        have h := h.1 hc6
        refine r_aload_n (pc := 158) hC 0 dX10_sentence_158 rfl rfl ?_
        refine r_iload_n (pc := 159) hC 1 dX10_sentence_159 rfl rfl ?_
        refine r_callVi (pc := 160) hC [aI a1] [] dX10_sentence_160 ml_RX10_473 my_X10_unlikeIn mi_X10_unlikeIn lM_0 rfl rfl ⟨Nat.le_of_ble_eq_true rfl, Nat.le_of_ble_eq_true rfl⟩ ⟨Nat.le_of_ble_eq_true rfl, Nat.le_of_ble_eq_true rfl⟩ (Nat.le_of_ble_eq_true rfl) rfl (s_M_unlikeIn l _ _ _ h) (fun r15 w1 hq => ?_)
        obtain ⟨e9, h⟩ := hq
        rw [e9]
        refine r_conv (w2 := (wI (wI (wI (wA (wA (wA (wA w 28 m_worth_7) 29 m_length_8) 31 m_inSentence_9) 33 m_tooLike_10) 0 0 m_thrown_6) 0 42 m_areLaid_11) 0 43 m_areLikeLaid_12)) rfl ?_
        exact r_reti (pc := 163) (kd := 0) hC hQ dX10_sentence_163 hr hk (by decide) (Or.inl rfl) ⟨m_worth_7, m_length_8, m_inSentence_9, m_tooLike_10, m_thrown_6, m_areLaid_11, m_areLikeLaid_12, rfl, h⟩
      have h := h.2 hc6
      by_cases hc7 : a2 = 6
      · refine r_tblIn (pc := 42) (tgt := 164) hC dX10_sentence_42 (by rw [hc7]; decide) (by rw [hc7]; decide) (by rw [hc7]; rfl) rfl ?_
        have h := h.1 hc7
        refine r_aload_n (pc := 164) hC 0 dX10_sentence_164 rfl rfl ?_
        refine r_iload_n (pc := 165) hC 3 dX10_sentence_165 rfl rfl ?_
        refine r_iconst (pc := 166) hC dX10_sentence_166 (rng_lit rfl) ?_
        refine r_callVi (pc := 167) hC [aI (iShl 1 a1), aI 3] [] dX10_sentence_167 ml_RX10_476 my_X10_set mi_X10_set lM_0 rfl rfl ⟨Nat.le_of_ble_eq_true rfl, Nat.le_of_ble_eq_true rfl⟩ ⟨Nat.le_of_ble_eq_true rfl, Nat.le_of_ble_eq_true rfl⟩ (Nat.le_of_ble_eq_true rfl) rfl (s_M_set l _ _ _ _ h) (fun r16 w1 hq => ?_)
        obtain ⟨m_worth_17, m_length_18, m_inSentence_19, m_tooLike_20, m_thrown_21, m_areLaid_22, m_areLikeLaid_23, e9, h⟩ := hq
        rw [e9]
        refine r_conv (w2 := (wI (wI (wI (wA (wA (wA (wA w 28 m_worth_17) 29 m_length_18) 31 m_inSentence_19) 33 m_tooLike_20) 0 0 m_thrown_21) 0 42 m_areLaid_22) 0 43 m_areLikeLaid_23)) rfl ?_
        exact r_reti (pc := 170) (kd := 0) hC hQ dX10_sentence_170 hr hk (by decide) (Or.inl rfl) ⟨m_worth_17, m_length_18, m_inSentence_19, m_tooLike_20, m_thrown_21, m_areLaid_22, m_areLikeLaid_23, rfl, h⟩
      have h := h.2 hc7
      by_cases hc8 : a2 = 7
      · refine r_tblIn (pc := 42) (tgt := 171) hC dX10_sentence_42 (by rw [hc8]; decide) (by rw [hc8]; decide) (by rw [hc8]; rfl) rfl ?_
        have h := h.1 hc8
        refine r_aload_n (pc := 171) hC 0 dX10_sentence_171 rfl rfl ?_
        refine r_getr (r := 28) (pc := 172) hC dX10_sentence_172 fl_RX10_97 lM_0 rfl ?_
        refine r_iload_n (pc := 175) hC 3 dX10_sentence_175 rfl rfl ?_
        refine r_iald (v := (m_worth_7 (Int.toNat (iShl 1 a1)))) (pc := 176) hC dX10_sentence_176 lM_28 h.1.1 h.1.2 rfl ?_
        have h := h.2
        refine r_conv (w2 := (wI (wI (wI (wA (wA (wA (wA w 28 m_worth_7) 29 m_length_8) 31 m_inSentence_9) 33 m_tooLike_10) 0 0 m_thrown_6) 0 42 m_areLaid_11) 0 43 m_areLikeLaid_12)) rfl ?_
        exact r_reti (pc := 177) (kd := 0) hC hQ dX10_sentence_177 hr hk (by decide) (Or.inl rfl) ⟨m_worth_7, m_length_8, m_inSentence_9, m_tooLike_10, m_thrown_6, m_areLaid_11, m_areLikeLaid_12, rfl, h⟩
      have h := h.2 hc8
      by_cases hc9 : a2 = 8
      · refine r_tblIn (pc := 42) (tgt := 178) hC dX10_sentence_42 (by rw [hc9]; decide) (by rw [hc9]; decide) (by rw [hc9]; rfl) rfl ?_
        have h := h.1 hc9
        refine r_aload_n (pc := 178) hC 0 dX10_sentence_178 rfl rfl ?_
        refine r_getr (r := 28) (pc := 179) hC dX10_sentence_179 fl_RX10_97 lM_0 rfl ?_
        refine r_aload_n (pc := 182) hC 0 dX10_sentence_182 rfl rfl ?_
        refine r_get (kd := 0) (v := (w.1 0 53)) (pc := 183) hC dX10_sentence_183 fl_RX10_221 lM_0 rfl rfl ?_
        refine r_iload_n (pc := 186) hC 3 dX10_sentence_186 rfl rfl ?_
        refine r_ior (pc := 187) hC dX10_sentence_187 ?_
        refine r_iald (v := (m_worth_7 (Int.toNat (iOr (w.1 0 53) (iShl 1 a1))))) (pc := 188) hC dX10_sentence_188 lM_28 h.1.1 h.1.2 rfl ?_
        have h := h.2
        refine r_aload_n (pc := 189) hC 0 dX10_sentence_189 rfl rfl ?_
        refine r_getr (r := 28) (pc := 190) hC dX10_sentence_190 fl_RX10_97 lM_0 rfl ?_
        refine r_aload_n (pc := 193) hC 0 dX10_sentence_193 rfl rfl ?_
        refine r_get (kd := 0) (v := (w.1 0 53)) (pc := 194) hC dX10_sentence_194 fl_RX10_221 lM_0 rfl rfl ?_
        refine r_iald (v := (m_worth_7 (Int.toNat (w.1 0 53)))) (pc := 197) hC dX10_sentence_197 lM_28 h.1.1 h.1.2 rfl ?_
        have h := h.2
        refine r_isub (pc := 198) hC dX10_sentence_198 h.1 ?_
        have h := h.2
        refine r_conv (w2 := (wI (wI (wI (wA (wA (wA (wA w 28 m_worth_7) 29 m_length_8) 31 m_inSentence_9) 33 m_tooLike_10) 0 0 m_thrown_6) 0 42 m_areLaid_11) 0 43 m_areLikeLaid_12)) rfl ?_
        exact r_reti (pc := 199) (kd := 0) hC hQ dX10_sentence_199 hr hk (by decide) (Or.inl rfl) ⟨m_worth_7, m_length_8, m_inSentence_9, m_tooLike_10, m_thrown_6, m_areLaid_11, m_areLikeLaid_12, rfl, h⟩
      have h := h.2 hc9
      by_cases hc12 : a2 = 9
      · refine r_tblIn (pc := 42) (tgt := 200) hC dX10_sentence_42 (by rw [hc12]; decide) (by rw [hc12]; decide) (by rw [hc12]; rfl) rfl ?_
        have h := h.1 hc12
        refine r_aload_n (pc := 200) hC 0 dX10_sentence_200 rfl rfl ?_
        refine r_get (kd := 0) (v := (w.1 0 53)) (pc := 201) hC dX10_sentence_201 fl_RX10_221 lM_0 rfl rfl ?_
        refine r_iload_n (pc := 204) hC 3 dX10_sentence_204 rfl rfl ?_
        refine r_iand (pc := 205) hC dX10_sentence_205 ?_
        refine r_if_ne (pc := 206) (tgt := 226) hC dX10_sentence_206 rfl (fun hc11 => ?_) (fun hc11 => ?_)
        · have h := h.1 hc11
          refine r_iconst (pc := 226) hC dX10_sentence_226 (rng_lit rfl) ?_
          refine r_conv (w2 := (wI (wI (wI (wA (wA (wA (wA w 28 m_worth_7) 29 m_length_8) 31 m_inSentence_9) 33 m_tooLike_10) 0 0 m_thrown_6) 0 42 m_areLaid_11) 0 43 m_areLikeLaid_12)) rfl ?_
          exact r_reti (pc := 227) (kd := 0) hC hQ dX10_sentence_227 hr hk (by decide) (Or.inl rfl) ⟨m_worth_7, m_length_8, m_inSentence_9, m_tooLike_10, m_thrown_6, m_areLaid_11, m_areLikeLaid_12, rfl, h⟩
        have h := h.2 hc11
        refine r_aload_n (pc := 209) hC 0 dX10_sentence_209 rfl rfl ?_
        refine r_aload_n (pc := 210) hC 0 dX10_sentence_210 rfl rfl ?_
        refine r_get (kd := 0) (v := (w.1 0 53)) (pc := 211) hC dX10_sentence_211 fl_RX10_221 lM_0 rfl rfl ?_
        refine r_iload_n (pc := 214) hC 3 dX10_sentence_214 rfl rfl ?_
        refine r_ior (pc := 215) hC dX10_sentence_215 ?_
        refine r_callVi (pc := 216) hC [aI (iOr (w.1 0 53) (iShl 1 a1))] [] dX10_sentence_216 ml_RX10_361 my_X10_may mi_X10_may lM_0 rfl rfl ⟨Nat.le_of_ble_eq_true rfl, Nat.le_of_ble_eq_true rfl⟩ ⟨Nat.le_of_ble_eq_true rfl, Nat.le_of_ble_eq_true rfl⟩ (Nat.le_of_ble_eq_true rfl) rfl (s_M_may l _ _ _ h) (fun r24 w1 hq => ?_)
        obtain ⟨e9, h⟩ := hq
        rw [e9]
        refine r_if_eq (pc := 219) (tgt := 226) hC dX10_sentence_219 rfl (fun hc10 => ?_) (fun hc10 => ?_)
        · have h := h.1 hc10
          refine r_iconst (pc := 226) hC dX10_sentence_226 (rng_lit rfl) ?_
          refine r_conv (w2 := (wI (wI (wI (wA (wA (wA (wA w 28 m_worth_7) 29 m_length_8) 31 m_inSentence_9) 33 m_tooLike_10) 0 0 m_thrown_6) 0 42 m_areLaid_11) 0 43 m_areLikeLaid_12)) rfl ?_
          exact r_reti (pc := 227) (kd := 0) hC hQ dX10_sentence_227 hr hk (by decide) (Or.inl rfl) ⟨m_worth_7, m_length_8, m_inSentence_9, m_tooLike_10, m_thrown_6, m_areLaid_11, m_areLikeLaid_12, rfl, h⟩
        have h := h.2 hc10
        refine r_iconst (pc := 222) hC dX10_sentence_222 (rng_lit rfl) ?_
        refine r_goto (tgt := 227) (pc := 223) hC dX10_sentence_223 rfl ?_
        refine r_conv (w2 := (wI (wI (wI (wA (wA (wA (wA w 28 m_worth_7) 29 m_length_8) 31 m_inSentence_9) 33 m_tooLike_10) 0 0 m_thrown_6) 0 42 m_areLaid_11) 0 43 m_areLikeLaid_12)) rfl ?_
        exact r_reti (pc := 227) (kd := 0) hC hQ dX10_sentence_227 hr hk (by decide) (Or.inl rfl) ⟨m_worth_7, m_length_8, m_inSentence_9, m_tooLike_10, m_thrown_6, m_areLaid_11, m_areLikeLaid_12, rfl, h⟩
      have h := h.2 hc12
      refine r_tblOut (pc := 42) (tgt := 228) hC dX10_sentence_42 (tb_out_9 hc1 hc2 hc3 hc4 hc5 hc6 hc7 hc8 hc9 hc12) rfl ?_
      refine r_aload_n (pc := 228) hC 0 dX10_sentence_228 rfl rfl ?_
      refine r_iload_n (pc := 229) hC 1 dX10_sentence_229 rfl rfl ?_
      refine r_callVi (pc := 230) hC [aI a1] [] dX10_sentence_230 ml_RX10_479 my_X10_echoOf mi_X10_echoOf lM_0 rfl rfl ⟨Nat.le_of_ble_eq_true rfl, Nat.le_of_ble_eq_true rfl⟩ ⟨Nat.le_of_ble_eq_true rfl, Nat.le_of_ble_eq_true rfl⟩ (Nat.le_of_ble_eq_true rfl) rfl (s_M_echoOf l _ _ _ h) (fun r25 w1 hq => ?_)
      obtain ⟨e9, h⟩ := hq
      rw [e9]
      refine r_conv (w2 := (wI (wI (wI (wA (wA (wA (wA w 28 m_worth_7) 29 m_length_8) 31 m_inSentence_9) 33 m_tooLike_10) 0 0 m_thrown_6) 0 42 m_areLaid_11) 0 43 m_areLikeLaid_12)) rfl ?_
      exact r_reti (pc := 233) (kd := 0) hC hQ dX10_sentence_233 hr hk (by decide) (Or.inl rfl) ⟨m_worth_7, m_length_8, m_inSentence_9, m_tooLike_10, m_thrown_6, m_areLaid_11, m_areLikeLaid_12, rfl, h⟩
    have h := h.2 hc13
    refine r_iconst (pc := 31) hC dX10_sentence_31 (rng_lit rfl) ?_
    refine r_conv (w2 := (wI (wI (wI (wA (wA (wA (wA w 28 (w.1 28)) 29 (w.1 29)) 31 (w.1 31)) 33 (w.1 33)) 0 0 m_thrown_6) 0 42 (w.1 0 42)) 0 43 (w.1 0 43))) rfl ?_
    exact r_reti (pc := 32) (kd := 0) hC hQ dX10_sentence_32 hr hk (by decide) (Or.inl rfl) ⟨(w.1 28), (w.1 29), (w.1 31), (w.1 33), m_thrown_6, (w.1 0 42), (w.1 0 43), rfl, h⟩
  refine r_if_ne (pc := 16) (tgt := 23) hC dX10_sentence_16 rfl (fun hc14 => ?_) (fun hc14 => ?_)
  · have h := h.1 hc14
    refine r_iconst (pc := 23) hC dX10_sentence_23 (rng_lit rfl) ?_
    exact r_to [true, true, true, false] rfl rfl (S1 0 h)
  have h := h.2 hc14
  refine r_iconst (pc := 19) hC dX10_sentence_19 (rng_lit rfl) ?_
  refine r_goto (tgt := 24) (pc := 20) hC dX10_sentence_20 rfl ?_
  exact r_to [true, true, true, false] rfl rfl (S1 1 h)
def wp_M_noItem (m_thrown : Int) (m_items : Int) (a1 : Int) (Q : Int → Int → Prop) : Prop := (rng (m_items - 1)) ∧ (wp_M_in a1 0 (m_items - 1) (fun (r1 : Int) => jn1 (fun (J1 : Int → Prop) => (¬ r1 = 0 → J1 0) ∧ (r1 = 0 → J1 1)) (fun (y2 : Int) => wp_M_throwsIf 0 y2 1 (fun (r3 : Int) (m_thrown_4 : Int) => (0 ≤ r3 ∧ r3 ≤ 1) ∧ (Q r3 m_thrown_4)))))
set_option maxHeartbeats 4000000 in
set_option maxRecDepth 20000 in
theorem s_M_noItem (l : Launch) (w : St) (a1 : Int) (P : Int → Int → Prop) (h : wp_M_noItem (w.1 0 0) (w.1 0 29) a1 P) : Cn l yX10_noItem cX10_noItem 2 (some .boolean) 1 LM w [aR 0, aI a1] (okI (fun r w1 => ∃ (o0 : Int), w1 = (wI w 0 0 o0) ∧ P r o0)) := by
  unfold wp_M_noItem at h
  refine Cn.of2 [some (aR 0), some (aI a1)] (by decide) (Nat.le_of_ble_eq_true rfl) rfl (fun p e s m args below meth c D cA ad A Q hQ hC hr hk => ?_)
  refine r_aload_n (pc := 0) hC 0 dX10_noItem_0 rfl rfl ?_
  refine r_iconst (pc := 1) hC dX10_noItem_1 (rng_lit rfl) ?_
  refine r_put (kd := 0) (pc := 2) hC dX10_noItem_2 pl_RX10_142 lM_0 rfl (by decide) (Or.inl rfl) ?_
  refine r_aload_n (pc := 5) hC 0 dX10_noItem_5 rfl rfl ?_
  refine r_iload_n (pc := 6) hC 1 dX10_noItem_6 rfl rfl ?_
  refine r_iconst (pc := 7) hC dX10_noItem_7 (rng_lit rfl) ?_
  refine r_aload_n (pc := 8) hC 0 dX10_noItem_8 rfl rfl ?_
  refine r_get (kd := 0) (v := (w.1 0 29)) (pc := 9) hC dX10_noItem_9 fl_RX10_271 lM_0 rfl rfl ?_
  refine r_iconst (pc := 12) hC dX10_noItem_12 (rng_lit rfl) ?_
  refine r_isub (pc := 13) hC dX10_noItem_13 h.1 ?_
  have h := h.2
  refine r_callSi (pc := 14) hC [aI a1, aI 0, aI ((w.1 0 29) - 1)] [aR 0] dX10_noItem_14 ml_RX10_151 my_X10_in ms_X10_in rfl ⟨Nat.le_of_ble_eq_true rfl, Nat.le_of_ble_eq_true rfl⟩ ⟨Nat.le_of_ble_eq_true rfl, Nat.le_of_ble_eq_true rfl⟩ (Nat.le_of_ble_eq_true rfl) rfl (s_M_in l _ _ _ _ _ h) (fun r1 w1 hq => ?_)
  obtain ⟨e9, h⟩ := hq
  rw [e9]
  obtain ⟨J1, hJ1, h⟩ := h
  have S1 : ∀ (y2 : Int), J1 y2 → Wd p l e (rmD 1) s m args below meth c Q 0 0 2 D cA ad A LM (wI w 0 0 0) 25 [none, none] [aI y2, aR 0] := by
    intro y2 hj
    have h := hJ1 y2 hj
    refine r_iconst (pc := 25) hC dX10_noItem_25 (rng_lit rfl) ?_
    refine r_callVi (pc := 26) hC [aI y2, aI 1] [] dX10_noItem_26 ml_RX10_309 my_X10_throwsIf mi_X10_throwsIf lM_0 rfl rfl ⟨Nat.le_of_ble_eq_true rfl, Nat.le_of_ble_eq_true rfl⟩ ⟨Nat.le_of_ble_eq_true rfl, Nat.le_of_ble_eq_true rfl⟩ (Nat.le_of_ble_eq_true rfl) rfl (s_M_throwsIf l _ _ _ _ h) (fun r3 w1 hq => ?_)
    obtain ⟨m_thrown_4, e9, h⟩ := hq
    rw [e9]
    refine r_conv (w2 := (wI w 0 0 m_thrown_4)) rfl ?_
    exact r_reti (pc := 29) (kd := 1) hC hQ dX10_noItem_29 hr hk (by decide) (Or.inr h.1) ⟨m_thrown_4, rfl, h.2⟩
  refine r_if_ne (pc := 17) (tgt := 24) hC dX10_noItem_17 rfl (fun hc1 => ?_) (fun hc1 => ?_)
  · have h := h.1 hc1
    refine r_iconst (pc := 24) hC dX10_noItem_24 (rng_lit rfl) ?_
    exact r_to [false, false] rfl rfl (S1 0 h)
  have h := h.2 hc1
  refine r_iconst (pc := 20) hC dX10_noItem_20 (rng_lit rfl) ?_
  refine r_goto (tgt := 25) (pc := 21) hC dX10_noItem_21 rfl ?_
  exact r_to [false, false] rfl rfl (S1 1 h)
def wp_M_sentencesWith (m_sentenceOf : (Nat → Int)) (m_matchItem : (Nat → Int)) (m_matchFirst : (Nat → Int)) (m_matches : Int) (a1 : Int) (Q : Int → Prop) : Prop := lpw2 (fun (x1 : Int) (x2 : Int) (k1 : Int → Int → Prop) => (m_matches ≤ x2 → Q x1) ∧ (¬ m_matches ≤ x2 → (0 ≤ x2 ∧ x2 < 800) ∧ (jn1 (fun (J2 : Int → Prop) => (¬ (m_matchItem (Int.toNat x2)) = a1 → J2 0) ∧ ((m_matchItem (Int.toNat x2)) = a1 → (0 ≤ x2 ∧ x2 < 800) ∧ ((0 ≤ (m_matchFirst (Int.toNat x2)) ∧ (m_matchFirst (Int.toNat x2)) < 100) ∧ (J2 (iShl 1 (m_sentenceOf (Int.toNat (m_matchFirst (Int.toNat x2))))))))) (fun (y3 : Int) => (rng (x2 + 1)) ∧ (k1 (iOr x1 y3) (x2 + 1)))))) 0 0
set_option maxHeartbeats 4000000 in
set_option maxRecDepth 20000 in
theorem s_M_sentencesWith (l : Launch) (w : St) (a1 : Int) (P : Int → Prop) (h : wp_M_sentencesWith (w.1 7) (w.1 24) (w.1 25) (w.1 0 39) a1 P) : Cn l yX10_sentencesWith cX10_sentencesWith 4 (some .int) 0 LM w [aR 0, aI a1] (okI (fun r w1 => w1 = w ∧ P r)) := by
  unfold wp_M_sentencesWith at h
  refine Cn.of2 [some (aR 0), some (aI a1), none, none] (by decide) (Nat.le_of_ble_eq_true rfl) rfl (fun p e s m args below meth c D cA ad A Q hQ hC hr hk => ?_)
  refine r_iconst (pc := 0) hC dX10_sentencesWith_0 (rng_lit rfl) ?_
  refine r_istore_n (ls2 := [some (aR 0), some (aI a1), some (aI 0), none]) (pc := 1) hC 2 dX10_sentencesWith_1 rfl (by decide) rfl rfl ?_
  refine r_iconst (pc := 2) hC dX10_sentencesWith_2 (rng_lit rfl) ?_
  refine r_istore_n (ls2 := [some (aR 0), some (aI a1), some (aI 0), some (aI 0)]) (pc := 3) hC 3 dX10_sentencesWith_3 rfl (by decide) rfl rfl ?_
  obtain ⟨I1, μ1, hI1, hB1⟩ := h
  have S1 : ∀ (nn : Nat) (x1 : Int) (x2 : Int), μ1 x1 x2 < nn → I1 x1 x2 → Wd p l e (rmD 0) s m args below meth c Q 0 0 4 D cA ad A LM w 4 [some (aR 0), some (aI a1), some (aI x1), some (aI x2)] [] := by
    intro nn
    induction nn with
    | zero => intro x1 x2 hn; exact absurd hn (Nat.not_lt_zero _)
    | succ nn ih1 =>
      intro x1 x2 hn1 hi
      have h := hB1 x1 x2 hi
      refine r_iload_n (pc := 4) hC 3 dX10_sentencesWith_4 rfl rfl ?_
      refine r_aload_n (pc := 5) hC 0 dX10_sentencesWith_5 rfl rfl ?_
      refine r_get (kd := 0) (v := (w.1 0 39)) (pc := 6) hC dX10_sentencesWith_6 fl_RX10_277 lM_0 rfl rfl ?_
      refine r_ic_ge (pc := 9) (tgt := 48) hC dX10_sentencesWith_9 rfl (fun hc2 => ?_) (fun hc2 => ?_)
      · have h := h.1 hc2
        refine r_iload_n (pc := 48) hC 2 dX10_sentencesWith_48 rfl rfl ?_
        exact r_reti (pc := 49) (kd := 0) hC hQ dX10_sentencesWith_49 hr hk (by decide) (Or.inl rfl) ⟨rfl, h⟩
      have h := h.2 hc2
      refine r_iload_n (pc := 12) hC 2 dX10_sentencesWith_12 rfl rfl ?_
      refine r_aload_n (pc := 13) hC 0 dX10_sentencesWith_13 rfl rfl ?_
      refine r_getr (r := 24) (pc := 14) hC dX10_sentencesWith_14 fl_RX10_85 lM_0 rfl ?_
      refine r_iload_n (pc := 17) hC 3 dX10_sentencesWith_17 rfl rfl ?_
      refine r_iald (v := ((w.1 24) (Int.toNat x2))) (pc := 18) hC dX10_sentencesWith_18 lM_24 h.1.1 h.1.2 rfl ?_
      have h := h.2
      refine r_iload_n (pc := 19) hC 1 dX10_sentencesWith_19 rfl rfl ?_
      obtain ⟨J2, hJ2, h⟩ := h
      have S2 : ∀ (y3 : Int), J2 y3 → Wd p l e (rmD 0) s m args below meth c Q 0 0 4 D cA ad A LM w 40 [some (aR 0), some (aI a1), none, some (aI x2)] [aI y3, aI x1] := by
        intro y3 hj
        have h := hJ2 y3 hj
        refine r_ior (pc := 40) hC dX10_sentencesWith_40 ?_
        refine r_istore_n (ls2 := [some (aR 0), some (aI a1), some (aI (iOr x1 y3)), some (aI x2)]) (pc := 41) hC 2 dX10_sentencesWith_41 rfl (by decide) rfl rfl ?_
        refine r_iinc (ls2 := [some (aR 0), some (aI a1), some (aI (iOr x1 y3)), some (aI (x2 + 1))]) (pc := 42) hC dX10_sentencesWith_42 rfl (by decide) rfl h.1 rfl ?_
        have h := h.2
        refine r_goto (tgt := 4) (pc := 45) hC dX10_sentencesWith_45 rfl ?_
        exact r_to [true, true, true, true] rfl rfl (ih1 (iOr x1 y3) (x2 + 1) (Nat.lt_of_lt_of_le h.2 (Nat.le_of_lt_succ hn1)) h.1)
      refine r_ic_ne (pc := 20) (tgt := 39) hC dX10_sentencesWith_20 rfl (fun hc1 => ?_) (fun hc1 => ?_)
      · have h := h.1 hc1
        refine r_iconst (pc := 39) hC dX10_sentencesWith_39 (rng_lit rfl) ?_
        exact r_to [true, true, false, true] rfl rfl (S2 0 h)
      have h := h.2 hc1
      refine r_iconst (pc := 23) hC dX10_sentencesWith_23 (rng_lit rfl) ?_
      refine r_aload_n (pc := 24) hC 0 dX10_sentencesWith_24 rfl rfl ?_
      refine r_getr (r := 7) (pc := 25) hC dX10_sentencesWith_25 fl_RX10_29 lM_0 rfl ?_
      refine r_aload_n (pc := 28) hC 0 dX10_sentencesWith_28 rfl rfl ?_
      refine r_getr (r := 25) (pc := 29) hC dX10_sentencesWith_29 fl_RX10_88 lM_0 rfl ?_
      refine r_iload_n (pc := 32) hC 3 dX10_sentencesWith_32 rfl rfl ?_
      refine r_iald (v := ((w.1 25) (Int.toNat x2))) (pc := 33) hC dX10_sentencesWith_33 lM_25 h.1.1 h.1.2 rfl ?_
      have h := h.2
      refine r_iald (v := ((w.1 7) (Int.toNat ((w.1 25) (Int.toNat x2))))) (pc := 34) hC dX10_sentencesWith_34 lM_7 h.1.1 h.1.2 rfl ?_
      have h := h.2
      refine r_ishl (pc := 35) hC dX10_sentencesWith_35 ?_
      refine r_goto (tgt := 40) (pc := 36) hC dX10_sentencesWith_36 rfl ?_
      exact r_to [true, true, false, true] rfl rfl (S2 (iShl 1 ((w.1 7) (Int.toNat ((w.1 25) (Int.toNat x2))))) h)
  exact r_to [true, true, true, true] rfl rfl (S1 _ 0 0 (Nat.lt_succ_self _) hI1)
def wp_M_matchesOf (m_matchItem : (Nat → Int)) (m_matches : Int) (a1 : Int) (Q : Int → Prop) : Prop := lpw2 (fun (x1 : Int) (x2 : Int) (k1 : Int → Int → Prop) => (m_matches ≤ x2 → Q x1) ∧ (¬ m_matches ≤ x2 → (0 ≤ x2 ∧ x2 < 800) ∧ (jn1 (fun (J2 : Int → Prop) => (¬ (m_matchItem (Int.toNat x2)) = a1 → J2 0) ∧ ((m_matchItem (Int.toNat x2)) = a1 → J2 1)) (fun (y3 : Int) => (rng (x1 + y3)) ∧ ((rng (x2 + 1)) ∧ (k1 (x1 + y3) (x2 + 1))))))) 0 0
set_option maxHeartbeats 4000000 in
set_option maxRecDepth 20000 in
theorem s_M_matchesOf (l : Launch) (w : St) (a1 : Int) (P : Int → Prop) (h : wp_M_matchesOf (w.1 24) (w.1 0 39) a1 P) : Cn l yX10_matchesOf cX10_matchesOf 4 (some .int) 0 LM w [aR 0, aI a1] (okI (fun r w1 => w1 = w ∧ P r)) := by
  unfold wp_M_matchesOf at h
  refine Cn.of2 [some (aR 0), some (aI a1), none, none] (by decide) (Nat.le_of_ble_eq_true rfl) rfl (fun p e s m args below meth c D cA ad A Q hQ hC hr hk => ?_)
  refine r_iconst (pc := 0) hC dX10_matchesOf_0 (rng_lit rfl) ?_
  refine r_istore_n (ls2 := [some (aR 0), some (aI a1), some (aI 0), none]) (pc := 1) hC 2 dX10_matchesOf_1 rfl (by decide) rfl rfl ?_
  refine r_iconst (pc := 2) hC dX10_matchesOf_2 (rng_lit rfl) ?_
  refine r_istore_n (ls2 := [some (aR 0), some (aI a1), some (aI 0), some (aI 0)]) (pc := 3) hC 3 dX10_matchesOf_3 rfl (by decide) rfl rfl ?_
  obtain ⟨I1, μ1, hI1, hB1⟩ := h
  have S1 : ∀ (nn : Nat) (x1 : Int) (x2 : Int), μ1 x1 x2 < nn → I1 x1 x2 → Wd p l e (rmD 0) s m args below meth c Q 0 0 4 D cA ad A LM w 4 [some (aR 0), some (aI a1), some (aI x1), some (aI x2)] [] := by
    intro nn
    induction nn with
    | zero => intro x1 x2 hn; exact absurd hn (Nat.not_lt_zero _)
    | succ nn ih1 =>
      intro x1 x2 hn1 hi
      have h := hB1 x1 x2 hi
      refine r_iload_n (pc := 4) hC 3 dX10_matchesOf_4 rfl rfl ?_
      refine r_aload_n (pc := 5) hC 0 dX10_matchesOf_5 rfl rfl ?_
      refine r_get (kd := 0) (v := (w.1 0 39)) (pc := 6) hC dX10_matchesOf_6 fl_RX10_277 lM_0 rfl rfl ?_
      refine r_ic_ge (pc := 9) (tgt := 36) hC dX10_matchesOf_9 rfl (fun hc2 => ?_) (fun hc2 => ?_)
      · have h := h.1 hc2
        refine r_iload_n (pc := 36) hC 2 dX10_matchesOf_36 rfl rfl ?_
        exact r_reti (pc := 37) (kd := 0) hC hQ dX10_matchesOf_37 hr hk (by decide) (Or.inl rfl) ⟨rfl, h⟩
      have h := h.2 hc2
      refine r_iload_n (pc := 12) hC 2 dX10_matchesOf_12 rfl rfl ?_
      refine r_aload_n (pc := 13) hC 0 dX10_matchesOf_13 rfl rfl ?_
      refine r_getr (r := 24) (pc := 14) hC dX10_matchesOf_14 fl_RX10_85 lM_0 rfl ?_
      refine r_iload_n (pc := 17) hC 3 dX10_matchesOf_17 rfl rfl ?_
      refine r_iald (v := ((w.1 24) (Int.toNat x2))) (pc := 18) hC dX10_matchesOf_18 lM_24 h.1.1 h.1.2 rfl ?_
      have h := h.2
      refine r_iload_n (pc := 19) hC 1 dX10_matchesOf_19 rfl rfl ?_
      obtain ⟨J2, hJ2, h⟩ := h
      have S2 : ∀ (y3 : Int), J2 y3 → Wd p l e (rmD 0) s m args below meth c Q 0 0 4 D cA ad A LM w 28 [some (aR 0), some (aI a1), none, some (aI x2)] [aI y3, aI x1] := by
        intro y3 hj
        have h := hJ2 y3 hj
        refine r_iadd (pc := 28) hC dX10_matchesOf_28 h.1 ?_
        have h := h.2
        refine r_istore_n (ls2 := [some (aR 0), some (aI a1), some (aI (x1 + y3)), some (aI x2)]) (pc := 29) hC 2 dX10_matchesOf_29 rfl (by decide) rfl rfl ?_
        refine r_iinc (ls2 := [some (aR 0), some (aI a1), some (aI (x1 + y3)), some (aI (x2 + 1))]) (pc := 30) hC dX10_matchesOf_30 rfl (by decide) rfl h.1 rfl ?_
        have h := h.2
        refine r_goto (tgt := 4) (pc := 33) hC dX10_matchesOf_33 rfl ?_
        exact r_to [true, true, true, true] rfl rfl (ih1 (x1 + y3) (x2 + 1) (Nat.lt_of_lt_of_le h.2 (Nat.le_of_lt_succ hn1)) h.1)
      refine r_ic_ne (pc := 20) (tgt := 27) hC dX10_matchesOf_20 rfl (fun hc1 => ?_) (fun hc1 => ?_)
      · have h := h.1 hc1
        refine r_iconst (pc := 27) hC dX10_matchesOf_27 (rng_lit rfl) ?_
        exact r_to [true, true, false, true] rfl rfl (S2 0 h)
      have h := h.2 hc1
      refine r_iconst (pc := 23) hC dX10_matchesOf_23 (rng_lit rfl) ?_
      refine r_goto (tgt := 28) (pc := 24) hC dX10_matchesOf_24 rfl ?_
      exact r_to [true, true, false, true] rfl rfl (S2 1 h)
  exact r_to [true, true, true, true] rfl rfl (S1 _ 0 0 (Nat.lt_succ_self _) hI1)
def wp_M_item (m_sentenceOf : (Nat → Int)) (m_weight : (Nat → Int)) (m_terms : (Nat → Int)) (m_soft : (Nat → Int)) (m_matchItem : (Nat → Int)) (m_matchFirst : (Nat → Int)) (m_thrown : Int) (m_items : Int) (m_matches : Int) (a1 : Int) (a2 : Int) (Q : Int → Int → Prop) : Prop := wp_M_noItem m_thrown m_items a1 (fun (r1 : Int) (m_thrown_2 : Int) => (¬ r1 = 0 → Q 0 m_thrown_2) ∧ (r1 = 0 → wp_M_in a2 0 4 (fun (r3 : Int) => jn1 (fun (J1 : Int → Prop) => (¬ r3 = 0 → J1 0) ∧ (r3 = 0 → J1 1)) (fun (y4 : Int) => wp_M_throwsIf m_thrown_2 y4 2 (fun (r5 : Int) (m_thrown_6 : Int) => (r5 = 0 → (a2 = 0 → (0 ≤ a1 ∧ a1 < 8) ∧ (Q (m_weight (Int.toNat a1)) m_thrown_6)) ∧ (¬ a2 = 0 → (a2 = 1 → (0 ≤ a1 ∧ a1 < 8) ∧ (((m_soft (Int.toNat a1)) = 0 → Q 1 m_thrown_6) ∧ (¬ (m_soft (Int.toNat a1)) = 0 → Q 0 m_thrown_6))) ∧ (¬ a2 = 1 → (a2 = 2 → (0 ≤ a1 ∧ a1 < 8) ∧ (Q (m_terms (Int.toNat a1)) m_thrown_6)) ∧ (¬ a2 = 2 → (a2 = 3 → wp_M_matchesOf m_matchItem m_matches a1 (fun (r7 : Int) => Q r7 m_thrown_6)) ∧ (¬ a2 = 3 → wp_M_sentencesWith m_sentenceOf m_matchItem m_matchFirst m_matches a1 (fun (r8 : Int) => Q r8 m_thrown_6)))))) ∧ (¬ r5 = 0 → Q 0 m_thrown_6))))))
set_option maxHeartbeats 4000000 in
set_option maxRecDepth 20000 in
theorem s_M_item (l : Launch) (w : St) (a1 : Int) (a2 : Int) (P : Int → Int → Prop) (h : wp_M_item (w.1 7) (w.1 12) (w.1 13) (w.1 15) (w.1 24) (w.1 25) (w.1 0 0) (w.1 0 29) (w.1 0 39) a1 a2 P) : Cn l yX10_item cX10_item 3 (some .int) 2 LM w [aR 0, aI a1, aI a2] (okI (fun r w1 => ∃ (o0 : Int), w1 = (wI w 0 0 o0) ∧ P r o0)) := by
  unfold wp_M_item at h
  refine Cn.of2 [some (aR 0), some (aI a1), some (aI a2)] (by decide) (Nat.le_of_ble_eq_true rfl) rfl (fun p e s m args below meth c D cA ad A Q hQ hC hr hk => ?_)
  refine r_aload_n (pc := 0) hC 0 dX10_item_0 rfl rfl ?_
  refine r_iload_n (pc := 1) hC 1 dX10_item_1 rfl rfl ?_
  refine r_callVi (pc := 2) hC [aI a1] [] dX10_item_2 ml_RX10_482 my_X10_noItem mi_X10_noItem lM_0 rfl rfl ⟨Nat.le_of_ble_eq_true rfl, Nat.le_of_ble_eq_true rfl⟩ ⟨Nat.le_of_ble_eq_true rfl, Nat.le_of_ble_eq_true rfl⟩ (Nat.le_of_ble_eq_true rfl) rfl (s_M_noItem l _ _ _ h) (fun r1 w1 hq => ?_)
  obtain ⟨m_thrown_2, e9, h⟩ := hq
  rw [e9]
  refine r_if_ne (pc := 5) (tgt := 30) hC dX10_item_5 rfl (fun hc8 => ?_) (fun hc8 => ?_)
  · have h := h.1 hc8
    refine r_iconst (pc := 30) hC dX10_item_30 (rng_lit rfl) ?_
    refine r_conv (w2 := (wI w 0 0 m_thrown_2)) rfl ?_
    exact r_reti (pc := 31) (kd := 0) hC hQ dX10_item_31 hr hk (by decide) (Or.inl rfl) ⟨m_thrown_2, rfl, h⟩
  have h := h.2 hc8
  refine r_aload_n (pc := 8) hC 0 dX10_item_8 rfl rfl ?_
  refine r_iload_n (pc := 9) hC 2 dX10_item_9 rfl rfl ?_
  refine r_iconst (pc := 10) hC dX10_item_10 (rng_lit rfl) ?_
  refine r_iconst (pc := 11) hC dX10_item_11 (rng_lit rfl) ?_
  refine r_callSi (pc := 12) hC [aI a2, aI 0, aI 4] [aR 0] dX10_item_12 ml_RX10_151 my_X10_in ms_X10_in rfl ⟨Nat.le_of_ble_eq_true rfl, Nat.le_of_ble_eq_true rfl⟩ ⟨Nat.le_of_ble_eq_true rfl, Nat.le_of_ble_eq_true rfl⟩ (Nat.le_of_ble_eq_true rfl) rfl (s_M_in l _ _ _ _ _ h) (fun r3 w1 hq => ?_)
  obtain ⟨e9, h⟩ := hq
  rw [e9]
  obtain ⟨J1, hJ1, h⟩ := h
  have S1 : ∀ (y4 : Int), J1 y4 → Wd p l e (rmD 2) s m args below meth c Q 0 0 3 D cA ad A LM (wI w 0 0 m_thrown_2) 23 [some (aR 0), some (aI a1), some (aI a2)] [aI y4, aR 0] := by
    intro y4 hj
    have h := hJ1 y4 hj
    refine r_iconst (pc := 23) hC dX10_item_23 (rng_lit rfl) ?_
    refine r_callVi (pc := 24) hC [aI y4, aI 2] [] dX10_item_24 ml_RX10_309 my_X10_throwsIf mi_X10_throwsIf lM_0 rfl rfl ⟨Nat.le_of_ble_eq_true rfl, Nat.le_of_ble_eq_true rfl⟩ ⟨Nat.le_of_ble_eq_true rfl, Nat.le_of_ble_eq_true rfl⟩ (Nat.le_of_ble_eq_true rfl) rfl (s_M_throwsIf l _ _ _ _ h) (fun r5 w1 hq => ?_)
    obtain ⟨m_thrown_6, e9, h⟩ := hq
    rw [e9]
    refine r_if_eq (pc := 27) (tgt := 32) hC dX10_item_27 rfl (fun hc6 => ?_) (fun hc6 => ?_)
    · have h := h.1 hc6
      refine r_iload_n (pc := 32) hC 2 dX10_item_32 rfl rfl ?_
      by_cases hc1 : a2 = 0
      · refine r_tblIn (pc := 33) (tgt := 64) hC dX10_item_33 (by rw [hc1]; decide) (by rw [hc1]; decide) (by rw [hc1]; rfl) rfl ?_
        have h := h.1 hc1
        refine r_aload_n (pc := 64) hC 0 dX10_item_64 rfl rfl ?_
        refine r_getr (r := 12) (pc := 65) hC dX10_item_65 fl_RX10_45 lM_0 rfl ?_
        refine r_iload_n (pc := 68) hC 1 dX10_item_68 rfl rfl ?_
        refine r_iald (v := ((w.1 12) (Int.toNat a1))) (pc := 69) hC dX10_item_69 lM_12 h.1.1 h.1.2 rfl ?_
        have h := h.2
        refine r_conv (w2 := (wI w 0 0 m_thrown_6)) rfl ?_
        exact r_reti (pc := 70) (kd := 0) hC hQ dX10_item_70 hr hk (by decide) (Or.inl rfl) ⟨m_thrown_6, rfl, h⟩
      have h := h.2 hc1
      by_cases hc3 : a2 = 1
      · refine r_tblIn (pc := 33) (tgt := 71) hC dX10_item_33 (by rw [hc3]; decide) (by rw [hc3]; decide) (by rw [hc3]; rfl) rfl ?_
        have h := h.1 hc3
        refine r_aload_n (pc := 71) hC 0 dX10_item_71 rfl rfl ?_
        refine r_getr (r := 15) (pc := 72) hC dX10_item_72 fl_RX10_54 lM_0 rfl ?_
        refine r_iload_n (pc := 75) hC 1 dX10_item_75 rfl rfl ?_
        refine r_zald (v := ((w.1 15) (Int.toNat a1))) (pc := 76) hC dX10_item_76 lM_15 h.1.1 h.1.2 rfl ?_
        have h := h.2
        refine r_if_eq (pc := 77) (tgt := 84) hC dX10_item_77 rfl (fun hc2 => ?_) (fun hc2 => ?_)
        · have h := h.1 hc2
          refine r_iconst (pc := 84) hC dX10_item_84 (rng_lit rfl) ?_
          refine r_conv (w2 := (wI w 0 0 m_thrown_6)) rfl ?_
          exact r_reti (pc := 85) (kd := 0) hC hQ dX10_item_85 hr hk (by decide) (Or.inl rfl) ⟨m_thrown_6, rfl, h⟩
        have h := h.2 hc2
        refine r_iconst (pc := 80) hC dX10_item_80 (rng_lit rfl) ?_
        refine r_goto (tgt := 85) (pc := 81) hC dX10_item_81 rfl ?_
        refine r_conv (w2 := (wI w 0 0 m_thrown_6)) rfl ?_
        exact r_reti (pc := 85) (kd := 0) hC hQ dX10_item_85 hr hk (by decide) (Or.inl rfl) ⟨m_thrown_6, rfl, h⟩
      have h := h.2 hc3
      by_cases hc4 : a2 = 2
      · refine r_tblIn (pc := 33) (tgt := 86) hC dX10_item_33 (by rw [hc4]; decide) (by rw [hc4]; decide) (by rw [hc4]; rfl) rfl ?_
        have h := h.1 hc4
        refine r_aload_n (pc := 86) hC 0 dX10_item_86 rfl rfl ?_
        refine r_getr (r := 13) (pc := 87) hC dX10_item_87 fl_RX10_48 lM_0 rfl ?_
        refine r_iload_n (pc := 90) hC 1 dX10_item_90 rfl rfl ?_
        refine r_iald (v := ((w.1 13) (Int.toNat a1))) (pc := 91) hC dX10_item_91 lM_13 h.1.1 h.1.2 rfl ?_
        have h := h.2
        refine r_conv (w2 := (wI w 0 0 m_thrown_6)) rfl ?_
        exact r_reti (pc := 92) (kd := 0) hC hQ dX10_item_92 hr hk (by decide) (Or.inl rfl) ⟨m_thrown_6, rfl, h⟩
      have h := h.2 hc4
      by_cases hc5 : a2 = 3
      · refine r_tblIn (pc := 33) (tgt := 93) hC dX10_item_33 (by rw [hc5]; decide) (by rw [hc5]; decide) (by rw [hc5]; rfl) rfl ?_
        have h := h.1 hc5
        refine r_aload_n (pc := 93) hC 0 dX10_item_93 rfl rfl ?_
        refine r_iload_n (pc := 94) hC 1 dX10_item_94 rfl rfl ?_
        refine r_callVi (pc := 95) hC [aI a1] [] dX10_item_95 ml_RX10_485 my_X10_matchesOf mi_X10_matchesOf lM_0 rfl rfl ⟨Nat.le_of_ble_eq_true rfl, Nat.le_of_ble_eq_true rfl⟩ ⟨Nat.le_of_ble_eq_true rfl, Nat.le_of_ble_eq_true rfl⟩ (Nat.le_of_ble_eq_true rfl) rfl (s_M_matchesOf l _ _ _ h) (fun r7 w1 hq => ?_)
        obtain ⟨e9, h⟩ := hq
        rw [e9]
        refine r_conv (w2 := (wI w 0 0 m_thrown_6)) rfl ?_
        exact r_reti (pc := 98) (kd := 0) hC hQ dX10_item_98 hr hk (by decide) (Or.inl rfl) ⟨m_thrown_6, rfl, h⟩
      have h := h.2 hc5
      refine r_tblOut (pc := 33) (tgt := 99) hC dX10_item_33 (tb_out_3 hc1 hc3 hc4 hc5) rfl ?_
      refine r_aload_n (pc := 99) hC 0 dX10_item_99 rfl rfl ?_
      refine r_iload_n (pc := 100) hC 1 dX10_item_100 rfl rfl ?_
      refine r_callVi (pc := 101) hC [aI a1] [] dX10_item_101 ml_RX10_488 my_X10_sentencesWith mi_X10_sentencesWith lM_0 rfl rfl ⟨Nat.le_of_ble_eq_true rfl, Nat.le_of_ble_eq_true rfl⟩ ⟨Nat.le_of_ble_eq_true rfl, Nat.le_of_ble_eq_true rfl⟩ (Nat.le_of_ble_eq_true rfl) rfl (s_M_sentencesWith l _ _ _ h) (fun r8 w1 hq => ?_)
      obtain ⟨e9, h⟩ := hq
      rw [e9]
      refine r_conv (w2 := (wI w 0 0 m_thrown_6)) rfl ?_
      exact r_reti (pc := 104) (kd := 0) hC hQ dX10_item_104 hr hk (by decide) (Or.inl rfl) ⟨m_thrown_6, rfl, h⟩
    have h := h.2 hc6
    refine r_iconst (pc := 30) hC dX10_item_30 (rng_lit rfl) ?_
    refine r_conv (w2 := (wI w 0 0 m_thrown_6)) rfl ?_
    exact r_reti (pc := 31) (kd := 0) hC hQ dX10_item_31 hr hk (by decide) (Or.inl rfl) ⟨m_thrown_6, rfl, h⟩
  refine r_if_ne (pc := 15) (tgt := 22) hC dX10_item_15 rfl (fun hc7 => ?_) (fun hc7 => ?_)
  · have h := h.1 hc7
    refine r_iconst (pc := 22) hC dX10_item_22 (rng_lit rfl) ?_
    exact r_to [true, true, true] rfl rfl (S1 0 h)
  have h := h.2 hc7
  refine r_iconst (pc := 18) hC dX10_item_18 (rng_lit rfl) ?_
  refine r_goto (tgt := 23) (pc := 19) hC dX10_item_19 rfl ?_
  exact r_to [true, true, true] rfl rfl (S1 1 h)
def wp_M_fits (m_page : (Nat → Int)) (m_signAt : (Nat → Int)) (m_wordFrom : (Nat → Int)) (m_wordTo : (Nat → Int)) (m_terms : (Nat → Int)) (m_termMany : (Nat → Int)) (m_star : (Nat → Int)) (m_term : (Nat → Int)) (m_thrown : Int) (m_signs : Int) (m_words : Int) (m_items : Int) (a1 : Int) (a2 : Int) (a3 : Int) (Q : Int → Int → Prop) : Prop := wp_M_noItem m_thrown m_items a1 (fun (r1 : Int) (m_thrown_2 : Int) => (¬ r1 = 0 → Q 0 m_thrown_2) ∧ (r1 = 0 → (rng (m_words - 1)) ∧ (wp_M_in a3 0 (m_words - 1) (fun (r3 : Int) => jn1 (fun (J1 : Int → Prop) => (¬ r3 = 0 → J1 0) ∧ (r3 = 0 → J1 1)) (fun (y4 : Int) => wp_M_throwsIf m_thrown_2 y4 1 (fun (r5 : Int) (m_thrown_6 : Int) => (r5 = 0 → (0 ≤ a1 ∧ a1 < 8) ∧ ((rng ((m_terms (Int.toNat a1)) - 1)) ∧ (wp_M_in a2 0 ((m_terms (Int.toNat a1)) - 1) (fun (r7 : Int) => (r7 = 0 → Q 0 m_thrown_6) ∧ (¬ r7 = 0 → wp_M_fitsOne m_page m_signAt m_wordFrom m_wordTo m_termMany m_star m_term m_signs a1 a2 a3 (fun (r8 : Int) => (r8 = 0 → Q 0 m_thrown_6) ∧ (¬ r8 = 0 → Q 1 m_thrown_6))))))) ∧ (¬ r5 = 0 → Q 0 m_thrown_6)))))))
set_option maxHeartbeats 4000000 in
set_option maxRecDepth 20000 in
theorem s_M_fits (l : Launch) (w : St) (a1 : Int) (a2 : Int) (a3 : Int) (P : Int → Int → Prop) (h : wp_M_fits (w.1 3) (w.1 4) (w.1 5) (w.1 6) (w.1 13) (w.1 14) (w.1 16) (w.1 17) (w.1 0 0) (w.1 0 7) (w.1 0 12) (w.1 0 29) a1 a2 a3 P) : Cn l yX10_fits cX10_fits 4 (some .boolean) 3 LM w [aR 0, aI a1, aI a2, aI a3] (okI (fun r w1 => ∃ (o0 : Int), w1 = (wI w 0 0 o0) ∧ P r o0)) := by
  unfold wp_M_fits at h
  refine Cn.of2 [some (aR 0), some (aI a1), some (aI a2), some (aI a3)] (by decide) (Nat.le_of_ble_eq_true rfl) rfl (fun p e s m args below meth c D cA ad A Q hQ hC hr hk => ?_)
  refine r_aload_n (pc := 0) hC 0 dX10_fits_0 rfl rfl ?_
  refine r_iload_n (pc := 1) hC 1 dX10_fits_1 rfl rfl ?_
  refine r_callVi (pc := 2) hC [aI a1] [] dX10_fits_2 ml_RX10_482 my_X10_noItem mi_X10_noItem lM_0 rfl rfl ⟨Nat.le_of_ble_eq_true rfl, Nat.le_of_ble_eq_true rfl⟩ ⟨Nat.le_of_ble_eq_true rfl, Nat.le_of_ble_eq_true rfl⟩ (Nat.le_of_ble_eq_true rfl) rfl (s_M_noItem l _ _ _ h) (fun r1 w1 hq => ?_)
  obtain ⟨m_thrown_2, e9, h⟩ := hq
  rw [e9]
  refine r_if_ne (pc := 5) (tgt := 35) hC dX10_fits_5 rfl (fun hc5 => ?_) (fun hc5 => ?_)
  · have h := h.1 hc5
    refine r_iconst (pc := 35) hC dX10_fits_35 (rng_lit rfl) ?_
    refine r_conv (w2 := (wI w 0 0 m_thrown_2)) rfl ?_
    exact r_reti (pc := 36) (kd := 1) hC hQ dX10_fits_36 hr hk (by decide) (Or.inr okK1_0) ⟨m_thrown_2, rfl, h⟩
  have h := h.2 hc5
  refine r_aload_n (pc := 8) hC 0 dX10_fits_8 rfl rfl ?_
  refine r_iload_n (pc := 9) hC 3 dX10_fits_9 rfl rfl ?_
  refine r_iconst (pc := 10) hC dX10_fits_10 (rng_lit rfl) ?_
  refine r_aload_n (pc := 11) hC 0 dX10_fits_11 rfl rfl ?_
  refine r_get (kd := 0) (v := (w.1 0 12)) (pc := 12) hC dX10_fits_12 fl_RX10_179 lM_0 rfl rfl ?_
  refine r_iconst (pc := 15) hC dX10_fits_15 (rng_lit rfl) ?_
  refine r_isub (pc := 16) hC dX10_fits_16 h.1 ?_
  have h := h.2
  refine r_callSi (pc := 17) hC [aI a3, aI 0, aI ((w.1 0 12) - 1)] [aR 0] dX10_fits_17 ml_RX10_151 my_X10_in ms_X10_in rfl ⟨Nat.le_of_ble_eq_true rfl, Nat.le_of_ble_eq_true rfl⟩ ⟨Nat.le_of_ble_eq_true rfl, Nat.le_of_ble_eq_true rfl⟩ (Nat.le_of_ble_eq_true rfl) rfl (s_M_in l _ _ _ _ _ h) (fun r3 w1 hq => ?_)
  obtain ⟨e9, h⟩ := hq
  rw [e9]
  obtain ⟨J1, hJ1, h⟩ := h
  have S1 : ∀ (y4 : Int), J1 y4 → Wd p l e (rmD 3) s m args below meth c Q 0 0 4 D cA ad A LM (wI w 0 0 m_thrown_2) 28 [some (aR 0), some (aI a1), some (aI a2), some (aI a3)] [aI y4, aR 0] := by
    intro y4 hj
    have h := hJ1 y4 hj
    refine r_iconst (pc := 28) hC dX10_fits_28 (rng_lit rfl) ?_
    refine r_callVi (pc := 29) hC [aI y4, aI 1] [] dX10_fits_29 ml_RX10_309 my_X10_throwsIf mi_X10_throwsIf lM_0 rfl rfl ⟨Nat.le_of_ble_eq_true rfl, Nat.le_of_ble_eq_true rfl⟩ ⟨Nat.le_of_ble_eq_true rfl, Nat.le_of_ble_eq_true rfl⟩ (Nat.le_of_ble_eq_true rfl) rfl (s_M_throwsIf l _ _ _ _ h) (fun r5 w1 hq => ?_)
    obtain ⟨m_thrown_6, e9, h⟩ := hq
    rw [e9]
    refine r_if_eq (pc := 32) (tgt := 37) hC dX10_fits_32 rfl (fun hc3 => ?_) (fun hc3 => ?_)
    · have h := h.1 hc3
      refine r_iload_n (pc := 37) hC 2 dX10_fits_37 rfl rfl ?_
      refine r_iconst (pc := 38) hC dX10_fits_38 (rng_lit rfl) ?_
      refine r_aload_n (pc := 39) hC 0 dX10_fits_39 rfl rfl ?_
      refine r_getr (r := 13) (pc := 40) hC dX10_fits_40 fl_RX10_48 lM_0 rfl ?_
      refine r_iload_n (pc := 43) hC 1 dX10_fits_43 rfl rfl ?_
      refine r_iald (v := ((w.1 13) (Int.toNat a1))) (pc := 44) hC dX10_fits_44 lM_13 h.1.1 h.1.2 rfl ?_
      have h := h.2
      refine r_iconst (pc := 45) hC dX10_fits_45 (rng_lit rfl) ?_
      refine r_isub (pc := 46) hC dX10_fits_46 h.1 ?_
      have h := h.2
      refine r_callSi (pc := 47) hC [aI a2, aI 0, aI (((w.1 13) (Int.toNat a1)) - 1)] [] dX10_fits_47 ml_RX10_151 my_X10_in ms_X10_in rfl ⟨Nat.le_of_ble_eq_true rfl, Nat.le_of_ble_eq_true rfl⟩ ⟨Nat.le_of_ble_eq_true rfl, Nat.le_of_ble_eq_true rfl⟩ (Nat.le_of_ble_eq_true rfl) rfl (s_M_in l _ _ _ _ _ h) (fun r7 w1 hq => ?_)
      obtain ⟨e9, h⟩ := hq
      rw [e9]
      refine r_if_eq (pc := 50) (tgt := 67) hC dX10_fits_50 rfl (fun hc2 => ?_) (fun hc2 => ?_)
      · have h := h.1 hc2
        refine r_iconst (pc := 67) hC dX10_fits_67 (rng_lit rfl) ?_
        refine r_conv (w2 := (wI w 0 0 m_thrown_6)) rfl ?_
        exact r_reti (pc := 68) (kd := 1) hC hQ dX10_fits_68 hr hk (by decide) (Or.inr okK1_0) ⟨m_thrown_6, rfl, h⟩
      have h := h.2 hc2
      refine r_aload_n (pc := 53) hC 0 dX10_fits_53 rfl rfl ?_
      refine r_iload_n (pc := 54) hC 1 dX10_fits_54 rfl rfl ?_
      refine r_iload_n (pc := 55) hC 2 dX10_fits_55 rfl rfl ?_
      refine r_iload_n (pc := 56) hC 3 dX10_fits_56 rfl rfl ?_
      refine r_callVi (pc := 57) hC [aI a1, aI a2, aI a3] [] dX10_fits_57 ml_RX10_274 my_X10_fitsOne mi_X10_fitsOne lM_0 rfl rfl ⟨Nat.le_of_ble_eq_true rfl, Nat.le_of_ble_eq_true rfl⟩ ⟨Nat.le_of_ble_eq_true rfl, Nat.le_of_ble_eq_true rfl⟩ (Nat.le_of_ble_eq_true rfl) rfl (s_M_fitsOne l _ _ _ _ _ h) (fun r8 w1 hq => ?_)
      obtain ⟨e9, h⟩ := hq
      rw [e9]
      refine r_if_eq (pc := 60) (tgt := 67) hC dX10_fits_60 rfl (fun hc1 => ?_) (fun hc1 => ?_)
      · have h := h.1 hc1
        refine r_iconst (pc := 67) hC dX10_fits_67 (rng_lit rfl) ?_
        refine r_conv (w2 := (wI w 0 0 m_thrown_6)) rfl ?_
        exact r_reti (pc := 68) (kd := 1) hC hQ dX10_fits_68 hr hk (by decide) (Or.inr okK1_0) ⟨m_thrown_6, rfl, h⟩
      have h := h.2 hc1
      refine r_iconst (pc := 63) hC dX10_fits_63 (rng_lit rfl) ?_
      refine r_goto (tgt := 68) (pc := 64) hC dX10_fits_64 rfl ?_
      refine r_conv (w2 := (wI w 0 0 m_thrown_6)) rfl ?_
      exact r_reti (pc := 68) (kd := 1) hC hQ dX10_fits_68 hr hk (by decide) (Or.inr okK1_1) ⟨m_thrown_6, rfl, h⟩
    have h := h.2 hc3
    refine r_iconst (pc := 35) hC dX10_fits_35 (rng_lit rfl) ?_
    refine r_conv (w2 := (wI w 0 0 m_thrown_6)) rfl ?_
    exact r_reti (pc := 36) (kd := 1) hC hQ dX10_fits_36 hr hk (by decide) (Or.inr okK1_0) ⟨m_thrown_6, rfl, h⟩
  refine r_if_ne (pc := 20) (tgt := 27) hC dX10_fits_20 rfl (fun hc4 => ?_) (fun hc4 => ?_)
  · have h := h.1 hc4
    refine r_iconst (pc := 27) hC dX10_fits_27 (rng_lit rfl) ?_
    exact r_to [true, true, true, true] rfl rfl (S1 0 h)
  have h := h.2 hc4
  refine r_iconst (pc := 23) hC dX10_fits_23 (rng_lit rfl) ?_
  refine r_goto (tgt := 28) (pc := 24) hC dX10_fits_24 rfl ?_
  exact r_to [true, true, true, true] rfl rfl (S1 1 h)
def wp_M_match (m_matchItem : (Nat → Int)) (m_matchFirst : (Nat → Int)) (m_matchLast : (Nat → Int)) (m_thrown : Int) (m_matches : Int) (a1 : Int) (a2 : Int) (Q : Int → Int → Prop) : Prop := (rng (m_matches - 1)) ∧ (wp_M_in a1 0 (m_matches - 1) (fun (r1 : Int) => jn1 (fun (J1 : Int → Prop) => (¬ r1 = 0 → J1 0) ∧ (r1 = 0 → J1 1)) (fun (y2 : Int) => wp_M_throwsIf 0 y2 1 (fun (r3 : Int) (m_thrown_4 : Int) => (¬ r3 = 0 → Q 0 m_thrown_4) ∧ (r3 = 0 → wp_M_in a2 0 2 (fun (r5 : Int) => jn1 (fun (J2 : Int → Prop) => (¬ r5 = 0 → J2 0) ∧ (r5 = 0 → J2 1)) (fun (y6 : Int) => wp_M_throwsIf m_thrown_4 y6 2 (fun (r7 : Int) (m_thrown_8 : Int) => (r7 = 0 → (¬ a2 = 0 → (¬ a2 = 1 → (0 ≤ a1 ∧ a1 < 800) ∧ (Q (m_matchLast (Int.toNat a1)) m_thrown_8)) ∧ (a2 = 1 → (0 ≤ a1 ∧ a1 < 800) ∧ (Q (m_matchFirst (Int.toNat a1)) m_thrown_8))) ∧ (a2 = 0 → (0 ≤ a1 ∧ a1 < 800) ∧ (Q (m_matchItem (Int.toNat a1)) m_thrown_8))) ∧ (¬ r7 = 0 → Q 0 m_thrown_8)))))))))
set_option maxHeartbeats 4000000 in
set_option maxRecDepth 20000 in
theorem s_M_match (l : Launch) (w : St) (a1 : Int) (a2 : Int) (P : Int → Int → Prop) (h : wp_M_match (w.1 24) (w.1 25) (w.1 26) (w.1 0 0) (w.1 0 39) a1 a2 P) : Cn l yX10_match cX10_match 3 (some .int) 1 LM w [aR 0, aI a1, aI a2] (okI (fun r w1 => ∃ (o0 : Int), w1 = (wI w 0 0 o0) ∧ P r o0)) := by
  unfold wp_M_match at h
  refine Cn.of2 [some (aR 0), some (aI a1), some (aI a2)] (by decide) (Nat.le_of_ble_eq_true rfl) rfl (fun p e s m args below meth c D cA ad A Q hQ hC hr hk => ?_)
  refine r_aload_n (pc := 0) hC 0 dX10_match_0 rfl rfl ?_
  refine r_iconst (pc := 1) hC dX10_match_1 (rng_lit rfl) ?_
  refine r_put (kd := 0) (pc := 2) hC dX10_match_2 pl_RX10_142 lM_0 rfl (by decide) (Or.inl rfl) ?_
  refine r_aload_n (pc := 5) hC 0 dX10_match_5 rfl rfl ?_
  refine r_iload_n (pc := 6) hC 1 dX10_match_6 rfl rfl ?_
  refine r_iconst (pc := 7) hC dX10_match_7 (rng_lit rfl) ?_
  refine r_aload_n (pc := 8) hC 0 dX10_match_8 rfl rfl ?_
  refine r_get (kd := 0) (v := (w.1 0 39)) (pc := 9) hC dX10_match_9 fl_RX10_277 lM_0 rfl rfl ?_
  refine r_iconst (pc := 12) hC dX10_match_12 (rng_lit rfl) ?_
  refine r_isub (pc := 13) hC dX10_match_13 h.1 ?_
  have h := h.2
  refine r_callSi (pc := 14) hC [aI a1, aI 0, aI ((w.1 0 39) - 1)] [aR 0] dX10_match_14 ml_RX10_151 my_X10_in ms_X10_in rfl ⟨Nat.le_of_ble_eq_true rfl, Nat.le_of_ble_eq_true rfl⟩ ⟨Nat.le_of_ble_eq_true rfl, Nat.le_of_ble_eq_true rfl⟩ (Nat.le_of_ble_eq_true rfl) rfl (s_M_in l _ _ _ _ _ h) (fun r1 w1 hq => ?_)
  obtain ⟨e9, h⟩ := hq
  rw [e9]
  obtain ⟨J1, hJ1, h⟩ := h
  have S1 : ∀ (y2 : Int), J1 y2 → Wd p l e (rmD 1) s m args below meth c Q 0 0 3 D cA ad A LM (wI w 0 0 0) 25 [some (aR 0), some (aI a1), some (aI a2)] [aI y2, aR 0] := by
    intro y2 hj
    have h := hJ1 y2 hj
    refine r_iconst (pc := 25) hC dX10_match_25 (rng_lit rfl) ?_
    refine r_callVi (pc := 26) hC [aI y2, aI 1] [] dX10_match_26 ml_RX10_309 my_X10_throwsIf mi_X10_throwsIf lM_0 rfl rfl ⟨Nat.le_of_ble_eq_true rfl, Nat.le_of_ble_eq_true rfl⟩ ⟨Nat.le_of_ble_eq_true rfl, Nat.le_of_ble_eq_true rfl⟩ (Nat.le_of_ble_eq_true rfl) rfl (s_M_throwsIf l _ _ _ _ h) (fun r3 w1 hq => ?_)
    obtain ⟨m_thrown_4, e9, h⟩ := hq
    rw [e9]
    refine r_if_ne (pc := 29) (tgt := 54) hC dX10_match_29 rfl (fun hc5 => ?_) (fun hc5 => ?_)
    · have h := h.1 hc5
      refine r_iconst (pc := 54) hC dX10_match_54 (rng_lit rfl) ?_
      refine r_conv (w2 := (wI w 0 0 m_thrown_4)) rfl ?_
      exact r_reti (pc := 55) (kd := 0) hC hQ dX10_match_55 hr hk (by decide) (Or.inl rfl) ⟨m_thrown_4, rfl, h⟩
    have h := h.2 hc5
    refine r_aload_n (pc := 32) hC 0 dX10_match_32 rfl rfl ?_
    refine r_iload_n (pc := 33) hC 2 dX10_match_33 rfl rfl ?_
    refine r_iconst (pc := 34) hC dX10_match_34 (rng_lit rfl) ?_
    refine r_iconst (pc := 35) hC dX10_match_35 (rng_lit rfl) ?_
    refine r_callSi (pc := 36) hC [aI a2, aI 0, aI 2] [aR 0] dX10_match_36 ml_RX10_151 my_X10_in ms_X10_in rfl ⟨Nat.le_of_ble_eq_true rfl, Nat.le_of_ble_eq_true rfl⟩ ⟨Nat.le_of_ble_eq_true rfl, Nat.le_of_ble_eq_true rfl⟩ (Nat.le_of_ble_eq_true rfl) rfl (s_M_in l _ _ _ _ _ h) (fun r5 w1 hq => ?_)
    obtain ⟨e9, h⟩ := hq
    rw [e9]
    obtain ⟨J2, hJ2, h⟩ := h
    have S2 : ∀ (y6 : Int), J2 y6 → Wd p l e (rmD 1) s m args below meth c Q 0 0 3 D cA ad A LM (wI w 0 0 m_thrown_4) 47 [some (aR 0), some (aI a1), some (aI a2)] [aI y6, aR 0] := by
      intro y6 hj
      have h := hJ2 y6 hj
      refine r_iconst (pc := 47) hC dX10_match_47 (rng_lit rfl) ?_
      refine r_callVi (pc := 48) hC [aI y6, aI 2] [] dX10_match_48 ml_RX10_309 my_X10_throwsIf mi_X10_throwsIf lM_0 rfl rfl ⟨Nat.le_of_ble_eq_true rfl, Nat.le_of_ble_eq_true rfl⟩ ⟨Nat.le_of_ble_eq_true rfl, Nat.le_of_ble_eq_true rfl⟩ (Nat.le_of_ble_eq_true rfl) rfl (s_M_throwsIf l _ _ _ _ h) (fun r7 w1 hq => ?_)
      obtain ⟨m_thrown_8, e9, h⟩ := hq
      rw [e9]
      refine r_if_eq (pc := 51) (tgt := 56) hC dX10_match_51 rfl (fun hc3 => ?_) (fun hc3 => ?_)
      · have h := h.1 hc3
        refine r_iload_n (pc := 56) hC 2 dX10_match_56 rfl rfl ?_
        refine r_if_ne (pc := 57) (tgt := 69) hC dX10_match_57 rfl (fun hc2 => ?_) (fun hc2 => ?_)
        · have h := h.1 hc2
          refine r_iload_n (pc := 69) hC 2 dX10_match_69 rfl rfl ?_
          refine r_iconst (pc := 70) hC dX10_match_70 (rng_lit rfl) ?_
          refine r_ic_ne (pc := 71) (tgt := 83) hC dX10_match_71 rfl (fun hc1 => ?_) (fun hc1 => ?_)
          · have h := h.1 hc1
            refine r_aload_n (pc := 83) hC 0 dX10_match_83 rfl rfl ?_
            refine r_getr (r := 26) (pc := 84) hC dX10_match_84 fl_RX10_91 lM_0 rfl ?_
            refine r_iload_n (pc := 87) hC 1 dX10_match_87 rfl rfl ?_
            refine r_iald (v := ((w.1 26) (Int.toNat a1))) (pc := 88) hC dX10_match_88 lM_26 h.1.1 h.1.2 rfl ?_
            have h := h.2
            refine r_conv (w2 := (wI w 0 0 m_thrown_8)) rfl ?_
            exact r_reti (pc := 89) (kd := 0) hC hQ dX10_match_89 hr hk (by decide) (Or.inl rfl) ⟨m_thrown_8, rfl, h⟩
          have h := h.2 hc1
          refine r_aload_n (pc := 74) hC 0 dX10_match_74 rfl rfl ?_
          refine r_getr (r := 25) (pc := 75) hC dX10_match_75 fl_RX10_88 lM_0 rfl ?_
          refine r_iload_n (pc := 78) hC 1 dX10_match_78 rfl rfl ?_
          refine r_iald (v := ((w.1 25) (Int.toNat a1))) (pc := 79) hC dX10_match_79 lM_25 h.1.1 h.1.2 rfl ?_
          have h := h.2
          refine r_goto (tgt := 89) (pc := 80) hC dX10_match_80 rfl ?_
          refine r_conv (w2 := (wI w 0 0 m_thrown_8)) rfl ?_
          exact r_reti (pc := 89) (kd := 0) hC hQ dX10_match_89 hr hk (by decide) (Or.inl rfl) ⟨m_thrown_8, rfl, h⟩
        have h := h.2 hc2
        refine r_aload_n (pc := 60) hC 0 dX10_match_60 rfl rfl ?_
        refine r_getr (r := 24) (pc := 61) hC dX10_match_61 fl_RX10_85 lM_0 rfl ?_
        refine r_iload_n (pc := 64) hC 1 dX10_match_64 rfl rfl ?_
        refine r_iald (v := ((w.1 24) (Int.toNat a1))) (pc := 65) hC dX10_match_65 lM_24 h.1.1 h.1.2 rfl ?_
        have h := h.2
        refine r_goto (tgt := 89) (pc := 66) hC dX10_match_66 rfl ?_
        refine r_conv (w2 := (wI w 0 0 m_thrown_8)) rfl ?_
        exact r_reti (pc := 89) (kd := 0) hC hQ dX10_match_89 hr hk (by decide) (Or.inl rfl) ⟨m_thrown_8, rfl, h⟩
      have h := h.2 hc3
      refine r_iconst (pc := 54) hC dX10_match_54 (rng_lit rfl) ?_
      refine r_conv (w2 := (wI w 0 0 m_thrown_8)) rfl ?_
      exact r_reti (pc := 55) (kd := 0) hC hQ dX10_match_55 hr hk (by decide) (Or.inl rfl) ⟨m_thrown_8, rfl, h⟩
    refine r_if_ne (pc := 39) (tgt := 46) hC dX10_match_39 rfl (fun hc4 => ?_) (fun hc4 => ?_)
    · have h := h.1 hc4
      refine r_iconst (pc := 46) hC dX10_match_46 (rng_lit rfl) ?_
      exact r_to [true, true, true] rfl rfl (S2 0 h)
    have h := h.2 hc4
    refine r_iconst (pc := 42) hC dX10_match_42 (rng_lit rfl) ?_
    refine r_goto (tgt := 47) (pc := 43) hC dX10_match_43 rfl ?_
    exact r_to [true, true, true] rfl rfl (S2 1 h)
  refine r_if_ne (pc := 17) (tgt := 24) hC dX10_match_17 rfl (fun hc6 => ?_) (fun hc6 => ?_)
  · have h := h.1 hc6
    refine r_iconst (pc := 24) hC dX10_match_24 (rng_lit rfl) ?_
    exact r_to [true, true, true] rfl rfl (S1 0 h)
  have h := h.2 hc6
  refine r_iconst (pc := 20) hC dX10_match_20 (rng_lit rfl) ?_
  refine r_goto (tgt := 25) (pc := 21) hC dX10_match_21 rfl ?_
  exact r_to [true, true, true] rfl rfl (S1 1 h)
def wp_M_count (m_sentenceOf : (Nat → Int)) (m_likeOf : (Nat → Int)) (m_from : (Nat → Int)) (m_to : (Nat → Int)) (m_hasWord : (Nat → Int)) (m_weight : (Nat → Int)) (m_matchItem : (Nat → Int)) (m_matchFirst : (Nat → Int)) (m_worth : (Nat → Int)) (m_length : (Nat → Int)) (m_inSentence : (Nat → Int)) (m_tooLike : (Nat → Int)) (m_step : (Nat → Int)) (m_thrown : Int) (m_pageMany : Int) (m_signs : Int) (m_words : Int) (m_sentences : Int) (m_items : Int) (m_matches : Int) (m_areLaid : Int) (m_areLikeLaid : Int) (m_budget : Int) (m_mostOf : Int) (m_limit : Int) (m_chosen : Int) (m_steps : Int) (m_outMany : Int) (a1 : Int) (Q : Int → (Nat → Int) → (Nat → Int) → (Nat → Int) → (Nat → Int) → (Nat → Int) → Int → Int → Int → Int → Prop) : Prop := wp_M_laysLike m_sentenceOf m_likeOf m_from m_to m_hasWord m_weight m_matchItem m_matchFirst m_worth m_length m_inSentence m_tooLike m_words m_sentences m_items m_matches m_areLaid m_areLikeLaid m_limit (fun (m_worth_1 : (Nat → Int)) (m_length_2 : (Nat → Int)) (m_inSentence_3 : (Nat → Int)) (m_tooLike_4 : (Nat → Int)) (m_areLaid_5 : Int) (m_areLikeLaid_6 : Int) => (a1 = 0 → Q m_pageMany m_worth_1 m_length_2 m_inSentence_3 m_tooLike_4 m_step 0 m_areLaid_5 m_areLikeLaid_6 m_steps) ∧ (¬ a1 = 0 → (a1 = 1 → Q m_signs m_worth_1 m_length_2 m_inSentence_3 m_tooLike_4 m_step 0 m_areLaid_5 m_areLikeLaid_6 m_steps) ∧ (¬ a1 = 1 → (a1 = 2 → Q m_words m_worth_1 m_length_2 m_inSentence_3 m_tooLike_4 m_step 0 m_areLaid_5 m_areLikeLaid_6 m_steps) ∧ (¬ a1 = 2 → (a1 = 3 → Q m_sentences m_worth_1 m_length_2 m_inSentence_3 m_tooLike_4 m_step 0 m_areLaid_5 m_areLikeLaid_6 m_steps) ∧ (¬ a1 = 3 → (a1 = 4 → Q m_items m_worth_1 m_length_2 m_inSentence_3 m_tooLike_4 m_step 0 m_areLaid_5 m_areLikeLaid_6 m_steps) ∧ (¬ a1 = 4 → (a1 = 5 → Q m_matches m_worth_1 m_length_2 m_inSentence_3 m_tooLike_4 m_step 0 m_areLaid_5 m_areLikeLaid_6 m_steps) ∧ (¬ a1 = 5 → (a1 = 6 → Q m_budget m_worth_1 m_length_2 m_inSentence_3 m_tooLike_4 m_step 0 m_areLaid_5 m_areLikeLaid_6 m_steps) ∧ (¬ a1 = 6 → (a1 = 7 → Q m_mostOf m_worth_1 m_length_2 m_inSentence_3 m_tooLike_4 m_step 0 m_areLaid_5 m_areLikeLaid_6 m_steps) ∧ (¬ a1 = 7 → (a1 = 8 → Q m_limit m_worth_1 m_length_2 m_inSentence_3 m_tooLike_4 m_step 0 m_areLaid_5 m_areLikeLaid_6 m_steps) ∧ (¬ a1 = 8 → (a1 = 9 → Q m_chosen m_worth_1 m_length_2 m_inSentence_3 m_tooLike_4 m_step 0 m_areLaid_5 m_areLikeLaid_6 m_steps) ∧ (¬ a1 = 9 → (a1 = 10 → wp_M_unlikeIn m_likeOf m_hasWord m_words (-1) (fun (r7 : Int) => Q r7 m_worth_1 m_length_2 m_inSentence_3 m_tooLike_4 m_step 0 m_areLaid_5 m_areLikeLaid_6 m_steps)) ∧ (¬ a1 = 10 → (a1 = 11 → (rng ((iShl 1 m_sentences) - 1)) ∧ ((0 ≤ ((iShl 1 m_sentences) - 1) ∧ ((iShl 1 m_sentences) - 1) < 16384) ∧ (Q (m_worth_1 (Int.toNat ((iShl 1 m_sentences) - 1))) m_worth_1 m_length_2 m_inSentence_3 m_tooLike_4 m_step 0 m_areLaid_5 m_areLikeLaid_6 m_steps))) ∧ (¬ a1 = 11 → (a1 = 12 → Q m_outMany m_worth_1 m_length_2 m_inSentence_3 m_tooLike_4 m_step 0 m_areLaid_5 m_areLikeLaid_6 m_steps) ∧ (¬ a1 = 12 → (a1 = 13 → wp_M_variety m_sentenceOf m_likeOf m_from m_to m_hasWord m_weight m_matchItem m_matchFirst m_worth_1 m_length_2 m_inSentence_3 m_tooLike_4 m_words m_sentences m_items m_matches m_areLaid_5 m_areLikeLaid_6 m_limit (fun (r8 : Int) (m_worth_9 : (Nat → Int)) (m_length_10 : (Nat → Int)) (m_inSentence_11 : (Nat → Int)) (m_tooLike_12 : (Nat → Int)) (m_areLaid_13 : Int) (m_areLikeLaid_14 : Int) => Q r8 m_worth_9 m_length_10 m_inSentence_11 m_tooLike_12 m_step 0 m_areLaid_13 m_areLikeLaid_14 m_steps)) ∧ (¬ a1 = 13 → (a1 = 14 → wp_M_merit m_sentenceOf m_likeOf m_from m_to m_hasWord m_weight m_matchItem m_matchFirst m_worth_1 m_length_2 m_inSentence_3 m_tooLike_4 m_step m_words m_sentences m_items m_matches m_areLaid_5 m_areLikeLaid_6 m_budget m_mostOf m_limit m_steps (fun (r15 : Int) (m_worth_16 : (Nat → Int)) (m_length_17 : (Nat → Int)) (m_inSentence_18 : (Nat → Int)) (m_tooLike_19 : (Nat → Int)) (m_step_20 : (Nat → Int)) (m_areLaid_21 : Int) (m_areLikeLaid_22 : Int) (m_steps_23 : Int) => Q r15 m_worth_16 m_length_17 m_inSentence_18 m_tooLike_19 m_step_20 0 m_areLaid_21 m_areLikeLaid_22 m_steps_23)) ∧ (¬ a1 = 14 → Q (-1) m_worth_1 m_length_2 m_inSentence_3 m_tooLike_4 m_step 0 m_areLaid_5 m_areLikeLaid_6 m_steps))))))))))))))))
set_option maxHeartbeats 4000000 in
set_option maxRecDepth 20000 in
theorem s_M_count (l : Launch) (w : St) (a1 : Int) (P : Int → (Nat → Int) → (Nat → Int) → (Nat → Int) → (Nat → Int) → (Nat → Int) → Int → Int → Int → Int → Prop) (h : wp_M_count (w.1 7) (w.1 8) (w.1 9) (w.1 10) (w.1 11) (w.1 12) (w.1 24) (w.1 25) (w.1 28) (w.1 29) (w.1 31) (w.1 33) (w.1 34) (w.1 0 0) (w.1 0 6) (w.1 0 7) (w.1 0 12) (w.1 0 16) (w.1 0 29) (w.1 0 39) (w.1 0 42) (w.1 0 43) (w.1 0 50) (w.1 0 51) (w.1 0 52) (w.1 0 53) (w.1 0 56) (w.1 0 60) a1 P) : Cn l yX10_count cX10_count 2 (some .int) 8 LM w [aR 0, aI a1] (okI (fun r w1 => ∃ (o0 : (Nat → Int)) (o1 : (Nat → Int)) (o2 : (Nat → Int)) (o3 : (Nat → Int)) (o4 : (Nat → Int)) (o5 : Int) (o6 : Int) (o7 : Int) (o8 : Int), w1 = (wI (wI (wI (wI (wA (wA (wA (wA (wA w 28 o0) 29 o1) 31 o2) 33 o3) 34 o4) 0 0 o5) 0 42 o6) 0 43 o7) 0 56 o8) ∧ P r o0 o1 o2 o3 o4 o5 o6 o7 o8)) := by
  unfold wp_M_count at h
  refine Cn.of2 [some (aR 0), some (aI a1)] (by decide) (Nat.le_of_ble_eq_true rfl) rfl (fun p e s m args below meth c D cA ad A Q hQ hC hr hk => ?_)
  refine r_aload_n (pc := 0) hC 0 dX10_count_0 rfl rfl ?_
  refine r_iconst (pc := 1) hC dX10_count_1 (rng_lit rfl) ?_
  refine r_put (kd := 0) (pc := 2) hC dX10_count_2 pl_RX10_142 lM_0 rfl (by decide) (Or.inl rfl) ?_
  refine r_aload_n (pc := 5) hC 0 dX10_count_5 rfl rfl ?_
  refine r_callVv (pc := 6) hC [] [] dX10_count_6 ml_RX10_364 my_X10_laysLike mi_X10_laysLike lM_0 rfl rfl ⟨Nat.le_of_ble_eq_true rfl, Nat.le_of_ble_eq_true rfl⟩ ⟨Nat.le_of_ble_eq_true rfl, Nat.le_of_ble_eq_true rfl⟩ (Nat.le_of_ble_eq_true rfl) rfl (s_M_laysLike l _ _ h) (fun w1 hq => ?_)
  obtain ⟨m_worth_1, m_length_2, m_inSentence_3, m_tooLike_4, m_areLaid_5, m_areLikeLaid_6, e9, h⟩ := hq
  rw [e9]
  refine r_iload_n (pc := 9) hC 1 dX10_count_9 rfl rfl ?_
  by_cases hc1 : a1 = 0
  · refine r_tblIn (pc := 10) (tgt := 84) hC dX10_count_10 (by rw [hc1]; decide) (by rw [hc1]; decide) (by rw [hc1]; rfl) rfl ?_
    have h := h.1 hc1
    refine r_aload_n (pc := 84) hC 0 dX10_count_84 rfl rfl ?_
    refine r_get (kd := 0) (v := (w.1 0 6)) (pc := 85) hC dX10_count_85 fl_RX10_148 lM_0 rfl rfl ?_
    refine r_conv (w2 := (wI (wI (wI (wI (wA (wA (wA (wA (wA w 28 m_worth_1) 29 m_length_2) 31 m_inSentence_3) 33 m_tooLike_4) 34 (w.1 34)) 0 0 0) 0 42 m_areLaid_5) 0 43 m_areLikeLaid_6) 0 56 (w.1 0 56))) rfl ?_
    exact r_reti (pc := 88) (kd := 0) hC hQ dX10_count_88 hr hk (by decide) (Or.inl rfl) ⟨m_worth_1, m_length_2, m_inSentence_3, m_tooLike_4, (w.1 34), 0, m_areLaid_5, m_areLikeLaid_6, (w.1 0 56), rfl, h⟩
  have h := h.2 hc1
  by_cases hc2 : a1 = 1
  · refine r_tblIn (pc := 10) (tgt := 89) hC dX10_count_10 (by rw [hc2]; decide) (by rw [hc2]; decide) (by rw [hc2]; rfl) rfl ?_
    have h := h.1 hc2
    refine r_aload_n (pc := 89) hC 0 dX10_count_89 rfl rfl ?_
    refine r_get (kd := 0) (v := (w.1 0 7)) (pc := 90) hC dX10_count_90 fl_RX10_155 lM_0 rfl rfl ?_
    refine r_conv (w2 := (wI (wI (wI (wI (wA (wA (wA (wA (wA w 28 m_worth_1) 29 m_length_2) 31 m_inSentence_3) 33 m_tooLike_4) 34 (w.1 34)) 0 0 0) 0 42 m_areLaid_5) 0 43 m_areLikeLaid_6) 0 56 (w.1 0 56))) rfl ?_
    exact r_reti (pc := 93) (kd := 0) hC hQ dX10_count_93 hr hk (by decide) (Or.inl rfl) ⟨m_worth_1, m_length_2, m_inSentence_3, m_tooLike_4, (w.1 34), 0, m_areLaid_5, m_areLikeLaid_6, (w.1 0 56), rfl, h⟩
  have h := h.2 hc2
  by_cases hc3 : a1 = 2
  · refine r_tblIn (pc := 10) (tgt := 94) hC dX10_count_10 (by rw [hc3]; decide) (by rw [hc3]; decide) (by rw [hc3]; rfl) rfl ?_
    have h := h.1 hc3
    refine r_aload_n (pc := 94) hC 0 dX10_count_94 rfl rfl ?_
    refine r_get (kd := 0) (v := (w.1 0 12)) (pc := 95) hC dX10_count_95 fl_RX10_179 lM_0 rfl rfl ?_
    refine r_conv (w2 := (wI (wI (wI (wI (wA (wA (wA (wA (wA w 28 m_worth_1) 29 m_length_2) 31 m_inSentence_3) 33 m_tooLike_4) 34 (w.1 34)) 0 0 0) 0 42 m_areLaid_5) 0 43 m_areLikeLaid_6) 0 56 (w.1 0 56))) rfl ?_
    exact r_reti (pc := 98) (kd := 0) hC hQ dX10_count_98 hr hk (by decide) (Or.inl rfl) ⟨m_worth_1, m_length_2, m_inSentence_3, m_tooLike_4, (w.1 34), 0, m_areLaid_5, m_areLikeLaid_6, (w.1 0 56), rfl, h⟩
  have h := h.2 hc3
  by_cases hc4 : a1 = 3
  · refine r_tblIn (pc := 10) (tgt := 99) hC dX10_count_10 (by rw [hc4]; decide) (by rw [hc4]; decide) (by rw [hc4]; rfl) rfl ?_
    have h := h.1 hc4
    refine r_aload_n (pc := 99) hC 0 dX10_count_99 rfl rfl ?_
    refine r_get (kd := 0) (v := (w.1 0 16)) (pc := 100) hC dX10_count_100 fl_RX10_203 lM_0 rfl rfl ?_
    refine r_conv (w2 := (wI (wI (wI (wI (wA (wA (wA (wA (wA w 28 m_worth_1) 29 m_length_2) 31 m_inSentence_3) 33 m_tooLike_4) 34 (w.1 34)) 0 0 0) 0 42 m_areLaid_5) 0 43 m_areLikeLaid_6) 0 56 (w.1 0 56))) rfl ?_
    exact r_reti (pc := 103) (kd := 0) hC hQ dX10_count_103 hr hk (by decide) (Or.inl rfl) ⟨m_worth_1, m_length_2, m_inSentence_3, m_tooLike_4, (w.1 34), 0, m_areLaid_5, m_areLikeLaid_6, (w.1 0 56), rfl, h⟩
  have h := h.2 hc4
  by_cases hc5 : a1 = 4
  · refine r_tblIn (pc := 10) (tgt := 104) hC dX10_count_10 (by rw [hc5]; decide) (by rw [hc5]; decide) (by rw [hc5]; rfl) rfl ?_
    have h := h.1 hc5
    refine r_aload_n (pc := 104) hC 0 dX10_count_104 rfl rfl ?_
    refine r_get (kd := 0) (v := (w.1 0 29)) (pc := 105) hC dX10_count_105 fl_RX10_271 lM_0 rfl rfl ?_
    refine r_conv (w2 := (wI (wI (wI (wI (wA (wA (wA (wA (wA w 28 m_worth_1) 29 m_length_2) 31 m_inSentence_3) 33 m_tooLike_4) 34 (w.1 34)) 0 0 0) 0 42 m_areLaid_5) 0 43 m_areLikeLaid_6) 0 56 (w.1 0 56))) rfl ?_
    exact r_reti (pc := 108) (kd := 0) hC hQ dX10_count_108 hr hk (by decide) (Or.inl rfl) ⟨m_worth_1, m_length_2, m_inSentence_3, m_tooLike_4, (w.1 34), 0, m_areLaid_5, m_areLikeLaid_6, (w.1 0 56), rfl, h⟩
  have h := h.2 hc5
  by_cases hc6 : a1 = 5
  · refine r_tblIn (pc := 10) (tgt := 109) hC dX10_count_10 (by rw [hc6]; decide) (by rw [hc6]; decide) (by rw [hc6]; rfl) rfl ?_
    have h := h.1 hc6
    refine r_aload_n (pc := 109) hC 0 dX10_count_109 rfl rfl ?_
    refine r_get (kd := 0) (v := (w.1 0 39)) (pc := 110) hC dX10_count_110 fl_RX10_277 lM_0 rfl rfl ?_
    refine r_conv (w2 := (wI (wI (wI (wI (wA (wA (wA (wA (wA w 28 m_worth_1) 29 m_length_2) 31 m_inSentence_3) 33 m_tooLike_4) 34 (w.1 34)) 0 0 0) 0 42 m_areLaid_5) 0 43 m_areLikeLaid_6) 0 56 (w.1 0 56))) rfl ?_
    exact r_reti (pc := 113) (kd := 0) hC hQ dX10_count_113 hr hk (by decide) (Or.inl rfl) ⟨m_worth_1, m_length_2, m_inSentence_3, m_tooLike_4, (w.1 34), 0, m_areLaid_5, m_areLikeLaid_6, (w.1 0 56), rfl, h⟩
  have h := h.2 hc6
  by_cases hc7 : a1 = 6
  · refine r_tblIn (pc := 10) (tgt := 114) hC dX10_count_10 (by rw [hc7]; decide) (by rw [hc7]; decide) (by rw [hc7]; rfl) rfl ?_
    have h := h.1 hc7
    refine r_aload_n (pc := 114) hC 0 dX10_count_114 rfl rfl ?_
    refine r_get (kd := 0) (v := (w.1 0 50)) (pc := 115) hC dX10_count_115 fl_RX10_112 lM_0 rfl rfl ?_
    refine r_conv (w2 := (wI (wI (wI (wI (wA (wA (wA (wA (wA w 28 m_worth_1) 29 m_length_2) 31 m_inSentence_3) 33 m_tooLike_4) 34 (w.1 34)) 0 0 0) 0 42 m_areLaid_5) 0 43 m_areLikeLaid_6) 0 56 (w.1 0 56))) rfl ?_
    exact r_reti (pc := 118) (kd := 0) hC hQ dX10_count_118 hr hk (by decide) (Or.inl rfl) ⟨m_worth_1, m_length_2, m_inSentence_3, m_tooLike_4, (w.1 34), 0, m_areLaid_5, m_areLikeLaid_6, (w.1 0 56), rfl, h⟩
  have h := h.2 hc7
  by_cases hc8 : a1 = 7
  · refine r_tblIn (pc := 10) (tgt := 119) hC dX10_count_10 (by rw [hc8]; decide) (by rw [hc8]; decide) (by rw [hc8]; rfl) rfl ?_
    have h := h.1 hc8
    refine r_aload_n (pc := 119) hC 0 dX10_count_119 rfl rfl ?_
    refine r_get (kd := 0) (v := (w.1 0 51)) (pc := 120) hC dX10_count_120 fl_RX10_115 lM_0 rfl rfl ?_
    refine r_conv (w2 := (wI (wI (wI (wI (wA (wA (wA (wA (wA w 28 m_worth_1) 29 m_length_2) 31 m_inSentence_3) 33 m_tooLike_4) 34 (w.1 34)) 0 0 0) 0 42 m_areLaid_5) 0 43 m_areLikeLaid_6) 0 56 (w.1 0 56))) rfl ?_
    exact r_reti (pc := 123) (kd := 0) hC hQ dX10_count_123 hr hk (by decide) (Or.inl rfl) ⟨m_worth_1, m_length_2, m_inSentence_3, m_tooLike_4, (w.1 34), 0, m_areLaid_5, m_areLikeLaid_6, (w.1 0 56), rfl, h⟩
  have h := h.2 hc8
  by_cases hc9 : a1 = 8
  · refine r_tblIn (pc := 10) (tgt := 124) hC dX10_count_10 (by rw [hc9]; decide) (by rw [hc9]; decide) (by rw [hc9]; rfl) rfl ?_
    have h := h.1 hc9
    refine r_aload_n (pc := 124) hC 0 dX10_count_124 rfl rfl ?_
    refine r_get (kd := 0) (v := (w.1 0 52)) (pc := 125) hC dX10_count_125 fl_RX10_118 lM_0 rfl rfl ?_
    refine r_conv (w2 := (wI (wI (wI (wI (wA (wA (wA (wA (wA w 28 m_worth_1) 29 m_length_2) 31 m_inSentence_3) 33 m_tooLike_4) 34 (w.1 34)) 0 0 0) 0 42 m_areLaid_5) 0 43 m_areLikeLaid_6) 0 56 (w.1 0 56))) rfl ?_
    exact r_reti (pc := 128) (kd := 0) hC hQ dX10_count_128 hr hk (by decide) (Or.inl rfl) ⟨m_worth_1, m_length_2, m_inSentence_3, m_tooLike_4, (w.1 34), 0, m_areLaid_5, m_areLikeLaid_6, (w.1 0 56), rfl, h⟩
  have h := h.2 hc9
  by_cases hc10 : a1 = 9
  · refine r_tblIn (pc := 10) (tgt := 129) hC dX10_count_10 (by rw [hc10]; decide) (by rw [hc10]; decide) (by rw [hc10]; rfl) rfl ?_
    have h := h.1 hc10
    refine r_aload_n (pc := 129) hC 0 dX10_count_129 rfl rfl ?_
    refine r_get (kd := 0) (v := (w.1 0 53)) (pc := 130) hC dX10_count_130 fl_RX10_221 lM_0 rfl rfl ?_
    refine r_conv (w2 := (wI (wI (wI (wI (wA (wA (wA (wA (wA w 28 m_worth_1) 29 m_length_2) 31 m_inSentence_3) 33 m_tooLike_4) 34 (w.1 34)) 0 0 0) 0 42 m_areLaid_5) 0 43 m_areLikeLaid_6) 0 56 (w.1 0 56))) rfl ?_
    exact r_reti (pc := 133) (kd := 0) hC hQ dX10_count_133 hr hk (by decide) (Or.inl rfl) ⟨m_worth_1, m_length_2, m_inSentence_3, m_tooLike_4, (w.1 34), 0, m_areLaid_5, m_areLikeLaid_6, (w.1 0 56), rfl, h⟩
  have h := h.2 hc10
  by_cases hc11 : a1 = 10
  · refine r_tblIn (pc := 10) (tgt := 134) hC dX10_count_10 (by rw [hc11]; decide) (by rw [hc11]; decide) (by rw [hc11]; rfl) rfl ?_
    have h := h.1 hc11
    refine r_aload_n (pc := 134) hC 0 dX10_count_134 rfl rfl ?_
    refine r_iconst (pc := 135) hC dX10_count_135 (rng_lit rfl) ?_
    refine r_callVi (pc := 136) hC [aI (-1)] [] dX10_count_136 ml_RX10_473 my_X10_unlikeIn mi_X10_unlikeIn lM_0 rfl rfl ⟨Nat.le_of_ble_eq_true rfl, Nat.le_of_ble_eq_true rfl⟩ ⟨Nat.le_of_ble_eq_true rfl, Nat.le_of_ble_eq_true rfl⟩ (Nat.le_of_ble_eq_true rfl) rfl (s_M_unlikeIn l _ _ _ h) (fun r7 w1 hq => ?_)
    obtain ⟨e9, h⟩ := hq
    rw [e9]
    refine r_conv (w2 := (wI (wI (wI (wI (wA (wA (wA (wA (wA w 28 m_worth_1) 29 m_length_2) 31 m_inSentence_3) 33 m_tooLike_4) 34 (w.1 34)) 0 0 0) 0 42 m_areLaid_5) 0 43 m_areLikeLaid_6) 0 56 (w.1 0 56))) rfl ?_
    exact r_reti (pc := 139) (kd := 0) hC hQ dX10_count_139 hr hk (by decide) (Or.inl rfl) ⟨m_worth_1, m_length_2, m_inSentence_3, m_tooLike_4, (w.1 34), 0, m_areLaid_5, m_areLikeLaid_6, (w.1 0 56), rfl, h⟩
  have h := h.2 hc11
  by_cases hc12 : a1 = 11
  · refine r_tblIn (pc := 10) (tgt := 140) hC dX10_count_10 (by rw [hc12]; decide) (by rw [hc12]; decide) (by rw [hc12]; rfl) rfl ?_
    have h := h.1 hc12
    refine r_aload_n (pc := 140) hC 0 dX10_count_140 rfl rfl ?_
    refine r_getr (r := 28) (pc := 141) hC dX10_count_141 fl_RX10_97 lM_0 rfl ?_
    refine r_iconst (pc := 144) hC dX10_count_144 (rng_lit rfl) ?_
    refine r_aload_n (pc := 145) hC 0 dX10_count_145 rfl rfl ?_
    refine r_get (kd := 0) (v := (w.1 0 16)) (pc := 146) hC dX10_count_146 fl_RX10_203 lM_0 rfl rfl ?_
    refine r_ishl (pc := 149) hC dX10_count_149 ?_
    refine r_iconst (pc := 150) hC dX10_count_150 (rng_lit rfl) ?_
    refine r_isub (pc := 151) hC dX10_count_151 h.1 ?_
    have h := h.2
    refine r_iald (v := (m_worth_1 (Int.toNat ((iShl 1 (w.1 0 16)) - 1)))) (pc := 152) hC dX10_count_152 lM_28 h.1.1 h.1.2 rfl ?_
    have h := h.2
    refine r_conv (w2 := (wI (wI (wI (wI (wA (wA (wA (wA (wA w 28 m_worth_1) 29 m_length_2) 31 m_inSentence_3) 33 m_tooLike_4) 34 (w.1 34)) 0 0 0) 0 42 m_areLaid_5) 0 43 m_areLikeLaid_6) 0 56 (w.1 0 56))) rfl ?_
    exact r_reti (pc := 153) (kd := 0) hC hQ dX10_count_153 hr hk (by decide) (Or.inl rfl) ⟨m_worth_1, m_length_2, m_inSentence_3, m_tooLike_4, (w.1 34), 0, m_areLaid_5, m_areLikeLaid_6, (w.1 0 56), rfl, h⟩
  have h := h.2 hc12
  by_cases hc13 : a1 = 12
  · refine r_tblIn (pc := 10) (tgt := 154) hC dX10_count_10 (by rw [hc13]; decide) (by rw [hc13]; decide) (by rw [hc13]; rfl) rfl ?_
    have h := h.1 hc13
    refine r_aload_n (pc := 154) hC 0 dX10_count_154 rfl rfl ?_
    refine r_get (kd := 0) (v := (w.1 0 60)) (pc := 155) hC dX10_count_155 fl_RX10_396 lM_0 rfl rfl ?_
    refine r_conv (w2 := (wI (wI (wI (wI (wA (wA (wA (wA (wA w 28 m_worth_1) 29 m_length_2) 31 m_inSentence_3) 33 m_tooLike_4) 34 (w.1 34)) 0 0 0) 0 42 m_areLaid_5) 0 43 m_areLikeLaid_6) 0 56 (w.1 0 56))) rfl ?_
    exact r_reti (pc := 158) (kd := 0) hC hQ dX10_count_158 hr hk (by decide) (Or.inl rfl) ⟨m_worth_1, m_length_2, m_inSentence_3, m_tooLike_4, (w.1 34), 0, m_areLaid_5, m_areLikeLaid_6, (w.1 0 56), rfl, h⟩
  have h := h.2 hc13
  by_cases hc14 : a1 = 13
  · refine r_tblIn (pc := 10) (tgt := 159) hC dX10_count_10 (by rw [hc14]; decide) (by rw [hc14]; decide) (by rw [hc14]; rfl) rfl ?_
    have h := h.1 hc14
    refine r_aload_n (pc := 159) hC 0 dX10_count_159 rfl rfl ?_
    refine r_callVi (pc := 160) hC [] [] dX10_count_160 ml_RX10_491 my_X10_variety mi_X10_variety lM_0 rfl rfl ⟨Nat.le_of_ble_eq_true rfl, Nat.le_of_ble_eq_true rfl⟩ ⟨Nat.le_of_ble_eq_true rfl, Nat.le_of_ble_eq_true rfl⟩ (Nat.le_of_ble_eq_true rfl) rfl (s_M_variety l _ _ h) (fun r8 w1 hq => ?_)
    obtain ⟨m_worth_9, m_length_10, m_inSentence_11, m_tooLike_12, m_areLaid_13, m_areLikeLaid_14, e9, h⟩ := hq
    rw [e9]
    refine r_conv (w2 := (wI (wI (wI (wI (wA (wA (wA (wA (wA w 28 m_worth_9) 29 m_length_10) 31 m_inSentence_11) 33 m_tooLike_12) 34 (w.1 34)) 0 0 0) 0 42 m_areLaid_13) 0 43 m_areLikeLaid_14) 0 56 (w.1 0 56))) rfl ?_
    exact r_reti (pc := 163) (kd := 0) hC hQ dX10_count_163 hr hk (by decide) (Or.inl rfl) ⟨m_worth_9, m_length_10, m_inSentence_11, m_tooLike_12, (w.1 34), 0, m_areLaid_13, m_areLikeLaid_14, (w.1 0 56), rfl, h⟩
  have h := h.2 hc14
  by_cases hc15 : a1 = 14
  · refine r_tblIn (pc := 10) (tgt := 164) hC dX10_count_10 (by rw [hc15]; decide) (by rw [hc15]; decide) (by rw [hc15]; rfl) rfl ?_
    have h := h.1 hc15
    refine r_aload_n (pc := 164) hC 0 dX10_count_164 rfl rfl ?_
    refine r_callVi (pc := 165) hC [] [] dX10_count_165 ml_RX10_494 my_X10_merit mi_X10_merit lM_0 rfl rfl ⟨Nat.le_of_ble_eq_true rfl, Nat.le_of_ble_eq_true rfl⟩ ⟨Nat.le_of_ble_eq_true rfl, Nat.le_of_ble_eq_true rfl⟩ (Nat.le_of_ble_eq_true rfl) rfl (s_M_merit l _ _ h) (fun r15 w1 hq => ?_)
    obtain ⟨m_worth_16, m_length_17, m_inSentence_18, m_tooLike_19, m_step_20, m_areLaid_21, m_areLikeLaid_22, m_steps_23, e9, h⟩ := hq
    rw [e9]
    refine r_conv (w2 := (wI (wI (wI (wI (wA (wA (wA (wA (wA w 28 m_worth_16) 29 m_length_17) 31 m_inSentence_18) 33 m_tooLike_19) 34 m_step_20) 0 0 0) 0 42 m_areLaid_21) 0 43 m_areLikeLaid_22) 0 56 m_steps_23)) rfl ?_
    exact r_reti (pc := 168) (kd := 0) hC hQ dX10_count_168 hr hk (by decide) (Or.inl rfl) ⟨m_worth_16, m_length_17, m_inSentence_18, m_tooLike_19, m_step_20, 0, m_areLaid_21, m_areLikeLaid_22, m_steps_23, rfl, h⟩
  have h := h.2 hc15
  refine r_tblOut (pc := 10) (tgt := 169) hC dX10_count_10 (tb_out_14 hc1 hc2 hc3 hc4 hc5 hc6 hc7 hc8 hc9 hc10 hc11 hc12 hc13 hc14 hc15) rfl ?_
  refine r_iconst (pc := 169) hC dX10_count_169 (rng_lit rfl) ?_
  refine r_conv (w2 := (wI (wI (wI (wI (wA (wA (wA (wA (wA w 28 m_worth_1) 29 m_length_2) 31 m_inSentence_3) 33 m_tooLike_4) 34 (w.1 34)) 0 0 0) 0 42 m_areLaid_5) 0 43 m_areLikeLaid_6) 0 56 (w.1 0 56))) rfl ?_
  exact r_reti (pc := 170) (kd := 0) hC hQ dX10_count_170 hr hk (by decide) (Or.inl rfl) ⟨m_worth_1, m_length_2, m_inSentence_3, m_tooLike_4, (w.1 34), 0, m_areLaid_5, m_areLikeLaid_6, (w.1 0 56), rfl, h⟩
