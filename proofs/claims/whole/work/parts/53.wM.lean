def wp_M_query (m_tape : (Nat → Int)) (m_page : (Nat → Int)) (m_signAt : (Nat → Int)) (m_wordFrom : (Nat → Int)) (m_wordTo : (Nat → Int)) (m_sentenceOf : (Nat → Int)) (m_weight : (Nat → Int)) (m_terms : (Nat → Int)) (m_termMany : (Nat → Int)) (m_soft : (Nat → Int)) (m_star : (Nat → Int)) (m_term : (Nat → Int)) (m_newWeight : (Nat → Int)) (m_newTerms : (Nat → Int)) (m_newTermMany : (Nat → Int)) (m_newSoft : (Nat → Int)) (m_newStar : (Nat → Int)) (m_newTerm : (Nat → Int)) (m_matchItem : (Nat → Int)) (m_matchFirst : (Nat → Int)) (m_matchLast : (Nat → Int)) (m_isMatch : (Nat → Int)) (m_thrown : Int) (m_taped : Int) (m_signs : Int) (m_words : Int) (m_items : Int) (m_newItems : Int) (m_point : Int) (m_begin : Int) (m_end : Int) (m_fault : Int) (m_matches : Int) (m_areLaid : Int) (m_areLikeLaid : Int) (m_chosen : Int) (Q : Int → (Nat → Int) → (Nat → Int) → (Nat → Int) → (Nat → Int) → (Nat → Int) → (Nat → Int) → (Nat → Int) → (Nat → Int) → (Nat → Int) → (Nat → Int) → (Nat → Int) → (Nat → Int) → (Nat → Int) → (Nat → Int) → (Nat → Int) → (Nat → Int) → Int → Int → Int → Int → Int → Int → Int → Int → Int → Int → Int → Int → Prop) : Prop := wp_M_blanks m_tape 0 m_begin m_taped (fun (m_point_1 : Int) (m_begin_2 : Int) => lpw9 (fun (m_newWeight_3 : (Nat → Int)) (m_newTerms_4 : (Nat → Int)) (m_newTermMany_5 : (Nat → Int)) (m_newSoft_6 : (Nat → Int)) (m_newStar_7 : (Nat → Int)) (m_newTerm_8 : (Nat → Int)) (m_newItems_9 : Int) (m_point_10 : Int) (m_begin_11 : Int) (k1 : (Nat → Int) → (Nat → Int) → (Nat → Int) → (Nat → Int) → (Nat → Int) → (Nat → Int) → Int → Int → Int → Prop) => (m_taped ≤ m_point_10 → lpw4 (fun (m_weight_12 : (Nat → Int)) (m_terms_13 : (Nat → Int)) (m_soft_14 : (Nat → Int)) (x15 : Int) (k2 : (Nat → Int) → (Nat → Int) → (Nat → Int) → Int → Prop) => (8 ≤ x15 → lpw3 (fun (m_termMany_16 : (Nat → Int)) (m_star_17 : (Nat → Int)) (x18 : Int) (k3 : (Nat → Int) → (Nat → Int) → Int → Prop) => (32 ≤ x18 → lpw2 (fun (m_term_19 : (Nat → Int)) (x20 : Int) (k4 : (Nat → Int) → Int → Prop) => (384 ≤ x20 → wp_M_laysMatches m_page m_signAt m_wordFrom m_wordTo m_sentenceOf m_terms_13 m_termMany_16 m_star_17 m_term_19 m_matchItem m_matchFirst m_matchLast m_isMatch m_signs m_words m_newItems_9 m_matches m_areLaid m_areLikeLaid (fun (m_matchItem_21 : (Nat → Int)) (m_matchFirst_22 : (Nat → Int)) (m_matchLast_23 : (Nat → Int)) (m_isMatch_24 : (Nat → Int)) (m_matches_25 : Int) (m_areLaid_26 : Int) (m_areLikeLaid_27 : Int) => Q m_newItems_9 m_weight_12 m_terms_13 m_termMany_16 m_soft_14 m_star_17 m_term_19 m_newWeight_3 m_newTerms_4 m_newTermMany_5 m_newSoft_6 m_newStar_7 m_newTerm_8 m_matchItem_21 m_matchFirst_22 m_matchLast_23 m_isMatch_24 0 0 m_newItems_9 m_newItems_9 m_point_10 m_begin_11 m_taped (-1) m_matches_25 m_areLaid_26 m_areLikeLaid_27 0)) ∧ (¬ 384 ≤ x20 → (0 ≤ x20 ∧ x20 < 384) ∧ (((0 ≤ x20 ∧ x20 < 384) ∧ -128 ≤ (m_newTerm_8 (Int.toNat x20)) ∧ (m_newTerm_8 (Int.toNat x20)) < 128) ∧ ((rng (x20 + 1)) ∧ (k4 (uI m_term_19 x20 (m_newTerm_8 (Int.toNat x20))) (x20 + 1)))))) m_term 0) ∧ (¬ 32 ≤ x18 → (0 ≤ x18 ∧ x18 < 32) ∧ ((0 ≤ x18 ∧ x18 < 32) ∧ ((0 ≤ x18 ∧ x18 < 32) ∧ (((0 ≤ x18 ∧ x18 < 32) ∧ 0 ≤ (m_newStar_7 (Int.toNat x18)) ∧ (m_newStar_7 (Int.toNat x18)) ≤ 1) ∧ ((rng (x18 + 1)) ∧ (k3 (uI m_termMany_16 x18 (m_newTermMany_5 (Int.toNat x18))) (uI m_star_17 x18 (m_newStar_7 (Int.toNat x18))) (x18 + 1)))))))) m_termMany m_star 0) ∧ (¬ 8 ≤ x15 → (0 ≤ x15 ∧ x15 < 8) ∧ ((0 ≤ x15 ∧ x15 < 8) ∧ ((0 ≤ x15 ∧ x15 < 8) ∧ ((0 ≤ x15 ∧ x15 < 8) ∧ ((0 ≤ x15 ∧ x15 < 8) ∧ (((0 ≤ x15 ∧ x15 < 8) ∧ 0 ≤ (m_newSoft_6 (Int.toNat x15)) ∧ (m_newSoft_6 (Int.toNat x15)) ≤ 1) ∧ ((rng (x15 + 1)) ∧ (k2 (uI m_weight_12 x15 (m_newWeight_3 (Int.toNat x15))) (uI m_terms_13 x15 (m_newTerms_4 (Int.toNat x15))) (uI m_soft_14 x15 (m_newSoft_6 (Int.toNat x15))) (x15 + 1)))))))))) m_weight m_terms m_soft 0) ∧ (¬ m_taped ≤ m_point_10 → wp_M_readsItem m_tape m_newWeight_3 m_newTerms_4 m_newTermMany_5 m_newSoft_6 m_newStar_7 m_newTerm_8 m_newItems_9 m_point_10 m_begin_11 m_taped (fun (r28 : Int) (m_newWeight_29 : (Nat → Int)) (m_newTerms_30 : (Nat → Int)) (m_newTermMany_31 : (Nat → Int)) (m_newSoft_32 : (Nat → Int)) (m_newStar_33 : (Nat → Int)) (m_newTerm_34 : (Nat → Int)) (m_newItems_35 : Int) (m_point_36 : Int) (m_begin_37 : Int) => (r28 = 0 → Q 0 m_weight m_terms m_termMany m_soft m_star m_term m_newWeight_29 m_newTerms_30 m_newTermMany_31 m_newSoft_32 m_newStar_33 m_newTerm_34 m_matchItem m_matchFirst m_matchLast m_isMatch 1 0 m_items m_newItems_35 m_point_36 m_begin_37 m_taped m_begin_37 m_matches m_areLaid m_areLikeLaid m_chosen) ∧ (¬ r28 = 0 → wp_M_blanks m_tape m_point_36 m_begin_37 m_taped (fun (m_point_38 : Int) (m_begin_39 : Int) => k1 m_newWeight_29 m_newTerms_30 m_newTermMany_31 m_newSoft_32 m_newStar_33 m_newTerm_34 m_newItems_35 m_point_38 m_begin_39))))) m_newWeight m_newTerms m_newTermMany m_newSoft m_newStar m_newTerm 0 m_point_1 m_begin_2)
set_option maxHeartbeats 4000000 in
set_option maxRecDepth 20000 in
theorem s_M_query (l : Launch) (w : St) (P : Int → (Nat → Int) → (Nat → Int) → (Nat → Int) → (Nat → Int) → (Nat → Int) → (Nat → Int) → (Nat → Int) → (Nat → Int) → (Nat → Int) → (Nat → Int) → (Nat → Int) → (Nat → Int) → (Nat → Int) → (Nat → Int) → (Nat → Int) → (Nat → Int) → Int → Int → Int → Int → Int → Int → Int → Int → Int → Int → Int → Int → Prop) (h : wp_M_query (w.1 1) (w.1 3) (w.1 4) (w.1 5) (w.1 6) (w.1 7) (w.1 12) (w.1 13) (w.1 14) (w.1 15) (w.1 16) (w.1 17) (w.1 18) (w.1 19) (w.1 20) (w.1 21) (w.1 22) (w.1 23) (w.1 24) (w.1 25) (w.1 26) (w.1 27) (w.1 0 0) (w.1 0 2) (w.1 0 7) (w.1 0 12) (w.1 0 29) (w.1 0 30) (w.1 0 31) (w.1 0 32) (w.1 0 33) (w.1 0 34) (w.1 0 39) (w.1 0 42) (w.1 0 43) (w.1 0 53) P) : Cn l yX10_query cX10_query 2 (some .int) 6 LM w [aR 0] (okI (fun r w1 => ∃ (o0 : (Nat → Int)) (o1 : (Nat → Int)) (o2 : (Nat → Int)) (o3 : (Nat → Int)) (o4 : (Nat → Int)) (o5 : (Nat → Int)) (o6 : (Nat → Int)) (o7 : (Nat → Int)) (o8 : (Nat → Int)) (o9 : (Nat → Int)) (o10 : (Nat → Int)) (o11 : (Nat → Int)) (o12 : (Nat → Int)) (o13 : (Nat → Int)) (o14 : (Nat → Int)) (o15 : (Nat → Int)) (o16 : Int) (o17 : Int) (o18 : Int) (o19 : Int) (o20 : Int) (o21 : Int) (o22 : Int) (o23 : Int) (o24 : Int) (o25 : Int) (o26 : Int) (o27 : Int), w1 = (wI (wI (wI (wI (wI (wI (wI (wI (wI (wI (wI (wI (wA (wA (wA (wA (wA (wA (wA (wA (wA (wA (wA (wA (wA (wA (wA (wA w 12 o0) 13 o1) 14 o2) 15 o3) 16 o4) 17 o5) 18 o6) 19 o7) 20 o8) 21 o9) 22 o10) 23 o11) 24 o12) 25 o13) 26 o14) 27 o15) 0 0 o16) 0 2 o17) 0 29 o18) 0 30 o19) 0 31 o20) 0 32 o21) 0 33 o22) 0 34 o23) 0 39 o24) 0 42 o25) 0 43 o26) 0 53 o27) ∧ P r o0 o1 o2 o3 o4 o5 o6 o7 o8 o9 o10 o11 o12 o13 o14 o15 o16 o17 o18 o19 o20 o21 o22 o23 o24 o25 o26 o27)) := by
  unfold wp_M_query at h
  refine Cn.of2 [some (aR 0), none] (by decide) (Nat.le_of_ble_eq_true rfl) rfl (fun p e s m args below meth c D cA ad A Q hQ hC hr hk => ?_)
  refine r_aload_n (pc := 0) hC 0 dX10_query_0 rfl rfl ?_
  refine r_iconst (pc := 1) hC dX10_query_1 (rng_lit rfl) ?_
  refine r_put (kd := 0) (pc := 2) hC dX10_query_2 pl_RX10_142 lM_0 rfl (by decide) (Or.inl rfl) ?_
  refine r_aload_n (pc := 5) hC 0 dX10_query_5 rfl rfl ?_
  refine r_aload_n (pc := 6) hC 0 dX10_query_6 rfl rfl ?_
  refine r_get (kd := 0) (v := (w.1 0 2)) (pc := 7) hC dX10_query_7 fl_RX10_145 lM_0 rfl rfl ?_
  refine r_put (kd := 0) (pc := 10) hC dX10_query_10 pl_RX10_227 lM_0 rfl (by decide) (Or.inl rfl) ?_
  refine r_aload_n (pc := 13) hC 0 dX10_query_13 rfl rfl ?_
  refine r_iconst (pc := 14) hC dX10_query_14 (rng_lit rfl) ?_
  refine r_put (kd := 0) (pc := 15) hC dX10_query_15 pl_RX10_145 lM_0 rfl (by decide) (Or.inl rfl) ?_
  refine r_aload_n (pc := 18) hC 0 dX10_query_18 rfl rfl ?_
  refine r_iconst (pc := 19) hC dX10_query_19 (rng_lit rfl) ?_
  refine r_put (kd := 0) (pc := 20) hC dX10_query_20 pl_RX10_224 lM_0 rfl (by decide) (Or.inl rfl) ?_
  refine r_aload_n (pc := 23) hC 0 dX10_query_23 rfl rfl ?_
  refine r_iconst (pc := 24) hC dX10_query_24 (rng_lit rfl) ?_
  refine r_put (kd := 0) (pc := 25) hC dX10_query_25 pl_RX10_248 lM_0 rfl (by decide) (Or.inl rfl) ?_
  refine r_aload_n (pc := 28) hC 0 dX10_query_28 rfl rfl ?_
  refine r_iconst (pc := 29) hC dX10_query_29 (rng_lit rfl) ?_
  refine r_put (kd := 0) (pc := 30) hC dX10_query_30 pl_RX10_81 lM_0 rfl (by decide) (Or.inl rfl) ?_
  refine r_aload_n (pc := 33) hC 0 dX10_query_33 rfl rfl ?_
  refine r_callVv (pc := 34) hC [] [] dX10_query_34 ml_RX10_236 my_X10_blanks mi_X10_blanks lM_0 rfl rfl ⟨Nat.le_of_ble_eq_true rfl, Nat.le_of_ble_eq_true rfl⟩ ⟨Nat.le_of_ble_eq_true rfl, Nat.le_of_ble_eq_true rfl⟩ (Nat.le_of_ble_eq_true rfl) rfl (s_M_blanks l _ _ h) (fun w1 hq => ?_)
  obtain ⟨m_point_1, m_begin_2, e9, h⟩ := hq
  rw [e9]
  obtain ⟨I1, μ1, hI1, hB1⟩ := h
  have S1 : ∀ (nn : Nat) (m_newWeight_3 : (Nat → Int)) (m_newTerms_4 : (Nat → Int)) (m_newTermMany_5 : (Nat → Int)) (m_newSoft_6 : (Nat → Int)) (m_newStar_7 : (Nat → Int)) (m_newTerm_8 : (Nat → Int)) (m_newItems_9 : Int) (m_point_10 : Int) (m_begin_11 : Int), μ1 m_newWeight_3 m_newTerms_4 m_newTermMany_5 m_newSoft_6 m_newStar_7 m_newTerm_8 m_newItems_9 m_point_10 m_begin_11 < nn → I1 m_newWeight_3 m_newTerms_4 m_newTermMany_5 m_newSoft_6 m_newStar_7 m_newTerm_8 m_newItems_9 m_point_10 m_begin_11 → Wd p l e (rmD 6) s m args below meth c Q 0 0 2 D cA ad A LM (wI (wI (wI (wI (wI (wI (wI (wA (wA (wA (wA (wA (wA w 18 m_newWeight_3) 19 m_newTerms_4) 20 m_newTermMany_5) 21 m_newSoft_6) 22 m_newStar_7) 23 m_newTerm_8) 0 0 0) 0 2 0) 0 30 m_newItems_9) 0 31 m_point_10) 0 32 m_begin_11) 0 33 (w.1 0 2)) 0 34 (-1)) 37 [some (aR 0), none] [] := by
    intro nn
    induction nn with
    | zero => intro m_newWeight_3 m_newTerms_4 m_newTermMany_5 m_newSoft_6 m_newStar_7 m_newTerm_8 m_newItems_9 m_point_10 m_begin_11 hn; exact absurd hn (Nat.not_lt_zero _)
    | succ nn ih1 =>
      intro m_newWeight_3 m_newTerms_4 m_newTermMany_5 m_newSoft_6 m_newStar_7 m_newTerm_8 m_newItems_9 m_point_10 m_begin_11 hn1 hi
      have h := hB1 m_newWeight_3 m_newTerms_4 m_newTermMany_5 m_newSoft_6 m_newStar_7 m_newTerm_8 m_newItems_9 m_point_10 m_begin_11 hi
      refine r_aload_n (pc := 37) hC 0 dX10_query_37 rfl rfl ?_
      refine r_get (kd := 0) (v := m_point_10) (pc := 38) hC dX10_query_38 fl_RX10_224 lM_0 rfl rfl ?_
      refine r_aload_n (pc := 41) hC 0 dX10_query_41 rfl rfl ?_
      refine r_get (kd := 0) (v := (w.1 0 2)) (pc := 42) hC dX10_query_42 fl_RX10_227 lM_0 rfl rfl ?_
      refine r_ic_ge (pc := 45) (tgt := 80) hC dX10_query_45 rfl (fun hc5 => ?_) (fun hc5 => ?_)
      · have h := h.1 hc5
        refine r_aload_n (pc := 80) hC 0 dX10_query_80 rfl rfl ?_
        refine r_aload_n (pc := 81) hC 0 dX10_query_81 rfl rfl ?_
        refine r_get (kd := 0) (v := m_newItems_9) (pc := 82) hC dX10_query_82 fl_RX10_248 lM_0 rfl rfl ?_
        refine r_put (kd := 0) (pc := 85) hC dX10_query_85 pl_RX10_271 lM_0 rfl (by decide) (Or.inl rfl) ?_
        refine r_iconst (pc := 88) hC dX10_query_88 (rng_lit rfl) ?_
        refine r_istore_n (ls2 := [some (aR 0), some (aI 0)]) (pc := 89) hC 1 dX10_query_89 rfl (by decide) rfl rfl ?_
        obtain ⟨I2, μ2, hI2, hB2⟩ := h
        have S2 : ∀ (nn : Nat) (m_weight_12 : (Nat → Int)) (m_terms_13 : (Nat → Int)) (m_soft_14 : (Nat → Int)) (x15 : Int), μ2 m_weight_12 m_terms_13 m_soft_14 x15 < nn → I2 m_weight_12 m_terms_13 m_soft_14 x15 → Wd p l e (rmD 6) s m args below meth c Q 0 0 2 D cA ad A LM (wI (wI (wI (wI (wI (wI (wI (wI (wA (wA (wA (wA (wA (wA (wA (wA (wA w 12 m_weight_12) 13 m_terms_13) 15 m_soft_14) 18 m_newWeight_3) 19 m_newTerms_4) 20 m_newTermMany_5) 21 m_newSoft_6) 22 m_newStar_7) 23 m_newTerm_8) 0 0 0) 0 2 0) 0 29 m_newItems_9) 0 30 m_newItems_9) 0 31 m_point_10) 0 32 m_begin_11) 0 33 (w.1 0 2)) 0 34 (-1)) 90 [some (aR 0), some (aI x15)] [] := by
          intro nn
          induction nn with
          | zero => intro m_weight_12 m_terms_13 m_soft_14 x15 hn; exact absurd hn (Nat.not_lt_zero _)
          | succ nn ih2 =>
            intro m_weight_12 m_terms_13 m_soft_14 x15 hn2 hi
            have h := hB2 m_weight_12 m_terms_13 m_soft_14 x15 hi
            refine r_iload_n (pc := 90) hC 1 dX10_query_90 rfl rfl ?_
            refine r_bipush (pc := 91) hC dX10_query_91 ⟨rfl, rng_lit rfl⟩ ?_
            refine r_ic_ge (pc := 93) (tgt := 138) hC dX10_query_93 rfl (fun hc3 => ?_) (fun hc3 => ?_)
            · have h := h.1 hc3
              refine r_iconst (pc := 138) hC dX10_query_138 (rng_lit rfl) ?_
              refine r_istore_n (ls2 := [some (aR 0), some (aI 0)]) (pc := 139) hC 1 dX10_query_139 rfl (by decide) rfl rfl ?_
              obtain ⟨I3, μ3, hI3, hB3⟩ := h
              have S3 : ∀ (nn : Nat) (m_termMany_16 : (Nat → Int)) (m_star_17 : (Nat → Int)) (x18 : Int), μ3 m_termMany_16 m_star_17 x18 < nn → I3 m_termMany_16 m_star_17 x18 → Wd p l e (rmD 6) s m args below meth c Q 0 0 2 D cA ad A LM (wI (wI (wI (wI (wI (wI (wI (wI (wA (wA (wA (wA (wA (wA (wA (wA (wA (wA (wA w 12 m_weight_12) 13 m_terms_13) 14 m_termMany_16) 15 m_soft_14) 16 m_star_17) 18 m_newWeight_3) 19 m_newTerms_4) 20 m_newTermMany_5) 21 m_newSoft_6) 22 m_newStar_7) 23 m_newTerm_8) 0 0 0) 0 2 0) 0 29 m_newItems_9) 0 30 m_newItems_9) 0 31 m_point_10) 0 32 m_begin_11) 0 33 (w.1 0 2)) 0 34 (-1)) 140 [some (aR 0), some (aI x18)] [] := by
                intro nn
                induction nn with
                | zero => intro m_termMany_16 m_star_17 x18 hn; exact absurd hn (Nat.not_lt_zero _)
                | succ nn ih3 =>
                  intro m_termMany_16 m_star_17 x18 hn3 hi
                  have h := hB3 m_termMany_16 m_star_17 x18 hi
                  refine r_iload_n (pc := 140) hC 1 dX10_query_140 rfl rfl ?_
                  refine r_bipush (pc := 141) hC dX10_query_141 ⟨rfl, rng_lit rfl⟩ ?_
                  refine r_ic_ge (pc := 143) (tgt := 176) hC dX10_query_143 rfl (fun hc2 => ?_) (fun hc2 => ?_)
                  · have h := h.1 hc2
                    refine r_iconst (pc := 176) hC dX10_query_176 (rng_lit rfl) ?_
                    refine r_istore_n (ls2 := [some (aR 0), some (aI 0)]) (pc := 177) hC 1 dX10_query_177 rfl (by decide) rfl rfl ?_
                    obtain ⟨I4, μ4, hI4, hB4⟩ := h
                    have S4 : ∀ (nn : Nat) (m_term_19 : (Nat → Int)) (x20 : Int), μ4 m_term_19 x20 < nn → I4 m_term_19 x20 → Wd p l e (rmD 6) s m args below meth c Q 0 0 2 D cA ad A LM (wI (wI (wI (wI (wI (wI (wI (wI (wA (wA (wA (wA (wA (wA (wA (wA (wA (wA (wA (wA w 12 m_weight_12) 13 m_terms_13) 14 m_termMany_16) 15 m_soft_14) 16 m_star_17) 17 m_term_19) 18 m_newWeight_3) 19 m_newTerms_4) 20 m_newTermMany_5) 21 m_newSoft_6) 22 m_newStar_7) 23 m_newTerm_8) 0 0 0) 0 2 0) 0 29 m_newItems_9) 0 30 m_newItems_9) 0 31 m_point_10) 0 32 m_begin_11) 0 33 (w.1 0 2)) 0 34 (-1)) 178 [some (aR 0), some (aI x20)] [] := by
                      intro nn
                      induction nn with
                      | zero => intro m_term_19 x20 hn; exact absurd hn (Nat.not_lt_zero _)
                      | succ nn ih4 =>
                        intro m_term_19 x20 hn4 hi
                        have h := hB4 m_term_19 x20 hi
                        refine r_iload_n (pc := 178) hC 1 dX10_query_178 rfl rfl ?_
                        refine r_sipush (pc := 179) hC dX10_query_179 ⟨rfl, rng_lit rfl⟩ ?_
                        refine r_ic_ge (pc := 182) (tgt := 203) hC dX10_query_182 rfl (fun hc1 => ?_) (fun hc1 => ?_)
                        · have h := h.1 hc1
                          refine r_aload_n (pc := 203) hC 0 dX10_query_203 rfl rfl ?_
                          refine r_callVv (pc := 204) hC [] [] dX10_query_204 ml_RX10_218 my_X10_laysMatches mi_X10_laysMatches lM_0 rfl rfl ⟨Nat.le_of_ble_eq_true rfl, Nat.le_of_ble_eq_true rfl⟩ ⟨Nat.le_of_ble_eq_true rfl, Nat.le_of_ble_eq_true rfl⟩ (Nat.le_of_ble_eq_true rfl) rfl (s_M_laysMatches l _ _ h) (fun w1 hq => ?_)
                          obtain ⟨m_matchItem_21, m_matchFirst_22, m_matchLast_23, m_isMatch_24, m_matches_25, m_areLaid_26, m_areLikeLaid_27, e9, h⟩ := hq
                          rw [e9]
                          refine r_aload_n (pc := 207) hC 0 dX10_query_207 rfl rfl ?_
                          refine r_iconst (pc := 208) hC dX10_query_208 (rng_lit rfl) ?_
                          refine r_put (kd := 0) (pc := 209) hC dX10_query_209 pl_RX10_221 lM_0 rfl (by decide) (Or.inl rfl) ?_
                          refine r_aload_n (pc := 212) hC 0 dX10_query_212 rfl rfl ?_
                          refine r_get (kd := 0) (v := m_newItems_9) (pc := 213) hC dX10_query_213 fl_RX10_271 lM_0 rfl rfl ?_
                          refine r_conv (w2 := (wI (wI (wI (wI (wI (wI (wI (wI (wI (wI (wI (wI (wA (wA (wA (wA (wA (wA (wA (wA (wA (wA (wA (wA (wA (wA (wA (wA w 12 m_weight_12) 13 m_terms_13) 14 m_termMany_16) 15 m_soft_14) 16 m_star_17) 17 m_term_19) 18 m_newWeight_3) 19 m_newTerms_4) 20 m_newTermMany_5) 21 m_newSoft_6) 22 m_newStar_7) 23 m_newTerm_8) 24 m_matchItem_21) 25 m_matchFirst_22) 26 m_matchLast_23) 27 m_isMatch_24) 0 0 0) 0 2 0) 0 29 m_newItems_9) 0 30 m_newItems_9) 0 31 m_point_10) 0 32 m_begin_11) 0 33 (w.1 0 2)) 0 34 (-1)) 0 39 m_matches_25) 0 42 m_areLaid_26) 0 43 m_areLikeLaid_27) 0 53 0)) rfl ?_
                          exact r_reti (pc := 216) (kd := 0) hC hQ dX10_query_216 hr hk (by decide) (Or.inl rfl) ⟨m_weight_12, m_terms_13, m_termMany_16, m_soft_14, m_star_17, m_term_19, m_newWeight_3, m_newTerms_4, m_newTermMany_5, m_newSoft_6, m_newStar_7, m_newTerm_8, m_matchItem_21, m_matchFirst_22, m_matchLast_23, m_isMatch_24, 0, 0, m_newItems_9, m_newItems_9, m_point_10, m_begin_11, (w.1 0 2), (-1), m_matches_25, m_areLaid_26, m_areLikeLaid_27, 0, rfl, h⟩
                        have h := h.2 hc1
                        refine r_aload_n (pc := 185) hC 0 dX10_query_185 rfl rfl ?_
                        refine r_getr (r := 17) (pc := 186) hC dX10_query_186 fl_RX10_60 lM_0 rfl ?_
                        refine r_iload_n (pc := 189) hC 1 dX10_query_189 rfl rfl ?_
                        refine r_aload_n (pc := 190) hC 0 dX10_query_190 rfl rfl ?_
                        refine r_getr (r := 23) (pc := 191) hC dX10_query_191 fl_RX10_78 lM_0 rfl ?_
                        refine r_iload_n (pc := 194) hC 1 dX10_query_194 rfl rfl ?_
                        refine r_bald (v := (m_newTerm_8 (Int.toNat x20))) (pc := 195) hC dX10_query_195 lM_23 h.1.1 h.1.2 rfl ?_
                        have h := h.2
                        refine r_bast (pc := 196) hC dX10_query_196 lM_17 h.1.1.1 h.1.1.2 h.1.2 ?_
                        have h := h.2
                        refine r_iinc (ls2 := [some (aR 0), some (aI (x20 + 1))]) (pc := 197) hC dX10_query_197 rfl (by decide) rfl h.1 rfl ?_
                        have h := h.2
                        refine r_goto (tgt := 178) (pc := 200) hC dX10_query_200 rfl ?_
                        exact r_to [true, true] rfl rfl (ih4 (uI m_term_19 x20 (m_newTerm_8 (Int.toNat x20))) (x20 + 1) (Nat.lt_of_lt_of_le h.2 (Nat.le_of_lt_succ hn4)) h.1)
                    exact r_to [true, true] rfl rfl (S4 _ (w.1 17) 0 (Nat.lt_succ_self _) hI4)
                  have h := h.2 hc2
                  refine r_aload_n (pc := 146) hC 0 dX10_query_146 rfl rfl ?_
                  refine r_getr (r := 14) (pc := 147) hC dX10_query_147 fl_RX10_51 lM_0 rfl ?_
                  refine r_iload_n (pc := 150) hC 1 dX10_query_150 rfl rfl ?_
                  refine r_aload_n (pc := 151) hC 0 dX10_query_151 rfl rfl ?_
                  refine r_getr (r := 20) (pc := 152) hC dX10_query_152 fl_RX10_69 lM_0 rfl ?_
                  refine r_iload_n (pc := 155) hC 1 dX10_query_155 rfl rfl ?_
                  refine r_iald (v := (m_newTermMany_5 (Int.toNat x18))) (pc := 156) hC dX10_query_156 lM_20 h.1.1 h.1.2 rfl ?_
                  have h := h.2
                  refine r_iast (pc := 157) hC dX10_query_157 lM_14 h.1.1 h.1.2 ?_
                  have h := h.2
                  refine r_aload_n (pc := 158) hC 0 dX10_query_158 rfl rfl ?_
                  refine r_getr (r := 16) (pc := 159) hC dX10_query_159 fl_RX10_57 lM_0 rfl ?_
                  refine r_iload_n (pc := 162) hC 1 dX10_query_162 rfl rfl ?_
                  refine r_aload_n (pc := 163) hC 0 dX10_query_163 rfl rfl ?_
                  refine r_getr (r := 22) (pc := 164) hC dX10_query_164 fl_RX10_75 lM_0 rfl ?_
                  refine r_iload_n (pc := 167) hC 1 dX10_query_167 rfl rfl ?_
                  refine r_zald (v := (m_newStar_7 (Int.toNat x18))) (pc := 168) hC dX10_query_168 lM_22 h.1.1 h.1.2 rfl ?_
                  have h := h.2
                  refine r_zast (pc := 169) hC dX10_query_169 lM_16 h.1.1.1 h.1.1.2 h.1.2 ?_
                  have h := h.2
                  refine r_iinc (ls2 := [some (aR 0), some (aI (x18 + 1))]) (pc := 170) hC dX10_query_170 rfl (by decide) rfl h.1 rfl ?_
                  have h := h.2
                  refine r_goto (tgt := 140) (pc := 173) hC dX10_query_173 rfl ?_
                  exact r_to [true, true] rfl rfl (ih3 (uI m_termMany_16 x18 (m_newTermMany_5 (Int.toNat x18))) (uI m_star_17 x18 (m_newStar_7 (Int.toNat x18))) (x18 + 1) (Nat.lt_of_lt_of_le h.2 (Nat.le_of_lt_succ hn3)) h.1)
              exact r_to [true, true] rfl rfl (S3 _ (w.1 14) (w.1 16) 0 (Nat.lt_succ_self _) hI3)
            have h := h.2 hc3
            refine r_aload_n (pc := 96) hC 0 dX10_query_96 rfl rfl ?_
            refine r_getr (r := 12) (pc := 97) hC dX10_query_97 fl_RX10_45 lM_0 rfl ?_
            refine r_iload_n (pc := 100) hC 1 dX10_query_100 rfl rfl ?_
            refine r_aload_n (pc := 101) hC 0 dX10_query_101 rfl rfl ?_
            refine r_getr (r := 18) (pc := 102) hC dX10_query_102 fl_RX10_63 lM_0 rfl ?_
            refine r_iload_n (pc := 105) hC 1 dX10_query_105 rfl rfl ?_
            refine r_iald (v := (m_newWeight_3 (Int.toNat x15))) (pc := 106) hC dX10_query_106 lM_18 h.1.1 h.1.2 rfl ?_
            have h := h.2
            refine r_iast (pc := 107) hC dX10_query_107 lM_12 h.1.1 h.1.2 ?_
            have h := h.2
            refine r_aload_n (pc := 108) hC 0 dX10_query_108 rfl rfl ?_
            refine r_getr (r := 13) (pc := 109) hC dX10_query_109 fl_RX10_48 lM_0 rfl ?_
            refine r_iload_n (pc := 112) hC 1 dX10_query_112 rfl rfl ?_
            refine r_aload_n (pc := 113) hC 0 dX10_query_113 rfl rfl ?_
            refine r_getr (r := 19) (pc := 114) hC dX10_query_114 fl_RX10_66 lM_0 rfl ?_
            refine r_iload_n (pc := 117) hC 1 dX10_query_117 rfl rfl ?_
            refine r_iald (v := (m_newTerms_4 (Int.toNat x15))) (pc := 118) hC dX10_query_118 lM_19 h.1.1 h.1.2 rfl ?_
            have h := h.2
            refine r_iast (pc := 119) hC dX10_query_119 lM_13 h.1.1 h.1.2 ?_
            have h := h.2
            refine r_aload_n (pc := 120) hC 0 dX10_query_120 rfl rfl ?_
            refine r_getr (r := 15) (pc := 121) hC dX10_query_121 fl_RX10_54 lM_0 rfl ?_
            refine r_iload_n (pc := 124) hC 1 dX10_query_124 rfl rfl ?_
            refine r_aload_n (pc := 125) hC 0 dX10_query_125 rfl rfl ?_
            refine r_getr (r := 21) (pc := 126) hC dX10_query_126 fl_RX10_72 lM_0 rfl ?_
            refine r_iload_n (pc := 129) hC 1 dX10_query_129 rfl rfl ?_
            refine r_zald (v := (m_newSoft_6 (Int.toNat x15))) (pc := 130) hC dX10_query_130 lM_21 h.1.1 h.1.2 rfl ?_
            have h := h.2
            refine r_zast (pc := 131) hC dX10_query_131 lM_15 h.1.1.1 h.1.1.2 h.1.2 ?_
            have h := h.2
            refine r_iinc (ls2 := [some (aR 0), some (aI (x15 + 1))]) (pc := 132) hC dX10_query_132 rfl (by decide) rfl h.1 rfl ?_
            have h := h.2
            refine r_goto (tgt := 90) (pc := 135) hC dX10_query_135 rfl ?_
            exact r_to [true, true] rfl rfl (ih2 (uI m_weight_12 x15 (m_newWeight_3 (Int.toNat x15))) (uI m_terms_13 x15 (m_newTerms_4 (Int.toNat x15))) (uI m_soft_14 x15 (m_newSoft_6 (Int.toNat x15))) (x15 + 1) (Nat.lt_of_lt_of_le h.2 (Nat.le_of_lt_succ hn2)) h.1)
        exact r_to [true, true] rfl rfl (S2 _ (w.1 12) (w.1 13) (w.1 15) 0 (Nat.lt_succ_self _) hI2)
      have h := h.2 hc5
      refine r_aload_n (pc := 48) hC 0 dX10_query_48 rfl rfl ?_
      refine r_callVi (pc := 49) hC [] [] dX10_query_49 ml_RX10_268 my_X10_readsItem mi_X10_readsItem lM_0 rfl rfl ⟨Nat.le_of_ble_eq_true rfl, Nat.le_of_ble_eq_true rfl⟩ ⟨Nat.le_of_ble_eq_true rfl, Nat.le_of_ble_eq_true rfl⟩ (Nat.le_of_ble_eq_true rfl) rfl (s_M_readsItem l _ _ h) (fun r28 w1 hq => ?_)
      obtain ⟨m_newWeight_29, m_newTerms_30, m_newTermMany_31, m_newSoft_32, m_newStar_33, m_newTerm_34, m_newItems_35, m_point_36, m_begin_37, e9, h⟩ := hq
      rw [e9]
      refine r_if_eq (pc := 52) (tgt := 58) hC dX10_query_52 rfl (fun hc4 => ?_) (fun hc4 => ?_)
      · have h := h.1 hc4
        refine r_aload_n (pc := 58) hC 0 dX10_query_58 rfl rfl ?_
        refine r_aload_n (pc := 59) hC 0 dX10_query_59 rfl rfl ?_
        refine r_get (kd := 0) (v := m_begin_37) (pc := 60) hC dX10_query_60 fl_RX10_233 lM_0 rfl rfl ?_
        refine r_put (kd := 0) (pc := 63) hC dX10_query_63 pl_RX10_81 lM_0 rfl (by decide) (Or.inl rfl) ?_
        refine r_aload_n (pc := 66) hC 0 dX10_query_66 rfl rfl ?_
        refine r_iconst (pc := 67) hC dX10_query_67 (rng_lit rfl) ?_
        refine r_put (kd := 0) (pc := 68) hC dX10_query_68 pl_RX10_142 lM_0 rfl (by decide) (Or.inl rfl) ?_
        refine r_iconst (pc := 71) hC dX10_query_71 (rng_lit rfl) ?_
        refine r_conv (w2 := (wI (wI (wI (wI (wI (wI (wI (wI (wI (wI (wI (wI (wA (wA (wA (wA (wA (wA (wA (wA (wA (wA (wA (wA (wA (wA (wA (wA w 12 (w.1 12)) 13 (w.1 13)) 14 (w.1 14)) 15 (w.1 15)) 16 (w.1 16)) 17 (w.1 17)) 18 m_newWeight_29) 19 m_newTerms_30) 20 m_newTermMany_31) 21 m_newSoft_32) 22 m_newStar_33) 23 m_newTerm_34) 24 (w.1 24)) 25 (w.1 25)) 26 (w.1 26)) 27 (w.1 27)) 0 0 1) 0 2 0) 0 29 (w.1 0 29)) 0 30 m_newItems_35) 0 31 m_point_36) 0 32 m_begin_37) 0 33 (w.1 0 2)) 0 34 m_begin_37) 0 39 (w.1 0 39)) 0 42 (w.1 0 42)) 0 43 (w.1 0 43)) 0 53 (w.1 0 53))) rfl ?_
        exact r_reti (pc := 72) (kd := 0) hC hQ dX10_query_72 hr hk (by decide) (Or.inl rfl) ⟨(w.1 12), (w.1 13), (w.1 14), (w.1 15), (w.1 16), (w.1 17), m_newWeight_29, m_newTerms_30, m_newTermMany_31, m_newSoft_32, m_newStar_33, m_newTerm_34, (w.1 24), (w.1 25), (w.1 26), (w.1 27), 1, 0, (w.1 0 29), m_newItems_35, m_point_36, m_begin_37, (w.1 0 2), m_begin_37, (w.1 0 39), (w.1 0 42), (w.1 0 43), (w.1 0 53), rfl, h⟩
      have h := h.2 hc4
      refine r_goto (tgt := 73) (pc := 55) hC dX10_query_55 rfl ?_
      refine r_aload_n (pc := 73) hC 0 dX10_query_73 rfl rfl ?_
      refine r_callVv (pc := 74) hC [] [] dX10_query_74 ml_RX10_236 my_X10_blanks mi_X10_blanks lM_0 rfl rfl ⟨Nat.le_of_ble_eq_true rfl, Nat.le_of_ble_eq_true rfl⟩ ⟨Nat.le_of_ble_eq_true rfl, Nat.le_of_ble_eq_true rfl⟩ (Nat.le_of_ble_eq_true rfl) rfl (s_M_blanks l _ _ h) (fun w1 hq => ?_)
      obtain ⟨m_point_38, m_begin_39, e9, h⟩ := hq
      rw [e9]
      refine r_goto (tgt := 37) (pc := 77) hC dX10_query_77 rfl ?_
      exact r_to [true, false] rfl rfl (ih1 m_newWeight_29 m_newTerms_30 m_newTermMany_31 m_newSoft_32 m_newStar_33 m_newTerm_34 m_newItems_35 m_point_38 m_begin_39 (Nat.lt_of_lt_of_le h.2 (Nat.le_of_lt_succ hn1)) h.1)
  exact r_to [true, false] rfl rfl (S1 _ (w.1 18) (w.1 19) (w.1 20) (w.1 21) (w.1 22) (w.1 23) 0 m_point_1 m_begin_2 (Nat.lt_succ_self _) hI1)
def wp_M_fault (m_thrown : Int) (m_fault : Int) (Q : Int → Int → Prop) : Prop := Q m_fault 0
set_option maxHeartbeats 4000000 in
set_option maxRecDepth 20000 in
theorem s_M_fault (l : Launch) (w : St) (P : Int → Int → Prop) (h : wp_M_fault (w.1 0 0) (w.1 0 34) P) : Cn l yX10_fault cX10_fault 1 (some .int) 0 LM w [aR 0] (okI (fun r w1 => ∃ (o0 : Int), w1 = (wI w 0 0 o0) ∧ P r o0)) := by
  unfold wp_M_fault at h
  refine Cn.of2 [some (aR 0)] (by decide) (Nat.le_of_ble_eq_true rfl) rfl (fun p e s m args below meth c D cA ad A Q hQ hC hr hk => ?_)
  refine r_aload_n (pc := 0) hC 0 dX10_fault_0 rfl rfl ?_
  refine r_iconst (pc := 1) hC dX10_fault_1 (rng_lit rfl) ?_
  refine r_put (kd := 0) (pc := 2) hC dX10_fault_2 pl_RX10_142 lM_0 rfl (by decide) (Or.inl rfl) ?_
  refine r_aload_n (pc := 5) hC 0 dX10_fault_5 rfl rfl ?_
  refine r_get (kd := 0) (v := (w.1 0 34)) (pc := 6) hC dX10_fault_6 fl_RX10_81 lM_0 rfl rfl ?_
  refine r_conv (w2 := (wI w 0 0 0)) rfl ?_
  exact r_reti (pc := 9) (kd := 0) hC hQ dX10_fault_9 hr hk (by decide) (Or.inl rfl) ⟨0, rfl, h⟩
def wp_M_endsAt (m_terms : (Nat → Int)) (m_isMatch : (Nat → Int)) (a1 : Int) (a2 : Int) (a3 : Int) (Q : Int → Prop) : Prop := (0 ≤ a1 ∧ a1 < 8) ∧ ((rng (a2 - (m_terms (Int.toNat a1)))) ∧ ((rng ((a2 - (m_terms (Int.toNat a1))) + 1)) ∧ ((((a2 - (m_terms (Int.toNat a1))) + 1) < a3 → Q 0) ∧ (¬ ((a2 - (m_terms (Int.toNat a1))) + 1) < a3 → (rng (100 * a1)) ∧ ((rng ((100 * a1) + ((a2 - (m_terms (Int.toNat a1))) + 1))) ∧ ((0 ≤ ((100 * a1) + ((a2 - (m_terms (Int.toNat a1))) + 1)) ∧ ((100 * a1) + ((a2 - (m_terms (Int.toNat a1))) + 1)) < 800) ∧ (((m_isMatch (Int.toNat ((100 * a1) + ((a2 - (m_terms (Int.toNat a1))) + 1)))) = 0 → Q 0) ∧ (¬ (m_isMatch (Int.toNat ((100 * a1) + ((a2 - (m_terms (Int.toNat a1))) + 1)))) = 0 → Q 1))))))))
set_option maxHeartbeats 4000000 in
set_option maxRecDepth 20000 in
theorem s_M_endsAt (l : Launch) (w : St) (a1 : Int) (a2 : Int) (a3 : Int) (P : Int → Prop) (h : wp_M_endsAt (w.1 13) (w.1 27) a1 a2 a3 P) : Cn l yX10_endsAt cX10_endsAt 5 (some .boolean) 0 LM w [aR 0, aI a1, aI a2, aI a3] (okI (fun r w1 => w1 = w ∧ P r)) := by
  unfold wp_M_endsAt at h
  refine Cn.of2 [some (aR 0), some (aI a1), some (aI a2), some (aI a3), none] (by decide) (Nat.le_of_ble_eq_true rfl) rfl (fun p e s m args below meth c D cA ad A Q hQ hC hr hk => ?_)
  refine r_iload_n (pc := 0) hC 2 dX10_endsAt_0 rfl rfl ?_
  refine r_aload_n (pc := 1) hC 0 dX10_endsAt_1 rfl rfl ?_
  refine r_getr (r := 13) (pc := 2) hC dX10_endsAt_2 fl_RX10_48 lM_0 rfl ?_
  refine r_iload_n (pc := 5) hC 1 dX10_endsAt_5 rfl rfl ?_
  refine r_iald (v := ((w.1 13) (Int.toNat a1))) (pc := 6) hC dX10_endsAt_6 lM_13 h.1.1 h.1.2 rfl ?_
  have h := h.2
  refine r_isub (pc := 7) hC dX10_endsAt_7 h.1 ?_
  have h := h.2
  refine r_iconst (pc := 8) hC dX10_endsAt_8 (rng_lit rfl) ?_
  refine r_iadd (pc := 9) hC dX10_endsAt_9 h.1 ?_
  have h := h.2
  refine r_istore (ls2 := [some (aR 0), some (aI a1), some (aI a2), some (aI a3), some (aI ((a2 - ((w.1 13) (Int.toNat a1))) + 1))]) (pc := 10) hC dX10_endsAt_10 (by decide) rfl rfl ?_
  refine r_iload (pc := 12) hC dX10_endsAt_12 rfl ?_
  refine r_iload_n (pc := 14) hC 3 dX10_endsAt_14 rfl rfl ?_
  refine r_ic_lt (pc := 15) (tgt := 37) hC dX10_endsAt_15 rfl (fun hc2 => ?_) (fun hc2 => ?_)
  · have h := h.1 hc2
    refine r_iconst (pc := 37) hC dX10_endsAt_37 (rng_lit rfl) ?_
    exact r_reti (pc := 38) (kd := 1) hC hQ dX10_endsAt_38 hr hk (by decide) (Or.inr okK1_0) ⟨rfl, h⟩
  have h := h.2 hc2
  refine r_aload_n (pc := 18) hC 0 dX10_endsAt_18 rfl rfl ?_
  refine r_getr (r := 27) (pc := 19) hC dX10_endsAt_19 fl_RX10_94 lM_0 rfl ?_
  refine r_bipush (pc := 22) hC dX10_endsAt_22 ⟨rfl, rng_lit rfl⟩ ?_
  refine r_iload_n (pc := 24) hC 1 dX10_endsAt_24 rfl rfl ?_
  refine r_imul (pc := 25) hC dX10_endsAt_25 h.1 ?_
  have h := h.2
  refine r_iload (pc := 26) hC dX10_endsAt_26 rfl ?_
  refine r_iadd (pc := 28) hC dX10_endsAt_28 h.1 ?_
  have h := h.2
  refine r_zald (v := ((w.1 27) (Int.toNat ((100 * a1) + ((a2 - ((w.1 13) (Int.toNat a1))) + 1))))) (pc := 29) hC dX10_endsAt_29 lM_27 h.1.1 h.1.2 rfl ?_
  have h := h.2
  refine r_if_eq (pc := 30) (tgt := 37) hC dX10_endsAt_30 rfl (fun hc1 => ?_) (fun hc1 => ?_)
  · have h := h.1 hc1
    refine r_iconst (pc := 37) hC dX10_endsAt_37 (rng_lit rfl) ?_
    exact r_reti (pc := 38) (kd := 1) hC hQ dX10_endsAt_38 hr hk (by decide) (Or.inr okK1_0) ⟨rfl, h⟩
  have h := h.2 hc1
  refine r_iconst (pc := 33) hC dX10_endsAt_33 (rng_lit rfl) ?_
  refine r_goto (tgt := 38) (pc := 34) hC dX10_endsAt_34 rfl ?_
  exact r_reti (pc := 38) (kd := 1) hC hQ dX10_endsAt_38 hr hk (by decide) (Or.inr okK1_1) ⟨rfl, h⟩
def wp_M_worthOf (m_weight : (Nat → Int)) (a1 : Int) (a2 : Int) (Q : Int → Prop) : Prop := (¬ a2 = 0 → (0 ≤ a1 ∧ a1 < 8) ∧ (jn1 (fun (J1 : Int → Prop) => (¬ a2 = 1 → (¬ a2 = 2 → J1 14) ∧ (a2 = 2 → J1 13)) ∧ (a2 = 1 → J1 10)) (fun (y1 : Int) => (rng ((m_weight (Int.toNat a1)) * y1)) ∧ (Q ((m_weight (Int.toNat a1)) * y1))))) ∧ (a2 = 0 → Q 0)
set_option maxHeartbeats 4000000 in
set_option maxRecDepth 20000 in
theorem s_M_worthOf (l : Launch) (w : St) (a1 : Int) (a2 : Int) (P : Int → Prop) (h : wp_M_worthOf (w.1 12) a1 a2 P) : Cn l yX10_worthOf cX10_worthOf 3 (some .int) 0 LM w [aR 0, aI a1, aI a2] (okI (fun r w1 => w1 = w ∧ P r)) := by
  unfold wp_M_worthOf at h
  refine Cn.of2 [some (aR 0), some (aI a1), some (aI a2)] (by decide) (Nat.le_of_ble_eq_true rfl) rfl (fun p e s m args below meth c D cA ad A Q hQ hC hr hk => ?_)
  refine r_iload_n (pc := 0) hC 2 dX10_worthOf_0 rfl rfl ?_
  refine r_if_ne (pc := 1) (tgt := 8) hC dX10_worthOf_1 rfl (fun hc3 => ?_) (fun hc3 => ?_)
  · have h := h.1 hc3
    refine r_aload_n (pc := 8) hC 0 dX10_worthOf_8 rfl rfl ?_
    refine r_getr (r := 12) (pc := 9) hC dX10_worthOf_9 fl_RX10_45 lM_0 rfl ?_
    refine r_iload_n (pc := 12) hC 1 dX10_worthOf_12 rfl rfl ?_
    refine r_iald (v := ((w.1 12) (Int.toNat a1))) (pc := 13) hC dX10_worthOf_13 lM_12 h.1.1 h.1.2 rfl ?_
    have h := h.2
    refine r_iload_n (pc := 14) hC 2 dX10_worthOf_14 rfl rfl ?_
    refine r_iconst (pc := 15) hC dX10_worthOf_15 (rng_lit rfl) ?_
    obtain ⟨J1, hJ1, h⟩ := h
    have S1 : ∀ (y1 : Int), J1 y1 → Wd p l e (rmD 0) s m args below meth c Q 0 0 3 D cA ad A LM w 36 [none, none, none] [aI y1, aI ((w.1 12) (Int.toNat a1))] := by
      intro y1 hj
      have h := hJ1 y1 hj
      refine r_imul (pc := 36) hC dX10_worthOf_36 h.1 ?_
      have h := h.2
      exact r_reti (pc := 37) (kd := 0) hC hQ dX10_worthOf_37 hr hk (by decide) (Or.inl rfl) ⟨rfl, h⟩
    refine r_ic_ne (pc := 16) (tgt := 24) hC dX10_worthOf_16 rfl (fun hc2 => ?_) (fun hc2 => ?_)
    · have h := h.1 hc2
      refine r_iload_n (pc := 24) hC 2 dX10_worthOf_24 rfl rfl ?_
      refine r_iconst (pc := 25) hC dX10_worthOf_25 (rng_lit rfl) ?_
      refine r_ic_ne (pc := 26) (tgt := 34) hC dX10_worthOf_26 rfl (fun hc1 => ?_) (fun hc1 => ?_)
      · have h := h.1 hc1
        refine r_bipush (pc := 34) hC dX10_worthOf_34 ⟨rfl, rng_lit rfl⟩ ?_
        exact r_to [false, false, false] rfl rfl (S1 14 h)
      have h := h.2 hc1
      refine r_bipush (pc := 29) hC dX10_worthOf_29 ⟨rfl, rng_lit rfl⟩ ?_
      refine r_goto (tgt := 36) (pc := 31) hC dX10_worthOf_31 rfl ?_
      exact r_to [false, false, false] rfl rfl (S1 13 h)
    have h := h.2 hc2
    refine r_bipush (pc := 19) hC dX10_worthOf_19 ⟨rfl, rng_lit rfl⟩ ?_
    refine r_goto (tgt := 36) (pc := 21) hC dX10_worthOf_21 rfl ?_
    exact r_to [false, false, false] rfl rfl (S1 10 h)
  have h := h.2 hc3
  refine r_iconst (pc := 4) hC dX10_worthOf_4 (rng_lit rfl) ?_
  refine r_goto (tgt := 37) (pc := 5) hC dX10_worthOf_5 rfl ?_
  exact r_reti (pc := 37) (kd := 0) hC hQ dX10_worthOf_37 hr hk (by decide) (Or.inl rfl) ⟨rfl, h⟩
def wp_M_worthInWindow (m_weight : (Nat → Int)) (m_inWindow : (Nat → Int)) (m_items : Int) (Q : Int → Prop) : Prop := lpw2 (fun (x1 : Int) (x2 : Int) (k1 : Int → Int → Prop) => (m_items ≤ x2 → Q x1) ∧ (¬ m_items ≤ x2 → (0 ≤ x2 ∧ x2 < 8) ∧ (wp_M_worthOf m_weight x2 (m_inWindow (Int.toNat x2)) (fun (r3 : Int) => (rng (x1 + r3)) ∧ ((rng (x2 + 1)) ∧ (k1 (x1 + r3) (x2 + 1))))))) 0 0
set_option maxHeartbeats 4000000 in
set_option maxRecDepth 20000 in
theorem s_M_worthInWindow (l : Launch) (w : St) (P : Int → Prop) (h : wp_M_worthInWindow (w.1 12) (w.1 30) (w.1 0 29) P) : Cn l yX10_worthInWindow cX10_worthInWindow 3 (some .int) 1 LM w [aR 0] (okI (fun r w1 => w1 = w ∧ P r)) := by
  unfold wp_M_worthInWindow at h
  refine Cn.of2 [some (aR 0), none, none] (by decide) (Nat.le_of_ble_eq_true rfl) rfl (fun p e s m args below meth c D cA ad A Q hQ hC hr hk => ?_)
  refine r_iconst (pc := 0) hC dX10_worthInWindow_0 (rng_lit rfl) ?_
  refine r_istore_n (ls2 := [some (aR 0), some (aI 0), none]) (pc := 1) hC 1 dX10_worthInWindow_1 rfl (by decide) rfl rfl ?_
  refine r_iconst (pc := 2) hC dX10_worthInWindow_2 (rng_lit rfl) ?_
  refine r_istore_n (ls2 := [some (aR 0), some (aI 0), some (aI 0)]) (pc := 3) hC 2 dX10_worthInWindow_3 rfl (by decide) rfl rfl ?_
  obtain ⟨I1, μ1, hI1, hB1⟩ := h
  have S1 : ∀ (nn : Nat) (x1 : Int) (x2 : Int), μ1 x1 x2 < nn → I1 x1 x2 → Wd p l e (rmD 1) s m args below meth c Q 0 0 3 D cA ad A LM w 4 [some (aR 0), some (aI x1), some (aI x2)] [] := by
    intro nn
    induction nn with
    | zero => intro x1 x2 hn; exact absurd hn (Nat.not_lt_zero _)
    | succ nn ih1 =>
      intro x1 x2 hn1 hi
      have h := hB1 x1 x2 hi
      refine r_iload_n (pc := 4) hC 2 dX10_worthInWindow_4 rfl rfl ?_
      refine r_aload_n (pc := 5) hC 0 dX10_worthInWindow_5 rfl rfl ?_
      refine r_get (kd := 0) (v := (w.1 0 29)) (pc := 6) hC dX10_worthInWindow_6 fl_RX10_271 lM_0 rfl rfl ?_
      refine r_ic_ge (pc := 9) (tgt := 32) hC dX10_worthInWindow_9 rfl (fun hc1 => ?_) (fun hc1 => ?_)
      · have h := h.1 hc1
        refine r_iload_n (pc := 32) hC 1 dX10_worthInWindow_32 rfl rfl ?_
        exact r_reti (pc := 33) (kd := 0) hC hQ dX10_worthInWindow_33 hr hk (by decide) (Or.inl rfl) ⟨rfl, h⟩
      have h := h.2 hc1
      refine r_iload_n (pc := 12) hC 1 dX10_worthInWindow_12 rfl rfl ?_
      refine r_aload_n (pc := 13) hC 0 dX10_worthInWindow_13 rfl rfl ?_
      refine r_iload_n (pc := 14) hC 2 dX10_worthInWindow_14 rfl rfl ?_
      refine r_aload_n (pc := 15) hC 0 dX10_worthInWindow_15 rfl rfl ?_
      refine r_getr (r := 30) (pc := 16) hC dX10_worthInWindow_16 fl_RX10_103 lM_0 rfl ?_
      refine r_iload_n (pc := 19) hC 2 dX10_worthInWindow_19 rfl rfl ?_
      refine r_iald (v := ((w.1 30) (Int.toNat x2))) (pc := 20) hC dX10_worthInWindow_20 lM_30 h.1.1 h.1.2 rfl ?_
      have h := h.2
      refine r_callVi (pc := 21) hC [aI x2, aI ((w.1 30) (Int.toNat x2))] [aI x1] dX10_worthInWindow_21 ml_RX10_290 my_X10_worthOf mi_X10_worthOf lM_0 rfl rfl ⟨Nat.le_of_ble_eq_true rfl, Nat.le_of_ble_eq_true rfl⟩ ⟨Nat.le_of_ble_eq_true rfl, Nat.le_of_ble_eq_true rfl⟩ (Nat.le_of_ble_eq_true rfl) rfl (s_M_worthOf l _ _ _ _ h) (fun r3 w1 hq => ?_)
      obtain ⟨e9, h⟩ := hq
      rw [e9]
      refine r_iadd (pc := 24) hC dX10_worthInWindow_24 h.1 ?_
      have h := h.2
      refine r_istore_n (ls2 := [some (aR 0), some (aI (x1 + r3)), some (aI x2)]) (pc := 25) hC 1 dX10_worthInWindow_25 rfl (by decide) rfl rfl ?_
      refine r_iinc (ls2 := [some (aR 0), some (aI (x1 + r3)), some (aI (x2 + 1))]) (pc := 26) hC dX10_worthInWindow_26 rfl (by decide) rfl h.1 rfl ?_
      have h := h.2
      refine r_goto (tgt := 4) (pc := 29) hC dX10_worthInWindow_29 rfl ?_
      exact r_to [true, true, true] rfl rfl (ih1 (x1 + r3) (x2 + 1) (Nat.lt_of_lt_of_le h.2 (Nat.le_of_lt_succ hn1)) h.1)
  exact r_to [true, true, true] rfl rfl (S1 _ 0 0 (Nat.lt_succ_self _) hI1)
def wp_M_laysSets (m_sentenceOf : (Nat → Int)) (m_from : (Nat → Int)) (m_to : (Nat → Int)) (m_weight : (Nat → Int)) (m_matchItem : (Nat → Int)) (m_matchFirst : (Nat → Int)) (m_worth : (Nat → Int)) (m_length : (Nat → Int)) (m_inSentence : (Nat → Int)) (m_sentences : Int) (m_items : Int) (m_matches : Int) (m_areLaid : Int) (Q : (Nat → Int) → (Nat → Int) → (Nat → Int) → Int → Prop) : Prop := (m_areLaid = 0 → lpw2 (fun (m_inSentence_1 : (Nat → Int)) (x2 : Int) (k1 : (Nat → Int) → Int → Prop) => (112 ≤ x2 → lpw2 (fun (m_inSentence_3 : (Nat → Int)) (x4 : Int) (k2 : (Nat → Int) → Int → Prop) => (m_matches ≤ x4 → lpw3 (fun (m_worth_5 : (Nat → Int)) (m_length_6 : (Nat → Int)) (x7 : Int) (k3 : (Nat → Int) → (Nat → Int) → Int → Prop) => ((iShl 1 m_sentences) ≤ x7 → Q m_worth_5 m_length_6 m_inSentence_3 1) ∧ (¬ (iShl 1 m_sentences) ≤ x7 → lpw2 (fun (x8 : Int) (x9 : Int) (k4 : Int → Int → Prop) => (m_items ≤ x9 → lpw2 (fun (x10 : Int) (x11 : Int) (k5 : Int → Int → Prop) => (m_sentences ≤ x11 → (0 ≤ x7 ∧ x7 < 16384) ∧ ((0 ≤ x7 ∧ x7 < 16384) ∧ ((rng (x7 + 1)) ∧ (k3 (uI m_worth_5 x7 x8) (uI m_length_6 x7 x10) (x7 + 1))))) ∧ (¬ m_sentences ≤ x11 → wp_M_holds x7 x11 (fun (r12 : Int) => jn1 (fun (J6 : Int → Prop) => (r12 = 0 → J6 0) ∧ (¬ r12 = 0 → (0 ≤ x11 ∧ x11 < 14) ∧ ((0 ≤ x11 ∧ x11 < 14) ∧ ((rng ((m_to (Int.toNat x11)) - (m_from (Int.toNat x11)))) ∧ ((rng (((m_to (Int.toNat x11)) - (m_from (Int.toNat x11))) + 4)) ∧ (J6 (((m_to (Int.toNat x11)) - (m_from (Int.toNat x11))) + 4))))))) (fun (y13 : Int) => (rng (x10 + y13)) ∧ ((rng (x11 + 1)) ∧ (k5 (x10 + y13) (x11 + 1))))))) 0 0) ∧ (¬ m_items ≤ x9 → lpw2 (fun (x14 : Int) (x15 : Int) (k7 : Int → Int → Prop) => (m_sentences ≤ x15 → wp_M_worthOf m_weight x9 x14 (fun (r16 : Int) => (rng (x8 + r16)) ∧ ((rng (x9 + 1)) ∧ (k4 (x8 + r16) (x9 + 1))))) ∧ (¬ m_sentences ≤ x15 → wp_M_holds x7 x15 (fun (r17 : Int) => jn1 (fun (J8 : Int → Prop) => (r17 = 0 → J8 0) ∧ (¬ r17 = 0 → (rng (8 * x15)) ∧ ((rng ((8 * x15) + x9)) ∧ ((0 ≤ ((8 * x15) + x9) ∧ ((8 * x15) + x9) < 112) ∧ (J8 (m_inSentence_3 (Int.toNat ((8 * x15) + x9)))))))) (fun (y18 : Int) => (rng (x14 + y18)) ∧ ((rng (x15 + 1)) ∧ (k7 (x14 + y18) (x15 + 1))))))) 0 0)) 0 0)) m_worth m_length 0) ∧ (¬ m_matches ≤ x4 → (0 ≤ x4 ∧ x4 < 800) ∧ ((0 ≤ (m_matchFirst (Int.toNat x4)) ∧ (m_matchFirst (Int.toNat x4)) < 100) ∧ ((rng (8 * (m_sentenceOf (Int.toNat (m_matchFirst (Int.toNat x4)))))) ∧ ((0 ≤ x4 ∧ x4 < 800) ∧ ((rng ((8 * (m_sentenceOf (Int.toNat (m_matchFirst (Int.toNat x4))))) + (m_matchItem (Int.toNat x4)))) ∧ ((0 ≤ ((8 * (m_sentenceOf (Int.toNat (m_matchFirst (Int.toNat x4))))) + (m_matchItem (Int.toNat x4))) ∧ ((8 * (m_sentenceOf (Int.toNat (m_matchFirst (Int.toNat x4))))) + (m_matchItem (Int.toNat x4))) < 112) ∧ ((rng ((m_inSentence_3 (Int.toNat ((8 * (m_sentenceOf (Int.toNat (m_matchFirst (Int.toNat x4))))) + (m_matchItem (Int.toNat x4))))) + 1)) ∧ ((0 ≤ ((8 * (m_sentenceOf (Int.toNat (m_matchFirst (Int.toNat x4))))) + (m_matchItem (Int.toNat x4))) ∧ ((8 * (m_sentenceOf (Int.toNat (m_matchFirst (Int.toNat x4))))) + (m_matchItem (Int.toNat x4))) < 112) ∧ ((rng (x4 + 1)) ∧ (k2 (uI m_inSentence_3 ((8 * (m_sentenceOf (Int.toNat (m_matchFirst (Int.toNat x4))))) + (m_matchItem (Int.toNat x4))) ((m_inSentence_3 (Int.toNat ((8 * (m_sentenceOf (Int.toNat (m_matchFirst (Int.toNat x4))))) + (m_matchItem (Int.toNat x4))))) + 1)) (x4 + 1)))))))))))) m_inSentence_1 0) ∧ (¬ 112 ≤ x2 → (0 ≤ x2 ∧ x2 < 112) ∧ ((rng (x2 + 1)) ∧ (k1 (uI m_inSentence_1 x2 0) (x2 + 1))))) m_inSentence 0) ∧ (¬ m_areLaid = 0 → Q m_worth m_length m_inSentence m_areLaid)
set_option maxHeartbeats 4000000 in
set_option maxRecDepth 20000 in
theorem s_M_laysSets (l : Launch) (w : St) (P : (Nat → Int) → (Nat → Int) → (Nat → Int) → Int → Prop) (h : wp_M_laysSets (w.1 7) (w.1 9) (w.1 10) (w.1 12) (w.1 24) (w.1 25) (w.1 28) (w.1 29) (w.1 31) (w.1 0 16) (w.1 0 29) (w.1 0 39) (w.1 0 42) P) : Cn l yX10_laysSets cX10_laysSets 7 none 1 LM w [aR 0] (okV (fun w1 => ∃ (o0 : (Nat → Int)) (o1 : (Nat → Int)) (o2 : (Nat → Int)) (o3 : Int), w1 = (wI (wA (wA (wA w 28 o0) 29 o1) 31 o2) 0 42 o3) ∧ P o0 o1 o2 o3)) := by
  unfold wp_M_laysSets at h
  refine Cn.of2 [some (aR 0), none, none, none, none, none, none] (by decide) (Nat.le_of_ble_eq_true rfl) rfl (fun p e s m args below meth c D cA ad A Q hQ hC hr hk => ?_)
  refine r_aload_n (pc := 0) hC 0 dX10_laysSets_0 rfl rfl ?_
  refine r_get (kd := 1) (v := (w.1 0 42)) (pc := 1) hC dX10_laysSets_1 fl_RX10_283 lM_0 rfl rfl ?_
  refine r_if_eq (pc := 4) (tgt := 8) hC dX10_laysSets_4 rfl (fun hc9 => ?_) (fun hc9 => ?_)
  · have h := h.1 hc9
    refine r_aload_n (pc := 8) hC 0 dX10_laysSets_8 rfl rfl ?_
    refine r_iconst (pc := 9) hC dX10_laysSets_9 (rng_lit rfl) ?_
    refine r_put (kd := 1) (pc := 10) hC dX10_laysSets_10 pl_RX10_283 lM_0 rfl (by decide) (Or.inr okK1_1) ?_
    refine r_iconst (pc := 13) hC dX10_laysSets_13 (rng_lit rfl) ?_
    refine r_istore_n (ls2 := [some (aR 0), some (aI 0), none, none, none, none, none]) (pc := 14) hC 1 dX10_laysSets_14 rfl (by decide) rfl rfl ?_
    obtain ⟨I1, μ1, hI1, hB1⟩ := h
    have S1 : ∀ (nn : Nat) (m_inSentence_1 : (Nat → Int)) (x2 : Int), μ1 m_inSentence_1 x2 < nn → I1 m_inSentence_1 x2 → Wd p l e (rmD 1) s m args below meth c Q 0 0 7 D cA ad A LM (wI (wA w 31 m_inSentence_1) 0 42 1) 15 [some (aR 0), some (aI x2), none, none, none, none, none] [] := by
      intro nn
      induction nn with
      | zero => intro m_inSentence_1 x2 hn; exact absurd hn (Nat.not_lt_zero _)
      | succ nn ih1 =>
        intro m_inSentence_1 x2 hn1 hi
        have h := hB1 m_inSentence_1 x2 hi
        refine r_iload_n (pc := 15) hC 1 dX10_laysSets_15 rfl rfl ?_
        refine r_bipush (pc := 16) hC dX10_laysSets_16 ⟨rfl, rng_lit rfl⟩ ?_
        refine r_ic_ge (pc := 18) (tgt := 34) hC dX10_laysSets_18 rfl (fun hc8 => ?_) (fun hc8 => ?_)
        · have h := h.1 hc8
          refine r_iconst (pc := 34) hC dX10_laysSets_34 (rng_lit rfl) ?_
          refine r_istore_n (ls2 := [some (aR 0), some (aI 0), none, none, none, none, none]) (pc := 35) hC 1 dX10_laysSets_35 rfl (by decide) rfl rfl ?_
          obtain ⟨I2, μ2, hI2, hB2⟩ := h
          have S2 : ∀ (nn : Nat) (m_inSentence_3 : (Nat → Int)) (x4 : Int), μ2 m_inSentence_3 x4 < nn → I2 m_inSentence_3 x4 → Wd p l e (rmD 1) s m args below meth c Q 0 0 7 D cA ad A LM (wI (wA w 31 m_inSentence_3) 0 42 1) 36 [some (aR 0), some (aI x4), none, none, none, none, none] [] := by
            intro nn
            induction nn with
            | zero => intro m_inSentence_3 x4 hn; exact absurd hn (Nat.not_lt_zero _)
            | succ nn ih2 =>
              intro m_inSentence_3 x4 hn2 hi
              have h := hB2 m_inSentence_3 x4 hi
              refine r_iload_n (pc := 36) hC 1 dX10_laysSets_36 rfl rfl ?_
              refine r_aload_n (pc := 37) hC 0 dX10_laysSets_37 rfl rfl ?_
              refine r_get (kd := 0) (v := (w.1 0 39)) (pc := 38) hC dX10_laysSets_38 fl_RX10_277 lM_0 rfl rfl ?_
              refine r_ic_ge (pc := 41) (tgt := 80) hC dX10_laysSets_41 rfl (fun hc7 => ?_) (fun hc7 => ?_)
              · have h := h.1 hc7
                refine r_iconst (pc := 80) hC dX10_laysSets_80 (rng_lit rfl) ?_
                refine r_istore_n (ls2 := [some (aR 0), some (aI 0), none, none, none, none, none]) (pc := 81) hC 1 dX10_laysSets_81 rfl (by decide) rfl rfl ?_
                obtain ⟨I3, μ3, hI3, hB3⟩ := h
                have S3 : ∀ (nn : Nat) (m_worth_5 : (Nat → Int)) (m_length_6 : (Nat → Int)) (x7 : Int), μ3 m_worth_5 m_length_6 x7 < nn → I3 m_worth_5 m_length_6 x7 → Wd p l e (rmD 1) s m args below meth c Q 0 0 7 D cA ad A LM (wI (wA (wA (wA w 28 m_worth_5) 29 m_length_6) 31 m_inSentence_3) 0 42 1) 82 [some (aR 0), some (aI x7), none, none, none, none, none] [] := by
                  intro nn
                  induction nn with
                  | zero => intro m_worth_5 m_length_6 x7 hn; exact absurd hn (Nat.not_lt_zero _)
                  | succ nn ih3 =>
                    intro m_worth_5 m_length_6 x7 hn3 hi
                    have h := hB3 m_worth_5 m_length_6 x7 hi
                    refine r_iload_n (pc := 82) hC 1 dX10_laysSets_82 rfl rfl ?_
                    refine r_iconst (pc := 83) hC dX10_laysSets_83 (rng_lit rfl) ?_
                    refine r_aload_n (pc := 84) hC 0 dX10_laysSets_84 rfl rfl ?_
                    refine r_get (kd := 0) (v := (w.1 0 16)) (pc := 85) hC dX10_laysSets_85 fl_RX10_203 lM_0 rfl rfl ?_
                    refine r_ishl (pc := 88) hC dX10_laysSets_88 ?_
                    refine r_ic_ge (pc := 89) (tgt := 248) hC dX10_laysSets_89 rfl (fun hc6 => ?_) (fun hc6 => ?_)
                    · have h := h.1 hc6
                      refine r_conv (w2 := (wI (wA (wA (wA w 28 m_worth_5) 29 m_length_6) 31 m_inSentence_3) 0 42 1)) rfl ?_
                      exact r_retv (pc := 248) hC hQ dX10_laysSets_248 hr hk ⟨m_worth_5, m_length_6, m_inSentence_3, 1, rfl, h⟩
                    have h := h.2 hc6
                    refine r_iconst (pc := 92) hC dX10_laysSets_92 (rng_lit rfl) ?_
                    refine r_istore_n (ls2 := [some (aR 0), some (aI x7), some (aI 0), none, none, none, none]) (pc := 93) hC 2 dX10_laysSets_93 rfl (by decide) rfl rfl ?_
                    refine r_iconst (pc := 94) hC dX10_laysSets_94 (rng_lit rfl) ?_
                    refine r_istore_n (ls2 := [some (aR 0), some (aI x7), some (aI 0), some (aI 0), none, none, none]) (pc := 95) hC 3 dX10_laysSets_95 rfl (by decide) rfl rfl ?_
                    refine r_iconst (pc := 96) hC dX10_laysSets_96 (rng_lit rfl) ?_
                    refine r_istore (ls2 := [some (aR 0), some (aI x7), some (aI 0), some (aI 0), some (aI 0), none, none]) (pc := 97) hC dX10_laysSets_97 (by decide) rfl rfl ?_
                    obtain ⟨I4, μ4, hI4, hB4⟩ := h
                    have S4 : ∀ (nn : Nat) (x8 : Int) (x9 : Int), μ4 x8 x9 < nn → I4 x8 x9 → Wd p l e (rmD 1) s m args below meth c Q 0 0 7 D cA ad A LM (wI (wA (wA (wA w 28 m_worth_5) 29 m_length_6) 31 m_inSentence_3) 0 42 1) 99 [some (aR 0), some (aI x7), some (aI x8), some (aI 0), some (aI x9), none, none] [] := by
                      intro nn
                      induction nn with
                      | zero => intro x8 x9 hn; exact absurd hn (Nat.not_lt_zero _)
                      | succ nn ih4 =>
                        intro x8 x9 hn4 hi
                        have h := hB4 x8 x9 hi
                        refine r_iload (pc := 99) hC dX10_laysSets_99 rfl ?_
                        refine r_aload_n (pc := 101) hC 0 dX10_laysSets_101 rfl rfl ?_
                        refine r_get (kd := 0) (v := (w.1 0 29)) (pc := 102) hC dX10_laysSets_102 fl_RX10_271 lM_0 rfl rfl ?_
                        refine r_ic_ge (pc := 105) (tgt := 177) hC dX10_laysSets_105 rfl (fun hc5 => ?_) (fun hc5 => ?_)
                        · have h := h.1 hc5
                          refine r_iconst (pc := 177) hC dX10_laysSets_177 (rng_lit rfl) ?_
                          refine r_istore (ls2 := [some (aR 0), some (aI x7), some (aI x8), some (aI 0), some (aI 0), none, none]) (pc := 178) hC dX10_laysSets_178 (by decide) rfl rfl ?_
                          obtain ⟨I5, μ5, hI5, hB5⟩ := h
                          have S5 : ∀ (nn : Nat) (x10 : Int) (x11 : Int), μ5 x10 x11 < nn → I5 x10 x11 → Wd p l e (rmD 1) s m args below meth c Q 0 0 7 D cA ad A LM (wI (wA (wA (wA w 28 m_worth_5) 29 m_length_6) 31 m_inSentence_3) 0 42 1) 180 [some (aR 0), some (aI x7), some (aI x8), some (aI x10), some (aI x11), none, none] [] := by
                            intro nn
                            induction nn with
                            | zero => intro x10 x11 hn; exact absurd hn (Nat.not_lt_zero _)
                            | succ nn ih5 =>
                              intro x10 x11 hn5 hi
                              have h := hB5 x10 x11 hi
                              refine r_iload (pc := 180) hC dX10_laysSets_180 rfl ?_
                              refine r_aload_n (pc := 182) hC 0 dX10_laysSets_182 rfl rfl ?_
                              refine r_get (kd := 0) (v := (w.1 0 16)) (pc := 183) hC dX10_laysSets_183 fl_RX10_203 lM_0 rfl rfl ?_
                              refine r_ic_ge (pc := 186) (tgt := 228) hC dX10_laysSets_186 rfl (fun hc2 => ?_) (fun hc2 => ?_)
                              · have h := h.1 hc2
                                refine r_aload_n (pc := 228) hC 0 dX10_laysSets_228 rfl rfl ?_
                                refine r_getr (r := 28) (pc := 229) hC dX10_laysSets_229 fl_RX10_97 lM_0 rfl ?_
                                refine r_iload_n (pc := 232) hC 1 dX10_laysSets_232 rfl rfl ?_
                                refine r_iload_n (pc := 233) hC 2 dX10_laysSets_233 rfl rfl ?_
                                refine r_iast (pc := 234) hC dX10_laysSets_234 lM_28 h.1.1 h.1.2 ?_
                                have h := h.2
                                refine r_aload_n (pc := 235) hC 0 dX10_laysSets_235 rfl rfl ?_
                                refine r_getr (r := 29) (pc := 236) hC dX10_laysSets_236 fl_RX10_100 lM_0 rfl ?_
                                refine r_iload_n (pc := 239) hC 1 dX10_laysSets_239 rfl rfl ?_
                                refine r_iload_n (pc := 240) hC 3 dX10_laysSets_240 rfl rfl ?_
                                refine r_iast (pc := 241) hC dX10_laysSets_241 lM_29 h.1.1 h.1.2 ?_
                                have h := h.2
                                refine r_iinc (ls2 := [some (aR 0), some (aI (x7 + 1)), some (aI x8), some (aI x10), some (aI x11), none, none]) (pc := 242) hC dX10_laysSets_242 rfl (by decide) rfl h.1 rfl ?_
                                have h := h.2
                                refine r_goto (tgt := 82) (pc := 245) hC dX10_laysSets_245 rfl ?_
                                exact r_to [true, true, false, false, false, false, false] rfl rfl (ih3 (uI m_worth_5 x7 x8) (uI m_length_6 x7 x10) (x7 + 1) (Nat.lt_of_lt_of_le h.2 (Nat.le_of_lt_succ hn3)) h.1)
                              have h := h.2 hc2
                              refine r_iload_n (pc := 189) hC 3 dX10_laysSets_189 rfl rfl ?_
                              refine r_iload_n (pc := 190) hC 1 dX10_laysSets_190 rfl rfl ?_
                              refine r_iload (pc := 191) hC dX10_laysSets_191 rfl ?_
                              refine r_callSi (pc := 193) hC [aI x7, aI x11] [aI x10] dX10_laysSets_193 ml_RX10_294 my_X10_holds ms_X10_holds rfl ⟨Nat.le_of_ble_eq_true rfl, Nat.le_of_ble_eq_true rfl⟩ ⟨Nat.le_of_ble_eq_true rfl, Nat.le_of_ble_eq_true rfl⟩ (Nat.le_of_ble_eq_true rfl) rfl (s_M_holds l _ _ _ _ h) (fun r12 w1 hq => ?_)
                              obtain ⟨e9, h⟩ := hq
                              rw [e9]
                              obtain ⟨J6, hJ6, h⟩ := h
                              have S6 : ∀ (y13 : Int), J6 y13 → Wd p l e (rmD 1) s m args below meth c Q 0 0 7 D cA ad A LM (wI (wA (wA (wA w 28 m_worth_5) 29 m_length_6) 31 m_inSentence_3) 0 42 1) 220 [some (aR 0), some (aI x7), some (aI x8), none, some (aI x11), none, none] [aI y13, aI x10] := by
                                intro y13 hj
                                have h := hJ6 y13 hj
                                refine r_iadd (pc := 220) hC dX10_laysSets_220 h.1 ?_
                                have h := h.2
                                refine r_istore_n (ls2 := [some (aR 0), some (aI x7), some (aI x8), some (aI (x10 + y13)), some (aI x11), none, none]) (pc := 221) hC 3 dX10_laysSets_221 rfl (by decide) rfl rfl ?_
                                refine r_iinc (ls2 := [some (aR 0), some (aI x7), some (aI x8), some (aI (x10 + y13)), some (aI (x11 + 1)), none, none]) (pc := 222) hC dX10_laysSets_222 rfl (by decide) rfl h.1 rfl ?_
                                have h := h.2
                                refine r_goto (tgt := 180) (pc := 225) hC dX10_laysSets_225 rfl ?_
                                exact r_to [true, true, true, true, true, false, false] rfl rfl (ih5 (x10 + y13) (x11 + 1) (Nat.lt_of_lt_of_le h.2 (Nat.le_of_lt_succ hn5)) h.1)
                              refine r_if_eq (pc := 196) (tgt := 219) hC dX10_laysSets_196 rfl (fun hc1 => ?_) (fun hc1 => ?_)
                              · have h := h.1 hc1
                                refine r_iconst (pc := 219) hC dX10_laysSets_219 (rng_lit rfl) ?_
                                exact r_to [true, true, true, false, true, false, false] rfl rfl (S6 0 h)
                              have h := h.2 hc1
                              refine r_aload_n (pc := 199) hC 0 dX10_laysSets_199 rfl rfl ?_
                              refine r_getr (r := 10) (pc := 200) hC dX10_laysSets_200 fl_RX10_38 lM_0 rfl ?_
                              refine r_iload (pc := 203) hC dX10_laysSets_203 rfl ?_
                              refine r_iald (v := ((w.1 10) (Int.toNat x11))) (pc := 205) hC dX10_laysSets_205 lM_10 h.1.1 h.1.2 rfl ?_
                              have h := h.2
                              refine r_aload_n (pc := 206) hC 0 dX10_laysSets_206 rfl rfl ?_
                              refine r_getr (r := 9) (pc := 207) hC dX10_laysSets_207 fl_RX10_35 lM_0 rfl ?_
                              refine r_iload (pc := 210) hC dX10_laysSets_210 rfl ?_
                              refine r_iald (v := ((w.1 9) (Int.toNat x11))) (pc := 212) hC dX10_laysSets_212 lM_9 h.1.1 h.1.2 rfl ?_
                              have h := h.2
                              refine r_isub (pc := 213) hC dX10_laysSets_213 h.1 ?_
                              have h := h.2
                              refine r_iconst (pc := 214) hC dX10_laysSets_214 (rng_lit rfl) ?_
                              refine r_iadd (pc := 215) hC dX10_laysSets_215 h.1 ?_
                              have h := h.2
                              refine r_goto (tgt := 220) (pc := 216) hC dX10_laysSets_216 rfl ?_
                              exact r_to [true, true, true, false, true, false, false] rfl rfl (S6 ((((w.1 10) (Int.toNat x11)) - ((w.1 9) (Int.toNat x11))) + 4) h)
                          exact r_to [true, true, true, true, true, false, false] rfl rfl (S5 _ 0 0 (Nat.lt_succ_self _) hI5)
                        have h := h.2 hc5
                        refine r_iconst (pc := 108) hC dX10_laysSets_108 (rng_lit rfl) ?_
                        refine r_istore (ls2 := [some (aR 0), some (aI x7), some (aI x8), some (aI 0), some (aI x9), some (aI 0), none]) (pc := 109) hC dX10_laysSets_109 (by decide) rfl rfl ?_
                        refine r_iconst (pc := 111) hC dX10_laysSets_111 (rng_lit rfl) ?_
                        refine r_istore (ls2 := [some (aR 0), some (aI x7), some (aI x8), some (aI 0), some (aI x9), some (aI 0), some (aI 0)]) (pc := 112) hC dX10_laysSets_112 (by decide) rfl rfl ?_
                        obtain ⟨I7, μ7, hI7, hB7⟩ := h
                        have S7 : ∀ (nn : Nat) (x14 : Int) (x15 : Int), μ7 x14 x15 < nn → I7 x14 x15 → Wd p l e (rmD 1) s m args below meth c Q 0 0 7 D cA ad A LM (wI (wA (wA (wA w 28 m_worth_5) 29 m_length_6) 31 m_inSentence_3) 0 42 1) 114 [some (aR 0), some (aI x7), some (aI x8), some (aI 0), some (aI x9), some (aI x14), some (aI x15)] [] := by
                          intro nn
                          induction nn with
                          | zero => intro x14 x15 hn; exact absurd hn (Nat.not_lt_zero _)
                          | succ nn ih7 =>
                            intro x14 x15 hn7 hi
                            have h := hB7 x14 x15 hi
                            refine r_iload (pc := 114) hC dX10_laysSets_114 rfl ?_
                            refine r_aload_n (pc := 116) hC 0 dX10_laysSets_116 rfl rfl ?_
                            refine r_get (kd := 0) (v := (w.1 0 16)) (pc := 117) hC dX10_laysSets_117 fl_RX10_203 lM_0 rfl rfl ?_
                            refine r_ic_ge (pc := 120) (tgt := 160) hC dX10_laysSets_120 rfl (fun hc4 => ?_) (fun hc4 => ?_)
                            · have h := h.1 hc4
                              refine r_iload_n (pc := 160) hC 2 dX10_laysSets_160 rfl rfl ?_
                              refine r_aload_n (pc := 161) hC 0 dX10_laysSets_161 rfl rfl ?_
                              refine r_iload (pc := 162) hC dX10_laysSets_162 rfl ?_
                              refine r_iload (pc := 164) hC dX10_laysSets_164 rfl ?_
                              refine r_callVi (pc := 166) hC [aI x9, aI x14] [aI x8] dX10_laysSets_166 ml_RX10_290 my_X10_worthOf mi_X10_worthOf lM_0 rfl rfl ⟨Nat.le_of_ble_eq_true rfl, Nat.le_of_ble_eq_true rfl⟩ ⟨Nat.le_of_ble_eq_true rfl, Nat.le_of_ble_eq_true rfl⟩ (Nat.le_of_ble_eq_true rfl) rfl (s_M_worthOf l _ _ _ _ h) (fun r16 w1 hq => ?_)
                              obtain ⟨e9, h⟩ := hq
                              rw [e9]
                              refine r_iadd (pc := 169) hC dX10_laysSets_169 h.1 ?_
                              have h := h.2
                              refine r_istore_n (ls2 := [some (aR 0), some (aI x7), some (aI (x8 + r16)), some (aI 0), some (aI x9), some (aI x14), some (aI x15)]) (pc := 170) hC 2 dX10_laysSets_170 rfl (by decide) rfl rfl ?_
                              refine r_iinc (ls2 := [some (aR 0), some (aI x7), some (aI (x8 + r16)), some (aI 0), some (aI (x9 + 1)), some (aI x14), some (aI x15)]) (pc := 171) hC dX10_laysSets_171 rfl (by decide) rfl h.1 rfl ?_
                              have h := h.2
                              refine r_goto (tgt := 99) (pc := 174) hC dX10_laysSets_174 rfl ?_
                              exact r_to [true, true, true, true, true, false, false] rfl rfl (ih4 (x8 + r16) (x9 + 1) (Nat.lt_of_lt_of_le h.2 (Nat.le_of_lt_succ hn4)) h.1)
                            have h := h.2 hc4
                            refine r_iload (pc := 123) hC dX10_laysSets_123 rfl ?_
                            refine r_iload_n (pc := 125) hC 1 dX10_laysSets_125 rfl rfl ?_
                            refine r_iload (pc := 126) hC dX10_laysSets_126 rfl ?_
                            refine r_callSi (pc := 128) hC [aI x7, aI x15] [aI x14] dX10_laysSets_128 ml_RX10_294 my_X10_holds ms_X10_holds rfl ⟨Nat.le_of_ble_eq_true rfl, Nat.le_of_ble_eq_true rfl⟩ ⟨Nat.le_of_ble_eq_true rfl, Nat.le_of_ble_eq_true rfl⟩ (Nat.le_of_ble_eq_true rfl) rfl (s_M_holds l _ _ _ _ h) (fun r17 w1 hq => ?_)
                            obtain ⟨e9, h⟩ := hq
                            rw [e9]
                            obtain ⟨J8, hJ8, h⟩ := h
                            have S8 : ∀ (y18 : Int), J8 y18 → Wd p l e (rmD 1) s m args below meth c Q 0 0 7 D cA ad A LM (wI (wA (wA (wA w 28 m_worth_5) 29 m_length_6) 31 m_inSentence_3) 0 42 1) 151 [some (aR 0), some (aI x7), some (aI x8), some (aI 0), some (aI x9), none, some (aI x15)] [aI y18, aI x14] := by
                              intro y18 hj
                              have h := hJ8 y18 hj
                              refine r_iadd (pc := 151) hC dX10_laysSets_151 h.1 ?_
                              have h := h.2
                              refine r_istore (ls2 := [some (aR 0), some (aI x7), some (aI x8), some (aI 0), some (aI x9), some (aI (x14 + y18)), some (aI x15)]) (pc := 152) hC dX10_laysSets_152 (by decide) rfl rfl ?_
                              refine r_iinc (ls2 := [some (aR 0), some (aI x7), some (aI x8), some (aI 0), some (aI x9), some (aI (x14 + y18)), some (aI (x15 + 1))]) (pc := 154) hC dX10_laysSets_154 rfl (by decide) rfl h.1 rfl ?_
                              have h := h.2
                              refine r_goto (tgt := 114) (pc := 157) hC dX10_laysSets_157 rfl ?_
                              exact r_to [true, true, true, true, true, true, true] rfl rfl (ih7 (x14 + y18) (x15 + 1) (Nat.lt_of_lt_of_le h.2 (Nat.le_of_lt_succ hn7)) h.1)
                            refine r_if_eq (pc := 131) (tgt := 150) hC dX10_laysSets_131 rfl (fun hc3 => ?_) (fun hc3 => ?_)
                            · have h := h.1 hc3
                              refine r_iconst (pc := 150) hC dX10_laysSets_150 (rng_lit rfl) ?_
                              exact r_to [true, true, true, true, true, false, true] rfl rfl (S8 0 h)
                            have h := h.2 hc3
                            refine r_aload_n (pc := 134) hC 0 dX10_laysSets_134 rfl rfl ?_
                            refine r_getr (r := 31) (pc := 135) hC dX10_laysSets_135 fl_RX10_106 lM_0 rfl ?_
                            refine r_bipush (pc := 138) hC dX10_laysSets_138 ⟨rfl, rng_lit rfl⟩ ?_
                            refine r_iload (pc := 140) hC dX10_laysSets_140 rfl ?_
                            refine r_imul (pc := 142) hC dX10_laysSets_142 h.1 ?_
                            have h := h.2
                            refine r_iload (pc := 143) hC dX10_laysSets_143 rfl ?_
                            refine r_iadd (pc := 145) hC dX10_laysSets_145 h.1 ?_
                            have h := h.2
                            refine r_iald (v := (m_inSentence_3 (Int.toNat ((8 * x15) + x9)))) (pc := 146) hC dX10_laysSets_146 lM_31 h.1.1 h.1.2 rfl ?_
                            have h := h.2
                            refine r_goto (tgt := 151) (pc := 147) hC dX10_laysSets_147 rfl ?_
                            exact r_to [true, true, true, true, true, false, true] rfl rfl (S8 (m_inSentence_3 (Int.toNat ((8 * x15) + x9))) h)
                        exact r_to [true, true, true, true, true, true, true] rfl rfl (S7 _ 0 0 (Nat.lt_succ_self _) hI7)
                    exact r_to [true, true, true, true, true, false, false] rfl rfl (S4 _ 0 0 (Nat.lt_succ_self _) hI4)
                exact r_to [true, true, false, false, false, false, false] rfl rfl (S3 _ (w.1 28) (w.1 29) 0 (Nat.lt_succ_self _) hI3)
              have h := h.2 hc7
              refine r_aload_n (pc := 44) hC 0 dX10_laysSets_44 rfl rfl ?_
              refine r_getr (r := 31) (pc := 45) hC dX10_laysSets_45 fl_RX10_106 lM_0 rfl ?_
              refine r_bipush (pc := 48) hC dX10_laysSets_48 ⟨rfl, rng_lit rfl⟩ ?_
              refine r_aload_n (pc := 50) hC 0 dX10_laysSets_50 rfl rfl ?_
              refine r_getr (r := 7) (pc := 51) hC dX10_laysSets_51 fl_RX10_29 lM_0 rfl ?_
              refine r_aload_n (pc := 54) hC 0 dX10_laysSets_54 rfl rfl ?_
              refine r_getr (r := 25) (pc := 55) hC dX10_laysSets_55 fl_RX10_88 lM_0 rfl ?_
              refine r_iload_n (pc := 58) hC 1 dX10_laysSets_58 rfl rfl ?_
              refine r_iald (v := ((w.1 25) (Int.toNat x4))) (pc := 59) hC dX10_laysSets_59 lM_25 h.1.1 h.1.2 rfl ?_
              have h := h.2
              refine r_iald (v := ((w.1 7) (Int.toNat ((w.1 25) (Int.toNat x4))))) (pc := 60) hC dX10_laysSets_60 lM_7 h.1.1 h.1.2 rfl ?_
              have h := h.2
              refine r_imul (pc := 61) hC dX10_laysSets_61 h.1 ?_
              have h := h.2
              refine r_aload_n (pc := 62) hC 0 dX10_laysSets_62 rfl rfl ?_
              refine r_getr (r := 24) (pc := 63) hC dX10_laysSets_63 fl_RX10_85 lM_0 rfl ?_
              refine r_iload_n (pc := 66) hC 1 dX10_laysSets_66 rfl rfl ?_
              refine r_iald (v := ((w.1 24) (Int.toNat x4))) (pc := 67) hC dX10_laysSets_67 lM_24 h.1.1 h.1.2 rfl ?_
              have h := h.2
              refine r_iadd (pc := 68) hC dX10_laysSets_68 h.1 ?_
              have h := h.2
              refine r_dup2 (pc := 69) hC dX10_laysSets_69 rfl rfl ?_
              refine r_iald (v := (m_inSentence_3 (Int.toNat ((8 * ((w.1 7) (Int.toNat ((w.1 25) (Int.toNat x4))))) + ((w.1 24) (Int.toNat x4)))))) (pc := 70) hC dX10_laysSets_70 lM_31 h.1.1 h.1.2 rfl ?_
              have h := h.2
              refine r_iconst (pc := 71) hC dX10_laysSets_71 (rng_lit rfl) ?_
              refine r_iadd (pc := 72) hC dX10_laysSets_72 h.1 ?_
              have h := h.2
              refine r_iast (pc := 73) hC dX10_laysSets_73 lM_31 h.1.1 h.1.2 ?_
              have h := h.2
              refine r_iinc (ls2 := [some (aR 0), some (aI (x4 + 1)), none, none, none, none, none]) (pc := 74) hC dX10_laysSets_74 rfl (by decide) rfl h.1 rfl ?_
              have h := h.2
              refine r_goto (tgt := 36) (pc := 77) hC dX10_laysSets_77 rfl ?_
              exact r_to [true, true, false, false, false, false, false] rfl rfl (ih2 (uI m_inSentence_3 ((8 * ((w.1 7) (Int.toNat ((w.1 25) (Int.toNat x4))))) + ((w.1 24) (Int.toNat x4))) ((m_inSentence_3 (Int.toNat ((8 * ((w.1 7) (Int.toNat ((w.1 25) (Int.toNat x4))))) + ((w.1 24) (Int.toNat x4))))) + 1)) (x4 + 1) (Nat.lt_of_lt_of_le h.2 (Nat.le_of_lt_succ hn2)) h.1)
          exact r_to [true, true, false, false, false, false, false] rfl rfl (S2 _ m_inSentence_1 0 (Nat.lt_succ_self _) hI2)
        have h := h.2 hc8
        refine r_aload_n (pc := 21) hC 0 dX10_laysSets_21 rfl rfl ?_
        refine r_getr (r := 31) (pc := 22) hC dX10_laysSets_22 fl_RX10_106 lM_0 rfl ?_
        refine r_iload_n (pc := 25) hC 1 dX10_laysSets_25 rfl rfl ?_
        refine r_iconst (pc := 26) hC dX10_laysSets_26 (rng_lit rfl) ?_
        refine r_iast (pc := 27) hC dX10_laysSets_27 lM_31 h.1.1 h.1.2 ?_
        have h := h.2
        refine r_iinc (ls2 := [some (aR 0), some (aI (x2 + 1)), none, none, none, none, none]) (pc := 28) hC dX10_laysSets_28 rfl (by decide) rfl h.1 rfl ?_
        have h := h.2
        refine r_goto (tgt := 15) (pc := 31) hC dX10_laysSets_31 rfl ?_
        exact r_to [true, true, false, false, false, false, false] rfl rfl (ih1 (uI m_inSentence_1 x2 0) (x2 + 1) (Nat.lt_of_lt_of_le h.2 (Nat.le_of_lt_succ hn1)) h.1)
    exact r_to [true, true, false, false, false, false, false] rfl rfl (S1 _ (w.1 31) 0 (Nat.lt_succ_self _) hI1)
  have h := h.2 hc9
  refine r_conv (w2 := (wI (wA (wA (wA w 28 (w.1 28)) 29 (w.1 29)) 31 (w.1 31)) 0 42 (w.1 0 42))) rfl ?_
  exact r_retv (pc := 7) hC hQ dX10_laysSets_7 hr hk ⟨(w.1 28), (w.1 29), (w.1 31), (w.1 0 42), rfl, h⟩
def wp_M_longOf (m_wordFrom : (Nat → Int)) (m_wordTo : (Nat → Int)) (a1 : Int) (a2 : Int) (Q : Int → Prop) : Prop := (0 ≤ a2 ∧ a2 < 100) ∧ ((0 ≤ a1 ∧ a1 < 100) ∧ ((rng ((m_wordTo (Int.toNat a2)) - (m_wordFrom (Int.toNat a1)))) ∧ (Q ((m_wordTo (Int.toNat a2)) - (m_wordFrom (Int.toNat a1))))))
set_option maxHeartbeats 4000000 in
set_option maxRecDepth 20000 in
theorem s_M_longOf (l : Launch) (w : St) (a1 : Int) (a2 : Int) (P : Int → Prop) (h : wp_M_longOf (w.1 5) (w.1 6) a1 a2 P) : Cn l yX10_longOf cX10_longOf 3 (some .int) 0 LM w [aR 0, aI a1, aI a2] (okI (fun r w1 => w1 = w ∧ P r)) := by
  unfold wp_M_longOf at h
  refine Cn.of2 [some (aR 0), some (aI a1), some (aI a2)] (by decide) (Nat.le_of_ble_eq_true rfl) rfl (fun p e s m args below meth c D cA ad A Q hQ hC hr hk => ?_)
  refine r_aload_n (pc := 0) hC 0 dX10_longOf_0 rfl rfl ?_
  refine r_getr (r := 6) (pc := 1) hC dX10_longOf_1 fl_RX10_26 lM_0 rfl ?_
  refine r_iload_n (pc := 4) hC 2 dX10_longOf_4 rfl rfl ?_
  refine r_iald (v := ((w.1 6) (Int.toNat a2))) (pc := 5) hC dX10_longOf_5 lM_6 h.1.1 h.1.2 rfl ?_
  have h := h.2
  refine r_aload_n (pc := 6) hC 0 dX10_longOf_6 rfl rfl ?_
  refine r_getr (r := 5) (pc := 7) hC dX10_longOf_7 fl_RX10_23 lM_0 rfl ?_
  refine r_iload_n (pc := 10) hC 1 dX10_longOf_10 rfl rfl ?_
  refine r_iald (v := ((w.1 5) (Int.toNat a1))) (pc := 11) hC dX10_longOf_11 lM_5 h.1.1 h.1.2 rfl ?_
  have h := h.2
  refine r_isub (pc := 12) hC dX10_longOf_12 h.1 ?_
  have h := h.2
  exact r_reti (pc := 13) (kd := 0) hC hQ dX10_longOf_13 hr hk (by decide) (Or.inl rfl) ⟨rfl, h⟩
def wp_M_coveredBy (m_terms : (Nat → Int)) (m_isMatch : (Nat → Int)) (m_words : Int) (m_items : Int) (a1 : Int) (a2 : Int) (Q : Int → Prop) : Prop := lpw2 (fun (x1 : Int) (x2 : Int) (k1 : Int → Int → Prop) => (m_words ≤ x2 → Q (-1)) ∧ (¬ m_words ≤ x2 → lpw2 (fun (x3 : Int) (x4 : Int) (k2 : Int → Int → Prop) => (m_items ≤ x4 → (¬ (iAnd a1 (iXor x3 (-1))) = 0 → (rng (x2 + 1)) ∧ (k1 x3 (x2 + 1))) ∧ ((iAnd a1 (iXor x3 (-1))) = 0 → Q x2)) ∧ (¬ m_items ≤ x4 → wp_M_endsAt m_terms m_isMatch x4 x2 a2 (fun (r5 : Int) => jn1 (fun (J3 : Int → Prop) => (r5 = 0 → J3 0) ∧ (¬ r5 = 0 → J3 (iShl 1 x4))) (fun (y6 : Int) => (rng (x4 + 1)) ∧ (k2 (iOr x3 y6) (x4 + 1)))))) x1 0)) 0 a2
set_option maxHeartbeats 4000000 in
set_option maxRecDepth 20000 in
theorem s_M_coveredBy (l : Launch) (w : St) (a1 : Int) (a2 : Int) (P : Int → Prop) (h : wp_M_coveredBy (w.1 13) (w.1 27) (w.1 0 12) (w.1 0 29) a1 a2 P) : Cn l yX10_coveredBy cX10_coveredBy 6 (some .int) 1 LM w [aR 0, aI a1, aI a2] (okI (fun r w1 => w1 = w ∧ P r)) := by
  unfold wp_M_coveredBy at h
  refine Cn.of2 [some (aR 0), some (aI a1), some (aI a2), none, none, none] (by decide) (Nat.le_of_ble_eq_true rfl) rfl (fun p e s m args below meth c D cA ad A Q hQ hC hr hk => ?_)
  refine r_iconst (pc := 0) hC dX10_coveredBy_0 (rng_lit rfl) ?_
  refine r_istore_n (ls2 := [some (aR 0), some (aI a1), some (aI a2), some (aI 0), none, none]) (pc := 1) hC 3 dX10_coveredBy_1 rfl (by decide) rfl rfl ?_
  refine r_iload_n (pc := 2) hC 2 dX10_coveredBy_2 rfl rfl ?_
  refine r_istore (ls2 := [some (aR 0), some (aI a1), some (aI a2), some (aI 0), some (aI a2), none]) (pc := 3) hC dX10_coveredBy_3 (by decide) rfl rfl ?_
  obtain ⟨I1, μ1, hI1, hB1⟩ := h
  have S1 : ∀ (nn : Nat) (x1 : Int) (x2 : Int), μ1 x1 x2 < nn → I1 x1 x2 → Wd p l e (rmD 1) s m args below meth c Q 0 0 6 D cA ad A LM w 5 [some (aR 0), some (aI a1), some (aI a2), some (aI x1), some (aI x2), none] [] := by
    intro nn
    induction nn with
    | zero => intro x1 x2 hn; exact absurd hn (Nat.not_lt_zero _)
    | succ nn ih1 =>
      intro x1 x2 hn1 hi
      have h := hB1 x1 x2 hi
      refine r_iload (pc := 5) hC dX10_coveredBy_5 rfl ?_
      refine r_aload_n (pc := 7) hC 0 dX10_coveredBy_7 rfl rfl ?_
      refine r_get (kd := 0) (v := (w.1 0 12)) (pc := 8) hC dX10_coveredBy_8 fl_RX10_179 lM_0 rfl rfl ?_
      refine r_ic_ge (pc := 11) (tgt := 72) hC dX10_coveredBy_11 rfl (fun hc4 => ?_) (fun hc4 => ?_)
      · have h := h.1 hc4
        refine r_iconst (pc := 72) hC dX10_coveredBy_72 (rng_lit rfl) ?_
        exact r_reti (pc := 73) (kd := 0) hC hQ dX10_coveredBy_73 hr hk (by decide) (Or.inl rfl) ⟨rfl, h⟩
      have h := h.2 hc4
      refine r_iconst (pc := 14) hC dX10_coveredBy_14 (rng_lit rfl) ?_
      refine r_istore (ls2 := [some (aR 0), some (aI a1), some (aI a2), some (aI x1), some (aI x2), some (aI 0)]) (pc := 15) hC dX10_coveredBy_15 (by decide) rfl rfl ?_
      obtain ⟨I2, μ2, hI2, hB2⟩ := h
      have S2 : ∀ (nn : Nat) (x3 : Int) (x4 : Int), μ2 x3 x4 < nn → I2 x3 x4 → Wd p l e (rmD 1) s m args below meth c Q 0 0 6 D cA ad A LM w 17 [some (aR 0), some (aI a1), some (aI a2), some (aI x3), some (aI x2), some (aI x4)] [] := by
        intro nn
        induction nn with
        | zero => intro x3 x4 hn; exact absurd hn (Nat.not_lt_zero _)
        | succ nn ih2 =>
          intro x3 x4 hn2 hi
          have h := hB2 x3 x4 hi
          refine r_iload (pc := 17) hC dX10_coveredBy_17 rfl ?_
          refine r_aload_n (pc := 19) hC 0 dX10_coveredBy_19 rfl rfl ?_
          refine r_get (kd := 0) (v := (w.1 0 29)) (pc := 20) hC dX10_coveredBy_20 fl_RX10_271 lM_0 rfl rfl ?_
          refine r_ic_ge (pc := 23) (tgt := 55) hC dX10_coveredBy_23 rfl (fun hc3 => ?_) (fun hc3 => ?_)
          · have h := h.1 hc3
            refine r_iload_n (pc := 55) hC 1 dX10_coveredBy_55 rfl rfl ?_
            refine r_iload_n (pc := 56) hC 3 dX10_coveredBy_56 rfl rfl ?_
            refine r_iconst (pc := 57) hC dX10_coveredBy_57 (rng_lit rfl) ?_
            refine r_ixor (pc := 58) hC dX10_coveredBy_58 ?_
            refine r_iand (pc := 59) hC dX10_coveredBy_59 ?_
            refine r_if_ne (pc := 60) (tgt := 66) hC dX10_coveredBy_60 rfl (fun hc1 => ?_) (fun hc1 => ?_)
            · have h := h.1 hc1
              refine r_iinc (ls2 := [some (aR 0), some (aI a1), some (aI a2), some (aI x3), some (aI (x2 + 1)), some (aI x4)]) (pc := 66) hC dX10_coveredBy_66 rfl (by decide) rfl h.1 rfl ?_
              have h := h.2
              refine r_goto (tgt := 5) (pc := 69) hC dX10_coveredBy_69 rfl ?_
              exact r_to [true, true, true, true, true, false] rfl rfl (ih1 x3 (x2 + 1) (Nat.lt_of_lt_of_le h.2 (Nat.le_of_lt_succ hn1)) h.1)
            have h := h.2 hc1
            refine r_iload (pc := 63) hC dX10_coveredBy_63 rfl ?_
            exact r_reti (pc := 65) (kd := 0) hC hQ dX10_coveredBy_65 hr hk (by decide) (Or.inl rfl) ⟨rfl, h⟩
          have h := h.2 hc3
          refine r_iload_n (pc := 26) hC 3 dX10_coveredBy_26 rfl rfl ?_
          refine r_aload_n (pc := 27) hC 0 dX10_coveredBy_27 rfl rfl ?_
          refine r_iload (pc := 28) hC dX10_coveredBy_28 rfl ?_
          refine r_iload (pc := 30) hC dX10_coveredBy_30 rfl ?_
          refine r_iload_n (pc := 32) hC 2 dX10_coveredBy_32 rfl rfl ?_
          refine r_callVi (pc := 33) hC [aI x4, aI x2, aI a2] [aI x3] dX10_coveredBy_33 ml_RX10_297 my_X10_endsAt mi_X10_endsAt lM_0 rfl rfl ⟨Nat.le_of_ble_eq_true rfl, Nat.le_of_ble_eq_true rfl⟩ ⟨Nat.le_of_ble_eq_true rfl, Nat.le_of_ble_eq_true rfl⟩ (Nat.le_of_ble_eq_true rfl) rfl (s_M_endsAt l _ _ _ _ _ h) (fun r5 w1 hq => ?_)
          obtain ⟨e9, h⟩ := hq
          rw [e9]
          obtain ⟨J3, hJ3, h⟩ := h
          have S3 : ∀ (y6 : Int), J3 y6 → Wd p l e (rmD 1) s m args below meth c Q 0 0 6 D cA ad A LM w 47 [some (aR 0), some (aI a1), some (aI a2), none, some (aI x2), some (aI x4)] [aI y6, aI x3] := by
            intro y6 hj
            have h := hJ3 y6 hj
            refine r_ior (pc := 47) hC dX10_coveredBy_47 ?_
            refine r_istore_n (ls2 := [some (aR 0), some (aI a1), some (aI a2), some (aI (iOr x3 y6)), some (aI x2), some (aI x4)]) (pc := 48) hC 3 dX10_coveredBy_48 rfl (by decide) rfl rfl ?_
            refine r_iinc (ls2 := [some (aR 0), some (aI a1), some (aI a2), some (aI (iOr x3 y6)), some (aI x2), some (aI (x4 + 1))]) (pc := 49) hC dX10_coveredBy_49 rfl (by decide) rfl h.1 rfl ?_
            have h := h.2
            refine r_goto (tgt := 17) (pc := 52) hC dX10_coveredBy_52 rfl ?_
            exact r_to [true, true, true, true, true, true] rfl rfl (ih2 (iOr x3 y6) (x4 + 1) (Nat.lt_of_lt_of_le h.2 (Nat.le_of_lt_succ hn2)) h.1)
          refine r_if_eq (pc := 36) (tgt := 46) hC dX10_coveredBy_36 rfl (fun hc2 => ?_) (fun hc2 => ?_)
          · have h := h.1 hc2
            refine r_iconst (pc := 46) hC dX10_coveredBy_46 (rng_lit rfl) ?_
            exact r_to [true, true, true, false, true, true] rfl rfl (S3 0 h)
          have h := h.2 hc2
          refine r_iconst (pc := 39) hC dX10_coveredBy_39 (rng_lit rfl) ?_
          refine r_iload (pc := 40) hC dX10_coveredBy_40 rfl ?_
          refine r_ishl (pc := 42) hC dX10_coveredBy_42 ?_
          refine r_goto (tgt := 47) (pc := 43) hC dX10_coveredBy_43 rfl ?_
          exact r_to [true, true, true, false, true, true] rfl rfl (S3 (iShl 1 x4) h)
      exact r_to [true, true, true, true, true, true] rfl rfl (S2 _ x1 0 (Nat.lt_succ_self _) hI2)
  exact r_to [true, true, true, true, true, false] rfl rfl (S1 _ 0 a2 (Nat.lt_succ_self _) hI1)
def wp_M_isMinimal (m_terms : (Nat → Int)) (m_isMatch : (Nat → Int)) (m_words : Int) (m_items : Int) (a1 : Int) (a2 : Int) (a3 : Int) (Q : Int → Prop) : Prop := (a3 = (-1) → Q 0) ∧ (¬ a3 = (-1) → (rng (a2 + 1)) ∧ (jn0 (fun (J1 : Prop) => (m_words ≤ (a2 + 1) → J1) ∧ (¬ m_words ≤ (a2 + 1) → (rng (a2 + 1)) ∧ (wp_M_coveredBy m_terms m_isMatch m_words m_items a1 (a2 + 1) (fun (r1 : Int) => (r1 = a3 → Q 0) ∧ (¬ r1 = a3 → J1))))) (Q 1)))
set_option maxHeartbeats 4000000 in
set_option maxRecDepth 20000 in
theorem s_M_isMinimal (l : Launch) (w : St) (a1 : Int) (a2 : Int) (a3 : Int) (P : Int → Prop) (h : wp_M_isMinimal (w.1 13) (w.1 27) (w.1 0 12) (w.1 0 29) a1 a2 a3 P) : Cn l yX10_isMinimal cX10_isMinimal 4 (some .boolean) 2 LM w [aR 0, aI a1, aI a2, aI a3] (okI (fun r w1 => w1 = w ∧ P r)) := by
  unfold wp_M_isMinimal at h
  refine Cn.of2 [some (aR 0), some (aI a1), some (aI a2), some (aI a3)] (by decide) (Nat.le_of_ble_eq_true rfl) rfl (fun p e s m args below meth c D cA ad A Q hQ hC hr hk => ?_)
  refine r_iload_n (pc := 0) hC 3 dX10_isMinimal_0 rfl rfl ?_
  refine r_iconst (pc := 1) hC dX10_isMinimal_1 (rng_lit rfl) ?_
  refine r_ic_eq (pc := 2) (tgt := 31) hC dX10_isMinimal_2 rfl (fun hc3 => ?_) (fun hc3 => ?_)
  · have h := h.1 hc3
    refine r_iconst (pc := 31) hC dX10_isMinimal_31 (rng_lit rfl) ?_
    exact r_reti (pc := 32) (kd := 1) hC hQ dX10_isMinimal_32 hr hk (by decide) (Or.inr okK1_0) ⟨rfl, h⟩
  have h := h.2 hc3
  refine r_iload_n (pc := 5) hC 2 dX10_isMinimal_5 rfl rfl ?_
  refine r_iconst (pc := 6) hC dX10_isMinimal_6 (rng_lit rfl) ?_
  refine r_iadd (pc := 7) hC dX10_isMinimal_7 h.1 ?_
  have h := h.2
  refine r_aload_n (pc := 8) hC 0 dX10_isMinimal_8 rfl rfl ?_
  refine r_get (kd := 0) (v := (w.1 0 12)) (pc := 9) hC dX10_isMinimal_9 fl_RX10_179 lM_0 rfl rfl ?_
  obtain ⟨J1, hJ1, h⟩ := h
  have S1 : J1 → Wd p l e (rmD 2) s m args below meth c Q 0 0 4 D cA ad A LM w 27 [none, none, none, none] [] := by
    intro hj
    have h := hJ1 hj
    refine r_iconst (pc := 27) hC dX10_isMinimal_27 (rng_lit rfl) ?_
    refine r_goto (tgt := 32) (pc := 28) hC dX10_isMinimal_28 rfl ?_
    exact r_reti (pc := 32) (kd := 1) hC hQ dX10_isMinimal_32 hr hk (by decide) (Or.inr okK1_1) ⟨rfl, h⟩
  refine r_ic_ge (pc := 12) (tgt := 27) hC dX10_isMinimal_12 rfl (fun hc2 => ?_) (fun hc2 => ?_)
  · have h := h.1 hc2
    exact r_to [false, false, false, false] rfl rfl (S1 h)
  have h := h.2 hc2
  refine r_aload_n (pc := 15) hC 0 dX10_isMinimal_15 rfl rfl ?_
  refine r_iload_n (pc := 16) hC 1 dX10_isMinimal_16 rfl rfl ?_
  refine r_iload_n (pc := 17) hC 2 dX10_isMinimal_17 rfl rfl ?_
  refine r_iconst (pc := 18) hC dX10_isMinimal_18 (rng_lit rfl) ?_
  refine r_iadd (pc := 19) hC dX10_isMinimal_19 h.1 ?_
  have h := h.2
  refine r_callVi (pc := 20) hC [aI a1, aI (a2 + 1)] [] dX10_isMinimal_20 ml_RX10_300 my_X10_coveredBy mi_X10_coveredBy lM_0 rfl rfl ⟨Nat.le_of_ble_eq_true rfl, Nat.le_of_ble_eq_true rfl⟩ ⟨Nat.le_of_ble_eq_true rfl, Nat.le_of_ble_eq_true rfl⟩ (Nat.le_of_ble_eq_true rfl) rfl (s_M_coveredBy l _ _ _ _ h) (fun r1 w1 hq => ?_)
  obtain ⟨e9, h⟩ := hq
  rw [e9]
  refine r_iload_n (pc := 23) hC 3 dX10_isMinimal_23 rfl rfl ?_
  refine r_ic_eq (pc := 24) (tgt := 31) hC dX10_isMinimal_24 rfl (fun hc1 => ?_) (fun hc1 => ?_)
  · have h := h.1 hc1
    refine r_iconst (pc := 31) hC dX10_isMinimal_31 (rng_lit rfl) ?_
    exact r_reti (pc := 32) (kd := 1) hC hQ dX10_isMinimal_32 hr hk (by decide) (Or.inr okK1_0) ⟨rfl, h⟩
  have h := h.2 hc1
  exact r_to [false, false, false, false] rfl rfl (S1 h)
