def wp_M_laysMatches (m_page : (Nat → Int)) (m_signAt : (Nat → Int)) (m_wordFrom : (Nat → Int)) (m_wordTo : (Nat → Int)) (m_sentenceOf : (Nat → Int)) (m_terms : (Nat → Int)) (m_termMany : (Nat → Int)) (m_star : (Nat → Int)) (m_term : (Nat → Int)) (m_matchItem : (Nat → Int)) (m_matchFirst : (Nat → Int)) (m_matchLast : (Nat → Int)) (m_isMatch : (Nat → Int)) (m_signs : Int) (m_words : Int) (m_items : Int) (m_matches : Int) (m_areLaid : Int) (m_areLikeLaid : Int) (Q : (Nat → Int) → (Nat → Int) → (Nat → Int) → (Nat → Int) → Int → Int → Int → Prop) : Prop := lpw6 (fun (m_matchItem_1 : (Nat → Int)) (m_matchFirst_2 : (Nat → Int)) (m_matchLast_3 : (Nat → Int)) (m_isMatch_4 : (Nat → Int)) (m_matches_5 : Int) (x6 : Int) (k1 : (Nat → Int) → (Nat → Int) → (Nat → Int) → (Nat → Int) → Int → Int → Prop) => (m_words ≤ x6 → Q m_matchItem_1 m_matchFirst_2 m_matchLast_3 m_isMatch_4 m_matches_5 0 0) ∧ (¬ m_words ≤ x6 → lpw6 (fun (m_matchItem_7 : (Nat → Int)) (m_matchFirst_8 : (Nat → Int)) (m_matchLast_9 : (Nat → Int)) (m_isMatch_10 : (Nat → Int)) (m_matches_11 : Int) (x12 : Int) (k2 : (Nat → Int) → (Nat → Int) → (Nat → Int) → (Nat → Int) → Int → Int → Prop) => (m_items ≤ x12 → (rng (x6 + 1)) ∧ (k1 m_matchItem_7 m_matchFirst_8 m_matchLast_9 m_isMatch_10 m_matches_11 (x6 + 1))) ∧ (¬ m_items ≤ x12 → (rng (100 * x12)) ∧ ((rng ((100 * x12) + x6)) ∧ (wp_M_matchesAt m_page m_signAt m_wordFrom m_wordTo m_sentenceOf m_terms m_termMany m_star m_term m_signs m_words x12 x6 (fun (r13 : Int) => ((0 ≤ ((100 * x12) + x6) ∧ ((100 * x12) + x6) < 800) ∧ 0 ≤ r13 ∧ r13 ≤ 1) ∧ ((rng (100 * x12)) ∧ ((rng ((100 * x12) + x6)) ∧ ((0 ≤ ((100 * x12) + x6) ∧ ((100 * x12) + x6) < 800) ∧ (jn4 (fun (J3 : (Nat → Int) → (Nat → Int) → (Nat → Int) → Int → Prop) => (¬ ((uI m_isMatch_10 ((100 * x12) + x6) r13) (Int.toNat ((100 * x12) + x6))) = 0 → (0 ≤ m_matches_11 ∧ m_matches_11 < 800) ∧ ((0 ≤ m_matches_11 ∧ m_matches_11 < 800) ∧ ((0 ≤ x12 ∧ x12 < 8) ∧ ((rng (x6 + (m_terms (Int.toNat x12)))) ∧ ((rng ((x6 + (m_terms (Int.toNat x12))) - 1)) ∧ ((0 ≤ m_matches_11 ∧ m_matches_11 < 800) ∧ ((rng (m_matches_11 + 1)) ∧ (J3 (uI m_matchItem_7 m_matches_11 x12) (uI m_matchFirst_8 m_matches_11 x6) (uI m_matchLast_9 m_matches_11 ((x6 + (m_terms (Int.toNat x12))) - 1)) (m_matches_11 + 1))))))))) ∧ (((uI m_isMatch_10 ((100 * x12) + x6) r13) (Int.toNat ((100 * x12) + x6))) = 0 → J3 m_matchItem_7 m_matchFirst_8 m_matchLast_9 m_matches_11)) (fun (m_matchItem_14 : (Nat → Int)) (m_matchFirst_15 : (Nat → Int)) (m_matchLast_16 : (Nat → Int)) (m_matches_17 : Int) => (rng (x12 + 1)) ∧ (k2 m_matchItem_14 m_matchFirst_15 m_matchLast_16 (uI m_isMatch_10 ((100 * x12) + x6) r13) m_matches_17 (x12 + 1)))))))))))) m_matchItem_1 m_matchFirst_2 m_matchLast_3 m_isMatch_4 m_matches_5 0)) m_matchItem m_matchFirst m_matchLast m_isMatch 0 0
set_option maxHeartbeats 4000000 in
set_option maxRecDepth 20000 in
theorem s_M_laysMatches (l : Launch) (w : St) (P : (Nat → Int) → (Nat → Int) → (Nat → Int) → (Nat → Int) → Int → Int → Int → Prop) (h : wp_M_laysMatches (w.1 3) (w.1 4) (w.1 5) (w.1 6) (w.1 7) (w.1 13) (w.1 14) (w.1 16) (w.1 17) (w.1 24) (w.1 25) (w.1 26) (w.1 27) (w.1 0 7) (w.1 0 12) (w.1 0 29) (w.1 0 39) (w.1 0 42) (w.1 0 43) P) : Cn l yX10_laysMatches cX10_laysMatches 3 none 4 LM w [aR 0] (okV (fun w1 => ∃ (o0 : (Nat → Int)) (o1 : (Nat → Int)) (o2 : (Nat → Int)) (o3 : (Nat → Int)) (o4 : Int) (o5 : Int) (o6 : Int), w1 = (wI (wI (wI (wA (wA (wA (wA w 24 o0) 25 o1) 26 o2) 27 o3) 0 39 o4) 0 42 o5) 0 43 o6) ∧ P o0 o1 o2 o3 o4 o5 o6)) := by
  unfold wp_M_laysMatches at h
  refine Cn.of2 [some (aR 0), none, none] (by decide) (Nat.le_of_ble_eq_true rfl) rfl (fun p e s m args below meth c D cA ad A Q hQ hC hr hk => ?_)
  refine r_aload_n (pc := 0) hC 0 dX10_laysMatches_0 rfl rfl ?_
  refine r_iconst (pc := 1) hC dX10_laysMatches_1 (rng_lit rfl) ?_
  refine r_put (kd := 0) (pc := 2) hC dX10_laysMatches_2 pl_RX10_277 lM_0 rfl (by decide) (Or.inl rfl) ?_
  refine r_iconst (pc := 5) hC dX10_laysMatches_5 (rng_lit rfl) ?_
  refine r_istore_n (ls2 := [some (aR 0), some (aI 0), none]) (pc := 6) hC 1 dX10_laysMatches_6 rfl (by decide) rfl rfl ?_
  obtain ⟨I1, μ1, hI1, hB1⟩ := h
  have S1 : ∀ (nn : Nat) (m_matchItem_1 : (Nat → Int)) (m_matchFirst_2 : (Nat → Int)) (m_matchLast_3 : (Nat → Int)) (m_isMatch_4 : (Nat → Int)) (m_matches_5 : Int) (x6 : Int), μ1 m_matchItem_1 m_matchFirst_2 m_matchLast_3 m_isMatch_4 m_matches_5 x6 < nn → I1 m_matchItem_1 m_matchFirst_2 m_matchLast_3 m_isMatch_4 m_matches_5 x6 → Wd p l e (rmD 4) s m args below meth c Q 0 0 3 D cA ad A LM (wI (wA (wA (wA (wA w 24 m_matchItem_1) 25 m_matchFirst_2) 26 m_matchLast_3) 27 m_isMatch_4) 0 39 m_matches_5) 7 [some (aR 0), some (aI x6), none] [] := by
    intro nn
    induction nn with
    | zero => intro m_matchItem_1 m_matchFirst_2 m_matchLast_3 m_isMatch_4 m_matches_5 x6 hn; exact absurd hn (Nat.not_lt_zero _)
    | succ nn ih1 =>
      intro m_matchItem_1 m_matchFirst_2 m_matchLast_3 m_isMatch_4 m_matches_5 x6 hn1 hi
      have h := hB1 m_matchItem_1 m_matchFirst_2 m_matchLast_3 m_isMatch_4 m_matches_5 x6 hi
      refine r_iload_n (pc := 7) hC 1 dX10_laysMatches_7 rfl rfl ?_
      refine r_aload_n (pc := 8) hC 0 dX10_laysMatches_8 rfl rfl ?_
      refine r_get (kd := 0) (v := (w.1 0 12)) (pc := 9) hC dX10_laysMatches_9 fl_RX10_179 lM_0 rfl rfl ?_
      refine r_ic_ge (pc := 12) (tgt := 120) hC dX10_laysMatches_12 rfl (fun hc3 => ?_) (fun hc3 => ?_)
      · have h := h.1 hc3
        refine r_aload_n (pc := 120) hC 0 dX10_laysMatches_120 rfl rfl ?_
        refine r_iconst (pc := 121) hC dX10_laysMatches_121 (rng_lit rfl) ?_
        refine r_put (kd := 1) (pc := 122) hC dX10_laysMatches_122 pl_RX10_283 lM_0 rfl (by decide) (Or.inr okK1_0) ?_
        refine r_aload_n (pc := 125) hC 0 dX10_laysMatches_125 rfl rfl ?_
        refine r_iconst (pc := 126) hC dX10_laysMatches_126 (rng_lit rfl) ?_
        refine r_put (kd := 1) (pc := 127) hC dX10_laysMatches_127 pl_RX10_287 lM_0 rfl (by decide) (Or.inr okK1_0) ?_
        refine r_conv (w2 := (wI (wI (wI (wA (wA (wA (wA w 24 m_matchItem_1) 25 m_matchFirst_2) 26 m_matchLast_3) 27 m_isMatch_4) 0 39 m_matches_5) 0 42 0) 0 43 0)) rfl ?_
        exact r_retv (pc := 130) hC hQ dX10_laysMatches_130 hr hk ⟨m_matchItem_1, m_matchFirst_2, m_matchLast_3, m_isMatch_4, m_matches_5, 0, 0, rfl, h⟩
      have h := h.2 hc3
      refine r_iconst (pc := 15) hC dX10_laysMatches_15 (rng_lit rfl) ?_
      refine r_istore_n (ls2 := [some (aR 0), some (aI x6), some (aI 0)]) (pc := 16) hC 2 dX10_laysMatches_16 rfl (by decide) rfl rfl ?_
      obtain ⟨I2, μ2, hI2, hB2⟩ := h
      have S2 : ∀ (nn : Nat) (m_matchItem_7 : (Nat → Int)) (m_matchFirst_8 : (Nat → Int)) (m_matchLast_9 : (Nat → Int)) (m_isMatch_10 : (Nat → Int)) (m_matches_11 : Int) (x12 : Int), μ2 m_matchItem_7 m_matchFirst_8 m_matchLast_9 m_isMatch_10 m_matches_11 x12 < nn → I2 m_matchItem_7 m_matchFirst_8 m_matchLast_9 m_isMatch_10 m_matches_11 x12 → Wd p l e (rmD 4) s m args below meth c Q 0 0 3 D cA ad A LM (wI (wA (wA (wA (wA w 24 m_matchItem_7) 25 m_matchFirst_8) 26 m_matchLast_9) 27 m_isMatch_10) 0 39 m_matches_11) 17 [some (aR 0), some (aI x6), some (aI x12)] [] := by
        intro nn
        induction nn with
        | zero => intro m_matchItem_7 m_matchFirst_8 m_matchLast_9 m_isMatch_10 m_matches_11 x12 hn; exact absurd hn (Nat.not_lt_zero _)
        | succ nn ih2 =>
          intro m_matchItem_7 m_matchFirst_8 m_matchLast_9 m_isMatch_10 m_matches_11 x12 hn2 hi
          have h := hB2 m_matchItem_7 m_matchFirst_8 m_matchLast_9 m_isMatch_10 m_matches_11 x12 hi
          refine r_iload_n (pc := 17) hC 2 dX10_laysMatches_17 rfl rfl ?_
          refine r_aload_n (pc := 18) hC 0 dX10_laysMatches_18 rfl rfl ?_
          refine r_get (kd := 0) (v := (w.1 0 29)) (pc := 19) hC dX10_laysMatches_19 fl_RX10_271 lM_0 rfl rfl ?_
          refine r_ic_ge (pc := 22) (tgt := 114) hC dX10_laysMatches_22 rfl (fun hc2 => ?_) (fun hc2 => ?_)
          · have h := h.1 hc2
            refine r_iinc (ls2 := [some (aR 0), some (aI (x6 + 1)), some (aI x12)]) (pc := 114) hC dX10_laysMatches_114 rfl (by decide) rfl h.1 rfl ?_
            have h := h.2
            refine r_goto (tgt := 7) (pc := 117) hC dX10_laysMatches_117 rfl ?_
            exact r_to [true, true, false] rfl rfl (ih1 m_matchItem_7 m_matchFirst_8 m_matchLast_9 m_isMatch_10 m_matches_11 (x6 + 1) (Nat.lt_of_lt_of_le h.2 (Nat.le_of_lt_succ hn1)) h.1)
          have h := h.2 hc2
          refine r_aload_n (pc := 25) hC 0 dX10_laysMatches_25 rfl rfl ?_
          refine r_getr (r := 27) (pc := 26) hC dX10_laysMatches_26 fl_RX10_94 lM_0 rfl ?_
          refine r_bipush (pc := 29) hC dX10_laysMatches_29 ⟨rfl, rng_lit rfl⟩ ?_
          refine r_iload_n (pc := 31) hC 2 dX10_laysMatches_31 rfl rfl ?_
          refine r_imul (pc := 32) hC dX10_laysMatches_32 h.1 ?_
          have h := h.2
          refine r_iload_n (pc := 33) hC 1 dX10_laysMatches_33 rfl rfl ?_
          refine r_iadd (pc := 34) hC dX10_laysMatches_34 h.1 ?_
          have h := h.2
          refine r_aload_n (pc := 35) hC 0 dX10_laysMatches_35 rfl rfl ?_
          refine r_iload_n (pc := 36) hC 2 dX10_laysMatches_36 rfl rfl ?_
          refine r_iload_n (pc := 37) hC 1 dX10_laysMatches_37 rfl rfl ?_
          refine r_callVi (pc := 38) hC [aI x12, aI x6] [aI ((100 * x12) + x6), aR 27] dX10_laysMatches_38 ml_RX10_280 my_X10_matchesAt mi_X10_matchesAt lM_0 rfl rfl ⟨Nat.le_of_ble_eq_true rfl, Nat.le_of_ble_eq_true rfl⟩ ⟨Nat.le_of_ble_eq_true rfl, Nat.le_of_ble_eq_true rfl⟩ (Nat.le_of_ble_eq_true rfl) rfl (s_M_matchesAt l _ _ _ _ h) (fun r13 w1 hq => ?_)
          obtain ⟨e9, h⟩ := hq
          rw [e9]
          refine r_zast (pc := 41) hC dX10_laysMatches_41 lM_27 h.1.1.1 h.1.1.2 h.1.2 ?_
          have h := h.2
          refine r_aload_n (pc := 42) hC 0 dX10_laysMatches_42 rfl rfl ?_
          refine r_getr (r := 27) (pc := 43) hC dX10_laysMatches_43 fl_RX10_94 lM_0 rfl ?_
          refine r_bipush (pc := 46) hC dX10_laysMatches_46 ⟨rfl, rng_lit rfl⟩ ?_
          refine r_iload_n (pc := 48) hC 2 dX10_laysMatches_48 rfl rfl ?_
          refine r_imul (pc := 49) hC dX10_laysMatches_49 h.1 ?_
          have h := h.2
          refine r_iload_n (pc := 50) hC 1 dX10_laysMatches_50 rfl rfl ?_
          refine r_iadd (pc := 51) hC dX10_laysMatches_51 h.1 ?_
          have h := h.2
          refine r_zald (v := ((uI m_isMatch_10 ((100 * x12) + x6) r13) (Int.toNat ((100 * x12) + x6)))) (pc := 52) hC dX10_laysMatches_52 lM_27 h.1.1 h.1.2 rfl ?_
          have h := h.2
          obtain ⟨J3, hJ3, h⟩ := h
          have S3 : ∀ (m_matchItem_14 : (Nat → Int)) (m_matchFirst_15 : (Nat → Int)) (m_matchLast_16 : (Nat → Int)) (m_matches_17 : Int), J3 m_matchItem_14 m_matchFirst_15 m_matchLast_16 m_matches_17 → Wd p l e (rmD 4) s m args below meth c Q 0 0 3 D cA ad A LM (wI (wA (wA (wA (wA w 24 m_matchItem_14) 25 m_matchFirst_15) 26 m_matchLast_16) 27 (uI m_isMatch_10 ((100 * x12) + x6) r13)) 0 39 m_matches_17) 108 [some (aR 0), some (aI x6), some (aI x12)] [] := by
            intro m_matchItem_14 m_matchFirst_15 m_matchLast_16 m_matches_17 hj
            have h := hJ3 m_matchItem_14 m_matchFirst_15 m_matchLast_16 m_matches_17 hj
            refine r_iinc (ls2 := [some (aR 0), some (aI x6), some (aI (x12 + 1))]) (pc := 108) hC dX10_laysMatches_108 rfl (by decide) rfl h.1 rfl ?_
            have h := h.2
            refine r_goto (tgt := 17) (pc := 111) hC dX10_laysMatches_111 rfl ?_
            exact r_to [true, true, true] rfl rfl (ih2 m_matchItem_14 m_matchFirst_15 m_matchLast_16 (uI m_isMatch_10 ((100 * x12) + x6) r13) m_matches_17 (x12 + 1) (Nat.lt_of_lt_of_le h.2 (Nat.le_of_lt_succ hn2)) h.1)
          refine r_if_ne (pc := 53) (tgt := 59) hC dX10_laysMatches_53 rfl (fun hc1 => ?_) (fun hc1 => ?_)
          · have h := h.1 hc1
            refine r_aload_n (pc := 59) hC 0 dX10_laysMatches_59 rfl rfl ?_
            refine r_getr (r := 24) (pc := 60) hC dX10_laysMatches_60 fl_RX10_85 lM_0 rfl ?_
            refine r_aload_n (pc := 63) hC 0 dX10_laysMatches_63 rfl rfl ?_
            refine r_get (kd := 0) (v := m_matches_11) (pc := 64) hC dX10_laysMatches_64 fl_RX10_277 lM_0 rfl rfl ?_
            refine r_iload_n (pc := 67) hC 2 dX10_laysMatches_67 rfl rfl ?_
            refine r_iast (pc := 68) hC dX10_laysMatches_68 lM_24 h.1.1 h.1.2 ?_
            have h := h.2
            refine r_aload_n (pc := 69) hC 0 dX10_laysMatches_69 rfl rfl ?_
            refine r_getr (r := 25) (pc := 70) hC dX10_laysMatches_70 fl_RX10_88 lM_0 rfl ?_
            refine r_aload_n (pc := 73) hC 0 dX10_laysMatches_73 rfl rfl ?_
            refine r_get (kd := 0) (v := m_matches_11) (pc := 74) hC dX10_laysMatches_74 fl_RX10_277 lM_0 rfl rfl ?_
            refine r_iload_n (pc := 77) hC 1 dX10_laysMatches_77 rfl rfl ?_
            refine r_iast (pc := 78) hC dX10_laysMatches_78 lM_25 h.1.1 h.1.2 ?_
            have h := h.2
            refine r_aload_n (pc := 79) hC 0 dX10_laysMatches_79 rfl rfl ?_
            refine r_getr (r := 26) (pc := 80) hC dX10_laysMatches_80 fl_RX10_91 lM_0 rfl ?_
            refine r_aload_n (pc := 83) hC 0 dX10_laysMatches_83 rfl rfl ?_
            refine r_get (kd := 0) (v := m_matches_11) (pc := 84) hC dX10_laysMatches_84 fl_RX10_277 lM_0 rfl rfl ?_
            refine r_iload_n (pc := 87) hC 1 dX10_laysMatches_87 rfl rfl ?_
            refine r_aload_n (pc := 88) hC 0 dX10_laysMatches_88 rfl rfl ?_
            refine r_getr (r := 13) (pc := 89) hC dX10_laysMatches_89 fl_RX10_48 lM_0 rfl ?_
            refine r_iload_n (pc := 92) hC 2 dX10_laysMatches_92 rfl rfl ?_
            refine r_iald (v := ((w.1 13) (Int.toNat x12))) (pc := 93) hC dX10_laysMatches_93 lM_13 h.1.1 h.1.2 rfl ?_
            have h := h.2
            refine r_iadd (pc := 94) hC dX10_laysMatches_94 h.1 ?_
            have h := h.2
            refine r_iconst (pc := 95) hC dX10_laysMatches_95 (rng_lit rfl) ?_
            refine r_isub (pc := 96) hC dX10_laysMatches_96 h.1 ?_
            have h := h.2
            refine r_iast (pc := 97) hC dX10_laysMatches_97 lM_26 h.1.1 h.1.2 ?_
            have h := h.2
            refine r_aload_n (pc := 98) hC 0 dX10_laysMatches_98 rfl rfl ?_
            refine r_dup (pc := 99) hC dX10_laysMatches_99 rfl ?_
            refine r_get (kd := 0) (v := m_matches_11) (pc := 100) hC dX10_laysMatches_100 fl_RX10_277 lM_0 rfl rfl ?_
            refine r_iconst (pc := 103) hC dX10_laysMatches_103 (rng_lit rfl) ?_
            refine r_iadd (pc := 104) hC dX10_laysMatches_104 h.1 ?_
            have h := h.2
            refine r_put (kd := 0) (pc := 105) hC dX10_laysMatches_105 pl_RX10_277 lM_0 rfl (by decide) (Or.inl rfl) ?_
            exact r_to [true, true, true] rfl rfl (S3 (uI m_matchItem_7 m_matches_11 x12) (uI m_matchFirst_8 m_matches_11 x6) (uI m_matchLast_9 m_matches_11 ((x6 + ((w.1 13) (Int.toNat x12))) - 1)) (m_matches_11 + 1) h)
          have h := h.2 hc1
          refine r_goto (tgt := 108) (pc := 56) hC dX10_laysMatches_56 rfl ?_
          exact r_to [true, true, true] rfl rfl (S3 m_matchItem_7 m_matchFirst_8 m_matchLast_9 m_matches_11 h)
      exact r_to [true, true, true] rfl rfl (S2 _ m_matchItem_1 m_matchFirst_2 m_matchLast_3 m_isMatch_4 m_matches_5 0 (Nat.lt_succ_self _) hI2)
  exact r_to [true, true, false] rfl rfl (S1 _ (w.1 24) (w.1 25) (w.1 26) (w.1 27) 0 0 (Nat.lt_succ_self _) hI1)
def wp_M_page (m_tape : (Nat → Int)) (m_page : (Nat → Int)) (m_signAt : (Nat → Int)) (m_wordFrom : (Nat → Int)) (m_wordTo : (Nat → Int)) (m_sentenceOf : (Nat → Int)) (m_likeOf : (Nat → Int)) (m_from : (Nat → Int)) (m_to : (Nat → Int)) (m_hasWord : (Nat → Int)) (m_terms : (Nat → Int)) (m_termMany : (Nat → Int)) (m_star : (Nat → Int)) (m_term : (Nat → Int)) (m_matchItem : (Nat → Int)) (m_matchFirst : (Nat → Int)) (m_matchLast : (Nat → Int)) (m_isMatch : (Nat → Int)) (m_thrown : Int) (m_taped : Int) (m_pageMany : Int) (m_signs : Int) (m_words : Int) (m_sentences : Int) (m_items : Int) (m_matches : Int) (m_areLaid : Int) (m_areLikeLaid : Int) (m_chosen : Int) (Q : Int → (Nat → Int) → (Nat → Int) → (Nat → Int) → (Nat → Int) → (Nat → Int) → (Nat → Int) → (Nat → Int) → (Nat → Int) → (Nat → Int) → (Nat → Int) → (Nat → Int) → (Nat → Int) → (Nat → Int) → Int → Int → Int → Int → Int → Int → Int → Int → Int → Int → Prop) : Prop := lpw2 (fun (m_page_1 : (Nat → Int)) (x2 : Int) (k1 : (Nat → Int) → Int → Prop) => (m_taped ≤ x2 → wp_M_laysSigns m_page_1 m_signAt m_taped m_signs (fun (m_signAt_3 : (Nat → Int)) (m_signs_4 : Int) => wp_M_laysWords m_page_1 m_signAt_3 m_wordFrom m_wordTo m_likeOf m_signs_4 m_words (fun (m_wordFrom_5 : (Nat → Int)) (m_wordTo_6 : (Nat → Int)) (m_likeOf_7 : (Nat → Int)) (m_words_8 : Int) => wp_M_laysSentences m_page_1 m_signAt_3 m_wordFrom_5 m_sentenceOf m_likeOf_7 m_from m_to m_hasWord m_signs_4 m_words_8 m_sentences (fun (m_sentenceOf_9 : (Nat → Int)) (m_from_10 : (Nat → Int)) (m_to_11 : (Nat → Int)) (m_hasWord_12 : (Nat → Int)) (m_sentences_13 : Int) => wp_M_laysMatches m_page_1 m_signAt_3 m_wordFrom_5 m_wordTo_6 m_sentenceOf_9 m_terms m_termMany m_star m_term m_matchItem m_matchFirst m_matchLast m_isMatch m_signs_4 m_words_8 m_items m_matches m_areLaid m_areLikeLaid (fun (m_matchItem_14 : (Nat → Int)) (m_matchFirst_15 : (Nat → Int)) (m_matchLast_16 : (Nat → Int)) (m_isMatch_17 : (Nat → Int)) (m_matches_18 : Int) (m_areLaid_19 : Int) (m_areLikeLaid_20 : Int) => Q m_sentences_13 m_page_1 m_signAt_3 m_wordFrom_5 m_wordTo_6 m_sentenceOf_9 m_likeOf_7 m_from_10 m_to_11 m_hasWord_12 m_matchItem_14 m_matchFirst_15 m_matchLast_16 m_isMatch_17 0 0 m_taped m_signs_4 m_words_8 m_sentences_13 m_matches_18 m_areLaid_19 m_areLikeLaid_20 0))))) ∧ (¬ m_taped ≤ x2 → (0 ≤ x2 ∧ x2 < 600) ∧ ((0 ≤ x2 ∧ x2 < 600) ∧ ((rng (x2 + 1)) ∧ (k1 (uI m_page_1 x2 (iAnd (m_tape (Int.toNat x2)) 255)) (x2 + 1)))))) m_page 0
set_option maxHeartbeats 4000000 in
set_option maxRecDepth 20000 in
theorem s_M_page (l : Launch) (w : St) (P : Int → (Nat → Int) → (Nat → Int) → (Nat → Int) → (Nat → Int) → (Nat → Int) → (Nat → Int) → (Nat → Int) → (Nat → Int) → (Nat → Int) → (Nat → Int) → (Nat → Int) → (Nat → Int) → (Nat → Int) → Int → Int → Int → Int → Int → Int → Int → Int → Int → Int → Prop) (h : wp_M_page (w.1 1) (w.1 3) (w.1 4) (w.1 5) (w.1 6) (w.1 7) (w.1 8) (w.1 9) (w.1 10) (w.1 11) (w.1 13) (w.1 14) (w.1 16) (w.1 17) (w.1 24) (w.1 25) (w.1 26) (w.1 27) (w.1 0 0) (w.1 0 2) (w.1 0 6) (w.1 0 7) (w.1 0 12) (w.1 0 16) (w.1 0 29) (w.1 0 39) (w.1 0 42) (w.1 0 43) (w.1 0 53) P) : Cn l yX10_page cX10_page 2 (some .int) 7 LM w [aR 0] (okI (fun r w1 => ∃ (o0 : (Nat → Int)) (o1 : (Nat → Int)) (o2 : (Nat → Int)) (o3 : (Nat → Int)) (o4 : (Nat → Int)) (o5 : (Nat → Int)) (o6 : (Nat → Int)) (o7 : (Nat → Int)) (o8 : (Nat → Int)) (o9 : (Nat → Int)) (o10 : (Nat → Int)) (o11 : (Nat → Int)) (o12 : (Nat → Int)) (o13 : Int) (o14 : Int) (o15 : Int) (o16 : Int) (o17 : Int) (o18 : Int) (o19 : Int) (o20 : Int) (o21 : Int) (o22 : Int), w1 = (wI (wI (wI (wI (wI (wI (wI (wI (wI (wI (wA (wA (wA (wA (wA (wA (wA (wA (wA (wA (wA (wA (wA w 3 o0) 4 o1) 5 o2) 6 o3) 7 o4) 8 o5) 9 o6) 10 o7) 11 o8) 24 o9) 25 o10) 26 o11) 27 o12) 0 0 o13) 0 2 o14) 0 6 o15) 0 7 o16) 0 12 o17) 0 16 o18) 0 39 o19) 0 42 o20) 0 43 o21) 0 53 o22) ∧ P r o0 o1 o2 o3 o4 o5 o6 o7 o8 o9 o10 o11 o12 o13 o14 o15 o16 o17 o18 o19 o20 o21 o22)) := by
  unfold wp_M_page at h
  refine Cn.of2 [some (aR 0), none] (by decide) (Nat.le_of_ble_eq_true rfl) rfl (fun p e s m args below meth c D cA ad A Q hQ hC hr hk => ?_)
  refine r_aload_n (pc := 0) hC 0 dX10_page_0 rfl rfl ?_
  refine r_iconst (pc := 1) hC dX10_page_1 (rng_lit rfl) ?_
  refine r_put (kd := 0) (pc := 2) hC dX10_page_2 pl_RX10_142 lM_0 rfl (by decide) (Or.inl rfl) ?_
  refine r_aload_n (pc := 5) hC 0 dX10_page_5 rfl rfl ?_
  refine r_aload_n (pc := 6) hC 0 dX10_page_6 rfl rfl ?_
  refine r_get (kd := 0) (v := (w.1 0 2)) (pc := 7) hC dX10_page_7 fl_RX10_145 lM_0 rfl rfl ?_
  refine r_put (kd := 0) (pc := 10) hC dX10_page_10 pl_RX10_148 lM_0 rfl (by decide) (Or.inl rfl) ?_
  refine r_aload_n (pc := 13) hC 0 dX10_page_13 rfl rfl ?_
  refine r_iconst (pc := 14) hC dX10_page_14 (rng_lit rfl) ?_
  refine r_put (kd := 0) (pc := 15) hC dX10_page_15 pl_RX10_145 lM_0 rfl (by decide) (Or.inl rfl) ?_
  refine r_iconst (pc := 18) hC dX10_page_18 (rng_lit rfl) ?_
  refine r_istore_n (ls2 := [some (aR 0), some (aI 0)]) (pc := 19) hC 1 dX10_page_19 rfl (by decide) rfl rfl ?_
  obtain ⟨I1, μ1, hI1, hB1⟩ := h
  have S1 : ∀ (nn : Nat) (m_page_1 : (Nat → Int)) (x2 : Int), μ1 m_page_1 x2 < nn → I1 m_page_1 x2 → Wd p l e (rmD 7) s m args below meth c Q 0 0 2 D cA ad A LM (wI (wI (wI (wA w 3 m_page_1) 0 0 0) 0 2 0) 0 6 (w.1 0 2)) 20 [some (aR 0), some (aI x2)] [] := by
    intro nn
    induction nn with
    | zero => intro m_page_1 x2 hn; exact absurd hn (Nat.not_lt_zero _)
    | succ nn ih1 =>
      intro m_page_1 x2 hn1 hi
      have h := hB1 m_page_1 x2 hi
      refine r_iload_n (pc := 20) hC 1 dX10_page_20 rfl rfl ?_
      refine r_aload_n (pc := 21) hC 0 dX10_page_21 rfl rfl ?_
      refine r_get (kd := 0) (v := (w.1 0 2)) (pc := 22) hC dX10_page_22 fl_RX10_148 lM_0 rfl rfl ?_
      refine r_ic_ge (pc := 25) (tgt := 50) hC dX10_page_25 rfl (fun hc1 => ?_) (fun hc1 => ?_)
      · have h := h.1 hc1
        refine r_aload_n (pc := 50) hC 0 dX10_page_50 rfl rfl ?_
        refine r_callVv (pc := 51) hC [] [] dX10_page_51 ml_RX10_209 my_X10_laysSigns mi_X10_laysSigns lM_0 rfl rfl ⟨Nat.le_of_ble_eq_true rfl, Nat.le_of_ble_eq_true rfl⟩ ⟨Nat.le_of_ble_eq_true rfl, Nat.le_of_ble_eq_true rfl⟩ (Nat.le_of_ble_eq_true rfl) rfl (s_M_laysSigns l _ _ h) (fun w1 hq => ?_)
        obtain ⟨m_signAt_3, m_signs_4, e9, h⟩ := hq
        rw [e9]
        refine r_aload_n (pc := 54) hC 0 dX10_page_54 rfl rfl ?_
        refine r_callVv (pc := 55) hC [] [] dX10_page_55 ml_RX10_212 my_X10_laysWords mi_X10_laysWords lM_0 rfl rfl ⟨Nat.le_of_ble_eq_true rfl, Nat.le_of_ble_eq_true rfl⟩ ⟨Nat.le_of_ble_eq_true rfl, Nat.le_of_ble_eq_true rfl⟩ (Nat.le_of_ble_eq_true rfl) rfl (s_M_laysWords l _ _ h) (fun w1 hq => ?_)
        obtain ⟨m_wordFrom_5, m_wordTo_6, m_likeOf_7, m_words_8, e9, h⟩ := hq
        rw [e9]
        refine r_aload_n (pc := 58) hC 0 dX10_page_58 rfl rfl ?_
        refine r_callVv (pc := 59) hC [] [] dX10_page_59 ml_RX10_215 my_X10_laysSentences mi_X10_laysSentences lM_0 rfl rfl ⟨Nat.le_of_ble_eq_true rfl, Nat.le_of_ble_eq_true rfl⟩ ⟨Nat.le_of_ble_eq_true rfl, Nat.le_of_ble_eq_true rfl⟩ (Nat.le_of_ble_eq_true rfl) rfl (s_M_laysSentences l _ _ h) (fun w1 hq => ?_)
        obtain ⟨m_sentenceOf_9, m_from_10, m_to_11, m_hasWord_12, m_sentences_13, e9, h⟩ := hq
        rw [e9]
        refine r_aload_n (pc := 62) hC 0 dX10_page_62 rfl rfl ?_
        refine r_callVv (pc := 63) hC [] [] dX10_page_63 ml_RX10_218 my_X10_laysMatches mi_X10_laysMatches lM_0 rfl rfl ⟨Nat.le_of_ble_eq_true rfl, Nat.le_of_ble_eq_true rfl⟩ ⟨Nat.le_of_ble_eq_true rfl, Nat.le_of_ble_eq_true rfl⟩ (Nat.le_of_ble_eq_true rfl) rfl (s_M_laysMatches l _ _ h) (fun w1 hq => ?_)
        obtain ⟨m_matchItem_14, m_matchFirst_15, m_matchLast_16, m_isMatch_17, m_matches_18, m_areLaid_19, m_areLikeLaid_20, e9, h⟩ := hq
        rw [e9]
        refine r_aload_n (pc := 66) hC 0 dX10_page_66 rfl rfl ?_
        refine r_iconst (pc := 67) hC dX10_page_67 (rng_lit rfl) ?_
        refine r_put (kd := 0) (pc := 68) hC dX10_page_68 pl_RX10_221 lM_0 rfl (by decide) (Or.inl rfl) ?_
        refine r_aload_n (pc := 71) hC 0 dX10_page_71 rfl rfl ?_
        refine r_get (kd := 0) (v := m_sentences_13) (pc := 72) hC dX10_page_72 fl_RX10_203 lM_0 rfl rfl ?_
        refine r_conv (w2 := (wI (wI (wI (wI (wI (wI (wI (wI (wI (wI (wA (wA (wA (wA (wA (wA (wA (wA (wA (wA (wA (wA (wA w 3 m_page_1) 4 m_signAt_3) 5 m_wordFrom_5) 6 m_wordTo_6) 7 m_sentenceOf_9) 8 m_likeOf_7) 9 m_from_10) 10 m_to_11) 11 m_hasWord_12) 24 m_matchItem_14) 25 m_matchFirst_15) 26 m_matchLast_16) 27 m_isMatch_17) 0 0 0) 0 2 0) 0 6 (w.1 0 2)) 0 7 m_signs_4) 0 12 m_words_8) 0 16 m_sentences_13) 0 39 m_matches_18) 0 42 m_areLaid_19) 0 43 m_areLikeLaid_20) 0 53 0)) rfl ?_
        exact r_reti (pc := 75) (kd := 0) hC hQ dX10_page_75 hr hk (by decide) (Or.inl rfl) ⟨m_page_1, m_signAt_3, m_wordFrom_5, m_wordTo_6, m_sentenceOf_9, m_likeOf_7, m_from_10, m_to_11, m_hasWord_12, m_matchItem_14, m_matchFirst_15, m_matchLast_16, m_isMatch_17, 0, 0, (w.1 0 2), m_signs_4, m_words_8, m_sentences_13, m_matches_18, m_areLaid_19, m_areLikeLaid_20, 0, rfl, h⟩
      have h := h.2 hc1
      refine r_aload_n (pc := 28) hC 0 dX10_page_28 rfl rfl ?_
      refine r_getr (r := 3) (pc := 29) hC dX10_page_29 fl_RX10_17 lM_0 rfl ?_
      refine r_iload_n (pc := 32) hC 1 dX10_page_32 rfl rfl ?_
      refine r_aload_n (pc := 33) hC 0 dX10_page_33 rfl rfl ?_
      refine r_getr (r := 1) (pc := 34) hC dX10_page_34 fl_RX10_9 lM_0 rfl ?_
      refine r_iload_n (pc := 37) hC 1 dX10_page_37 rfl rfl ?_
      refine r_bald (v := ((w.1 1) (Int.toNat x2))) (pc := 38) hC dX10_page_38 lM_1 h.1.1 h.1.2 rfl ?_
      have h := h.2
      refine r_sipush (pc := 39) hC dX10_page_39 ⟨rfl, rng_lit rfl⟩ ?_
      refine r_iand (pc := 42) hC dX10_page_42 ?_
      refine r_iast (pc := 43) hC dX10_page_43 lM_3 h.1.1 h.1.2 ?_
      have h := h.2
      refine r_iinc (ls2 := [some (aR 0), some (aI (x2 + 1))]) (pc := 44) hC dX10_page_44 rfl (by decide) rfl h.1 rfl ?_
      have h := h.2
      refine r_goto (tgt := 20) (pc := 47) hC dX10_page_47 rfl ?_
      exact r_to [true, true] rfl rfl (ih1 (uI m_page_1 x2 (iAnd ((w.1 1) (Int.toNat x2)) 255)) (x2 + 1) (Nat.lt_of_lt_of_le h.2 (Nat.le_of_lt_succ hn1)) h.1)
  exact r_to [true, true] rfl rfl (S1 _ (w.1 3) 0 (Nat.lt_succ_self _) hI1)
def wp_M_isAt (m_tape : (Nat → Int)) (m_point : Int) (m_end : Int) (a1 : Int) (a2 : Int) (Q : Int → Prop) : Prop := (m_end ≤ m_point → Q 0) ∧ (¬ m_end ≤ m_point → (0 ≤ m_point ∧ m_point < 600) ∧ (((m_tape (Int.toNat m_point)) < a1 → Q 0) ∧ (¬ (m_tape (Int.toNat m_point)) < a1 → (0 ≤ m_point ∧ m_point < 600) ∧ ((a2 < (m_tape (Int.toNat m_point)) → Q 0) ∧ (¬ a2 < (m_tape (Int.toNat m_point)) → Q 1)))))
set_option maxHeartbeats 4000000 in
set_option maxRecDepth 20000 in
theorem s_M_isAt (l : Launch) (w : St) (a1 : Int) (a2 : Int) (P : Int → Prop) (h : wp_M_isAt (w.1 1) (w.1 0 31) (w.1 0 33) a1 a2 P) : Cn l yX10_isAt cX10_isAt 3 (some .boolean) 0 LM w [aR 0, aI a1, aI a2] (okI (fun r w1 => w1 = w ∧ P r)) := by
  unfold wp_M_isAt at h
  refine Cn.of2 [some (aR 0), some (aI a1), some (aI a2)] (by decide) (Nat.le_of_ble_eq_true rfl) rfl (fun p e s m args below meth c D cA ad A Q hQ hC hr hk => ?_)
  refine r_aload_n (pc := 0) hC 0 dX10_isAt_0 rfl rfl ?_
  refine r_get (kd := 0) (v := (w.1 0 31)) (pc := 1) hC dX10_isAt_1 fl_RX10_224 lM_0 rfl rfl ?_
  refine r_aload_n (pc := 4) hC 0 dX10_isAt_4 rfl rfl ?_
  refine r_get (kd := 0) (v := (w.1 0 33)) (pc := 5) hC dX10_isAt_5 fl_RX10_227 lM_0 rfl rfl ?_
  refine r_ic_ge (pc := 8) (tgt := 41) hC dX10_isAt_8 rfl (fun hc3 => ?_) (fun hc3 => ?_)
  · have h := h.1 hc3
    refine r_iconst (pc := 41) hC dX10_isAt_41 (rng_lit rfl) ?_
    exact r_reti (pc := 42) (kd := 1) hC hQ dX10_isAt_42 hr hk (by decide) (Or.inr okK1_0) ⟨rfl, h⟩
  have h := h.2 hc3
  refine r_aload_n (pc := 11) hC 0 dX10_isAt_11 rfl rfl ?_
  refine r_getr (r := 1) (pc := 12) hC dX10_isAt_12 fl_RX10_9 lM_0 rfl ?_
  refine r_aload_n (pc := 15) hC 0 dX10_isAt_15 rfl rfl ?_
  refine r_get (kd := 0) (v := (w.1 0 31)) (pc := 16) hC dX10_isAt_16 fl_RX10_224 lM_0 rfl rfl ?_
  refine r_bald (v := ((w.1 1) (Int.toNat (w.1 0 31)))) (pc := 19) hC dX10_isAt_19 lM_1 h.1.1 h.1.2 rfl ?_
  have h := h.2
  refine r_iload_n (pc := 20) hC 1 dX10_isAt_20 rfl rfl ?_
  refine r_ic_lt (pc := 21) (tgt := 41) hC dX10_isAt_21 rfl (fun hc2 => ?_) (fun hc2 => ?_)
  · have h := h.1 hc2
    refine r_iconst (pc := 41) hC dX10_isAt_41 (rng_lit rfl) ?_
    exact r_reti (pc := 42) (kd := 1) hC hQ dX10_isAt_42 hr hk (by decide) (Or.inr okK1_0) ⟨rfl, h⟩
  have h := h.2 hc2
  refine r_aload_n (pc := 24) hC 0 dX10_isAt_24 rfl rfl ?_
  refine r_getr (r := 1) (pc := 25) hC dX10_isAt_25 fl_RX10_9 lM_0 rfl ?_
  refine r_aload_n (pc := 28) hC 0 dX10_isAt_28 rfl rfl ?_
  refine r_get (kd := 0) (v := (w.1 0 31)) (pc := 29) hC dX10_isAt_29 fl_RX10_224 lM_0 rfl rfl ?_
  refine r_bald (v := ((w.1 1) (Int.toNat (w.1 0 31)))) (pc := 32) hC dX10_isAt_32 lM_1 h.1.1 h.1.2 rfl ?_
  have h := h.2
  refine r_iload_n (pc := 33) hC 2 dX10_isAt_33 rfl rfl ?_
  refine r_ic_gt (pc := 34) (tgt := 41) hC dX10_isAt_34 rfl (fun hc1 => ?_) (fun hc1 => ?_)
  · have h := h.1 hc1
    refine r_iconst (pc := 41) hC dX10_isAt_41 (rng_lit rfl) ?_
    exact r_reti (pc := 42) (kd := 1) hC hQ dX10_isAt_42 hr hk (by decide) (Or.inr okK1_0) ⟨rfl, h⟩
  have h := h.2 hc1
  refine r_iconst (pc := 37) hC dX10_isAt_37 (rng_lit rfl) ?_
  refine r_goto (tgt := 42) (pc := 38) hC dX10_isAt_38 rfl ?_
  exact r_reti (pc := 42) (kd := 1) hC hQ dX10_isAt_42 hr hk (by decide) (Or.inr okK1_1) ⟨rfl, h⟩
def wp_M_blanks (m_tape : (Nat → Int)) (m_point : Int) (m_begin : Int) (m_end : Int) (Q : Int → Int → Prop) : Prop := lpw1 (fun (m_point_1 : Int) (k1 : Int → Prop) => wp_M_isAt m_tape m_point_1 m_end 32 32 (fun (r2 : Int) => jn0 (fun (J2 : Prop) => (¬ r2 = 0 → J2) ∧ (r2 = 0 → wp_M_isAt m_tape m_point_1 m_end 9 10 (fun (r3 : Int) => (r3 = 0 → Q m_point_1 m_point_1) ∧ (¬ r3 = 0 → J2)))) ((rng (m_point_1 + 1)) ∧ (k1 (m_point_1 + 1))))) m_point
set_option maxHeartbeats 4000000 in
set_option maxRecDepth 20000 in
theorem s_M_blanks (l : Launch) (w : St) (P : Int → Int → Prop) (h : wp_M_blanks (w.1 1) (w.1 0 31) (w.1 0 32) (w.1 0 33) P) : Cn l yX10_blanks cX10_blanks 1 none 1 LM w [aR 0] (okV (fun w1 => ∃ (o0 : Int) (o1 : Int), w1 = (wI (wI w 0 31 o0) 0 32 o1) ∧ P o0 o1)) := by
  unfold wp_M_blanks at h
  refine Cn.of2 [some (aR 0)] (by decide) (Nat.le_of_ble_eq_true rfl) rfl (fun p e s m args below meth c D cA ad A Q hQ hC hr hk => ?_)
  obtain ⟨I1, μ1, hI1, hB1⟩ := h
  have S1 : ∀ (nn : Nat) (m_point_1 : Int), μ1 m_point_1 < nn → I1 m_point_1 → Wd p l e (rmD 1) s m args below meth c Q 0 0 1 D cA ad A LM (wI w 0 31 m_point_1) 0 [some (aR 0)] [] := by
    intro nn
    induction nn with
    | zero => intro m_point_1 hn; exact absurd hn (Nat.not_lt_zero _)
    | succ nn ih1 =>
      intro m_point_1 hn1 hi
      have h := hB1 m_point_1 hi
      refine r_aload_n (pc := 0) hC 0 dX10_blanks_0 rfl rfl ?_
      refine r_bipush (pc := 1) hC dX10_blanks_1 ⟨rfl, rng_lit rfl⟩ ?_
      refine r_bipush (pc := 3) hC dX10_blanks_3 ⟨rfl, rng_lit rfl⟩ ?_
      refine r_callVi (pc := 5) hC [aI 32, aI 32] [] dX10_blanks_5 ml_RX10_230 my_X10_isAt mi_X10_isAt lM_0 rfl rfl ⟨Nat.le_of_ble_eq_true rfl, Nat.le_of_ble_eq_true rfl⟩ ⟨Nat.le_of_ble_eq_true rfl, Nat.le_of_ble_eq_true rfl⟩ (Nat.le_of_ble_eq_true rfl) rfl (s_M_isAt l _ _ _ _ h) (fun r2 w1 hq => ?_)
      obtain ⟨e9, h⟩ := hq
      rw [e9]
      obtain ⟨J2, hJ2, h⟩ := h
      have S2 : J2 → Wd p l e (rmD 1) s m args below meth c Q 0 0 1 D cA ad A LM (wI w 0 31 m_point_1) 22 [some (aR 0)] [] := by
        intro hj
        have h := hJ2 hj
        refine r_aload_n (pc := 22) hC 0 dX10_blanks_22 rfl rfl ?_
        refine r_dup (pc := 23) hC dX10_blanks_23 rfl ?_
        refine r_get (kd := 0) (v := m_point_1) (pc := 24) hC dX10_blanks_24 fl_RX10_224 lM_0 rfl rfl ?_
        refine r_iconst (pc := 27) hC dX10_blanks_27 (rng_lit rfl) ?_
        refine r_iadd (pc := 28) hC dX10_blanks_28 h.1 ?_
        have h := h.2
        refine r_put (kd := 0) (pc := 29) hC dX10_blanks_29 pl_RX10_224 lM_0 rfl (by decide) (Or.inl rfl) ?_
        refine r_goto (tgt := 0) (pc := 32) hC dX10_blanks_32 rfl ?_
        exact r_to [true] rfl rfl (ih1 (m_point_1 + 1) (Nat.lt_of_lt_of_le h.2 (Nat.le_of_lt_succ hn1)) h.1)
      refine r_if_ne (pc := 8) (tgt := 22) hC dX10_blanks_8 rfl (fun hc2 => ?_) (fun hc2 => ?_)
      · have h := h.1 hc2
        exact r_to [true] rfl rfl (S2 h)
      have h := h.2 hc2
      refine r_aload_n (pc := 11) hC 0 dX10_blanks_11 rfl rfl ?_
      refine r_bipush (pc := 12) hC dX10_blanks_12 ⟨rfl, rng_lit rfl⟩ ?_
      refine r_bipush (pc := 14) hC dX10_blanks_14 ⟨rfl, rng_lit rfl⟩ ?_
      refine r_callVi (pc := 16) hC [aI 9, aI 10] [] dX10_blanks_16 ml_RX10_230 my_X10_isAt mi_X10_isAt lM_0 rfl rfl ⟨Nat.le_of_ble_eq_true rfl, Nat.le_of_ble_eq_true rfl⟩ ⟨Nat.le_of_ble_eq_true rfl, Nat.le_of_ble_eq_true rfl⟩ (Nat.le_of_ble_eq_true rfl) rfl (s_M_isAt l _ _ _ _ h) (fun r3 w1 hq => ?_)
      obtain ⟨e9, h⟩ := hq
      rw [e9]
      refine r_if_eq (pc := 19) (tgt := 35) hC dX10_blanks_19 rfl (fun hc1 => ?_) (fun hc1 => ?_)
      · have h := h.1 hc1
        refine r_aload_n (pc := 35) hC 0 dX10_blanks_35 rfl rfl ?_
        refine r_aload_n (pc := 36) hC 0 dX10_blanks_36 rfl rfl ?_
        refine r_get (kd := 0) (v := m_point_1) (pc := 37) hC dX10_blanks_37 fl_RX10_224 lM_0 rfl rfl ?_
        refine r_put (kd := 0) (pc := 40) hC dX10_blanks_40 pl_RX10_233 lM_0 rfl (by decide) (Or.inl rfl) ?_
        refine r_conv (w2 := (wI (wI w 0 31 m_point_1) 0 32 m_point_1)) rfl ?_
        exact r_retv (pc := 43) hC hQ dX10_blanks_43 hr hk ⟨m_point_1, m_point_1, rfl, h⟩
      have h := h.2 hc1
      exact r_to [true] rfl rfl (S2 h)
  exact r_to [true] rfl rfl (S1 _ (w.1 0 31) (Nat.lt_succ_self _) hI1)
def wp_M_letters (m_tape : (Nat → Int)) (m_point : Int) (m_begin : Int) (m_end : Int) (Q : Int → Int → Prop) : Prop := wp_M_blanks m_tape m_point m_begin m_end (fun (m_point_1 : Int) (m_begin_2 : Int) => lpw1 (fun (m_point_3 : Int) (k1 : Int → Prop) => wp_M_isAt m_tape m_point_3 m_end 97 122 (fun (r4 : Int) => (r4 = 0 → Q m_point_3 m_begin_2) ∧ (¬ r4 = 0 → (rng (m_point_3 + 1)) ∧ (k1 (m_point_3 + 1))))) m_point_1)
set_option maxHeartbeats 4000000 in
set_option maxRecDepth 20000 in
theorem s_M_letters (l : Launch) (w : St) (P : Int → Int → Prop) (h : wp_M_letters (w.1 1) (w.1 0 31) (w.1 0 32) (w.1 0 33) P) : Cn l yX10_letters cX10_letters 1 none 2 LM w [aR 0] (okV (fun w1 => ∃ (o0 : Int) (o1 : Int), w1 = (wI (wI w 0 31 o0) 0 32 o1) ∧ P o0 o1)) := by
  unfold wp_M_letters at h
  refine Cn.of2 [some (aR 0)] (by decide) (Nat.le_of_ble_eq_true rfl) rfl (fun p e s m args below meth c D cA ad A Q hQ hC hr hk => ?_)
  refine r_aload_n (pc := 0) hC 0 dX10_letters_0 rfl rfl ?_
  refine r_callVv (pc := 1) hC [] [] dX10_letters_1 ml_RX10_236 my_X10_blanks mi_X10_blanks lM_0 rfl rfl ⟨Nat.le_of_ble_eq_true rfl, Nat.le_of_ble_eq_true rfl⟩ ⟨Nat.le_of_ble_eq_true rfl, Nat.le_of_ble_eq_true rfl⟩ (Nat.le_of_ble_eq_true rfl) rfl (s_M_blanks l _ _ h) (fun w1 hq => ?_)
  obtain ⟨m_point_1, m_begin_2, e9, h⟩ := hq
  rw [e9]
  obtain ⟨I1, μ1, hI1, hB1⟩ := h
  have S1 : ∀ (nn : Nat) (m_point_3 : Int), μ1 m_point_3 < nn → I1 m_point_3 → Wd p l e (rmD 2) s m args below meth c Q 0 0 1 D cA ad A LM (wI (wI w 0 31 m_point_3) 0 32 m_begin_2) 4 [some (aR 0)] [] := by
    intro nn
    induction nn with
    | zero => intro m_point_3 hn; exact absurd hn (Nat.not_lt_zero _)
    | succ nn ih1 =>
      intro m_point_3 hn1 hi
      have h := hB1 m_point_3 hi
      refine r_aload_n (pc := 4) hC 0 dX10_letters_4 rfl rfl ?_
      refine r_bipush (pc := 5) hC dX10_letters_5 ⟨rfl, rng_lit rfl⟩ ?_
      refine r_bipush (pc := 7) hC dX10_letters_7 ⟨rfl, rng_lit rfl⟩ ?_
      refine r_callVi (pc := 9) hC [aI 97, aI 122] [] dX10_letters_9 ml_RX10_230 my_X10_isAt mi_X10_isAt lM_0 rfl rfl ⟨Nat.le_of_ble_eq_true rfl, Nat.le_of_ble_eq_true rfl⟩ ⟨Nat.le_of_ble_eq_true rfl, Nat.le_of_ble_eq_true rfl⟩ (Nat.le_of_ble_eq_true rfl) rfl (s_M_isAt l _ _ _ _ h) (fun r4 w1 hq => ?_)
      obtain ⟨e9, h⟩ := hq
      rw [e9]
      refine r_if_eq (pc := 12) (tgt := 28) hC dX10_letters_12 rfl (fun hc1 => ?_) (fun hc1 => ?_)
      · have h := h.1 hc1
        refine r_conv (w2 := (wI (wI w 0 31 m_point_3) 0 32 m_begin_2)) rfl ?_
        exact r_retv (pc := 28) hC hQ dX10_letters_28 hr hk ⟨m_point_3, m_begin_2, rfl, h⟩
      have h := h.2 hc1
      refine r_aload_n (pc := 15) hC 0 dX10_letters_15 rfl rfl ?_
      refine r_dup (pc := 16) hC dX10_letters_16 rfl ?_
      refine r_get (kd := 0) (v := m_point_3) (pc := 17) hC dX10_letters_17 fl_RX10_224 lM_0 rfl rfl ?_
      refine r_iconst (pc := 20) hC dX10_letters_20 (rng_lit rfl) ?_
      refine r_iadd (pc := 21) hC dX10_letters_21 h.1 ?_
      have h := h.2
      refine r_put (kd := 0) (pc := 22) hC dX10_letters_22 pl_RX10_224 lM_0 rfl (by decide) (Or.inl rfl) ?_
      refine r_goto (tgt := 4) (pc := 25) hC dX10_letters_25 rfl ?_
      exact r_to [true] rfl rfl (ih1 (m_point_3 + 1) (Nat.lt_of_lt_of_le h.2 (Nat.le_of_lt_succ hn1)) h.1)
  exact r_to [true] rfl rfl (S1 _ m_point_1 (Nat.lt_succ_self _) hI1)
def wp_M_isWord (m_tape : (Nat → Int)) (m_point : Int) (m_begin : Int) (a1 : Nat) (Q : Int → Prop) : Prop := (rng (m_point - m_begin)) ∧ ((a1 < 37) ∧ (jn1 (fun (J1 : Int → Prop) => (¬ (m_point - m_begin) = (sLen a1) → J1 0) ∧ ((m_point - m_begin) = (sLen a1) → J1 1)) (fun (y1 : Int) => lpw2 (fun (x2 : Int) (x3 : Int) (k2 : Int → Int → Prop) => (x2 = 0 → (0 ≤ x2 ∧ x2 ≤ 1) ∧ (Q x2)) ∧ (¬ x2 = 0 → (a1 < 37) ∧ (((sLen a1) ≤ x3 → (0 ≤ x2 ∧ x2 ≤ 1) ∧ (Q x2)) ∧ (¬ (sLen a1) ≤ x3 → (rng (m_begin + x3)) ∧ ((0 ≤ (m_begin + x3) ∧ (m_begin + x3) < 600) ∧ ((a1 < 37 ∧ 0 ≤ x3 ∧ x3 < sLen a1) ∧ (jn1 (fun (J3 : Int → Prop) => (¬ (m_tape (Int.toNat (m_begin + x3))) = (sAt a1 x3) → J3 0) ∧ ((m_tape (Int.toNat (m_begin + x3))) = (sAt a1 x3) → J3 1)) (fun (y4 : Int) => (rng (x3 + 1)) ∧ (k2 y4 (x3 + 1)))))))))) y1 0)))
set_option maxHeartbeats 4000000 in
set_option maxRecDepth 20000 in
theorem s_M_isWord (l : Launch) (w : St) (a1 : Nat) (P : Int → Prop) (h : wp_M_isWord (w.1 1) (w.1 0 31) (w.1 0 32) a1 P) : Cn l yX10_isWord cX10_isWord 4 (some .boolean) 4 LM w [aR 0, aR (10000 + a1)] (okI (fun r w1 => w1 = w ∧ P r)) := by
  unfold wp_M_isWord at h
  refine Cn.of2 [some (aR 0), some (aR (10000 + a1)), none, none] (by decide) (Nat.le_of_ble_eq_true rfl) rfl (fun p e s m args below meth c D cA ad A Q hQ hC hr hk => ?_)
  refine r_aload_n (pc := 0) hC 0 dX10_isWord_0 rfl rfl ?_
  refine r_get (kd := 0) (v := (w.1 0 31)) (pc := 1) hC dX10_isWord_1 fl_RX10_224 lM_0 rfl rfl ?_
  refine r_aload_n (pc := 4) hC 0 dX10_isWord_4 rfl rfl ?_
  refine r_get (kd := 0) (v := (w.1 0 32)) (pc := 5) hC dX10_isWord_5 fl_RX10_233 lM_0 rfl rfl ?_
  refine r_isub (pc := 8) hC dX10_isWord_8 h.1 ?_
  have h := h.2
  refine r_aload_n (pc := 9) hC 1 dX10_isWord_9 rfl rfl ?_
  refine r_slen (pc := 10) hC dX10_isWord_10 ml_RX10_239 h.1 ⟨Nat.le_of_ble_eq_true rfl, Nat.le_of_ble_eq_true rfl⟩ ⟨Nat.le_of_ble_eq_true rfl, Nat.le_of_ble_eq_true rfl⟩ (Nat.le_of_ble_eq_true rfl) ?_
  have h := h.2
  obtain ⟨J1, hJ1, h⟩ := h
  have S1 : ∀ (y1 : Int), J1 y1 → Wd p l e (rmD 4) s m args below meth c Q 0 0 4 D cA ad A LM w 21 [some (aR 0), some (aR (10000 + a1)), none, none] [aI y1] := by
    intro y1 hj
    have h := hJ1 y1 hj
    refine r_istore_n (ls2 := [some (aR 0), some (aR (10000 + a1)), some (aI y1), none]) (pc := 21) hC 2 dX10_isWord_21 rfl (by decide) rfl rfl ?_
    refine r_iconst (pc := 22) hC dX10_isWord_22 (rng_lit rfl) ?_
    refine r_istore_n (ls2 := [some (aR 0), some (aR (10000 + a1)), some (aI y1), some (aI 0)]) (pc := 23) hC 3 dX10_isWord_23 rfl (by decide) rfl rfl ?_
    obtain ⟨I2, μ2, hI2, hB2⟩ := h
    have S2 : ∀ (nn : Nat) (x2 : Int) (x3 : Int), μ2 x2 x3 < nn → I2 x2 x3 → Wd p l e (rmD 4) s m args below meth c Q 0 0 4 D cA ad A LM w 24 [some (aR 0), some (aR (10000 + a1)), some (aI x2), some (aI x3)] [] := by
      intro nn
      induction nn with
      | zero => intro x2 x3 hn; exact absurd hn (Nat.not_lt_zero _)
      | succ nn ih2 =>
        intro x2 x3 hn2 hi
        have h := hB2 x2 x3 hi
        refine r_iload_n (pc := 24) hC 2 dX10_isWord_24 rfl rfl ?_
        refine r_if_eq (pc := 25) (tgt := 67) hC dX10_isWord_25 rfl (fun hc3 => ?_) (fun hc3 => ?_)
        · have h := h.1 hc3
          refine r_iload_n (pc := 67) hC 2 dX10_isWord_67 rfl rfl ?_
          exact r_reti (pc := 68) (kd := 1) hC hQ dX10_isWord_68 hr hk (by decide) (Or.inr h.1) ⟨rfl, h.2⟩
        have h := h.2 hc3
        refine r_iload_n (pc := 28) hC 3 dX10_isWord_28 rfl rfl ?_
        refine r_aload_n (pc := 29) hC 1 dX10_isWord_29 rfl rfl ?_
        refine r_slen (pc := 30) hC dX10_isWord_30 ml_RX10_239 h.1 ⟨Nat.le_of_ble_eq_true rfl, Nat.le_of_ble_eq_true rfl⟩ ⟨Nat.le_of_ble_eq_true rfl, Nat.le_of_ble_eq_true rfl⟩ (Nat.le_of_ble_eq_true rfl) ?_
        have h := h.2
        refine r_ic_ge (pc := 33) (tgt := 67) hC dX10_isWord_33 rfl (fun hc2 => ?_) (fun hc2 => ?_)
        · have h := h.1 hc2
          refine r_iload_n (pc := 67) hC 2 dX10_isWord_67 rfl rfl ?_
          exact r_reti (pc := 68) (kd := 1) hC hQ dX10_isWord_68 hr hk (by decide) (Or.inr h.1) ⟨rfl, h.2⟩
        have h := h.2 hc2
        refine r_aload_n (pc := 36) hC 0 dX10_isWord_36 rfl rfl ?_
        refine r_getr (r := 1) (pc := 37) hC dX10_isWord_37 fl_RX10_9 lM_0 rfl ?_
        refine r_aload_n (pc := 40) hC 0 dX10_isWord_40 rfl rfl ?_
        refine r_get (kd := 0) (v := (w.1 0 32)) (pc := 41) hC dX10_isWord_41 fl_RX10_233 lM_0 rfl rfl ?_
        refine r_iload_n (pc := 44) hC 3 dX10_isWord_44 rfl rfl ?_
        refine r_iadd (pc := 45) hC dX10_isWord_45 h.1 ?_
        have h := h.2
        refine r_bald (v := ((w.1 1) (Int.toNat ((w.1 0 32) + x3)))) (pc := 46) hC dX10_isWord_46 lM_1 h.1.1 h.1.2 rfl ?_
        have h := h.2
        refine r_aload_n (pc := 47) hC 1 dX10_isWord_47 rfl rfl ?_
        refine r_iload_n (pc := 48) hC 3 dX10_isWord_48 rfl rfl ?_
        refine r_sat (pc := 49) hC dX10_isWord_49 ml_RX10_244 h.1.1 h.1.2.1 h.1.2.2 ⟨Nat.le_of_ble_eq_true rfl, Nat.le_of_ble_eq_true rfl⟩ ⟨Nat.le_of_ble_eq_true rfl, Nat.le_of_ble_eq_true rfl⟩ (Nat.le_of_ble_eq_true rfl) ?_
        have h := h.2
        obtain ⟨J3, hJ3, h⟩ := h
        have S3 : ∀ (y4 : Int), J3 y4 → Wd p l e (rmD 4) s m args below meth c Q 0 0 4 D cA ad A LM w 60 [some (aR 0), some (aR (10000 + a1)), none, some (aI x3)] [aI y4] := by
          intro y4 hj
          have h := hJ3 y4 hj
          refine r_istore_n (ls2 := [some (aR 0), some (aR (10000 + a1)), some (aI y4), some (aI x3)]) (pc := 60) hC 2 dX10_isWord_60 rfl (by decide) rfl rfl ?_
          refine r_iinc (ls2 := [some (aR 0), some (aR (10000 + a1)), some (aI y4), some (aI (x3 + 1))]) (pc := 61) hC dX10_isWord_61 rfl (by decide) rfl h.1 rfl ?_
          have h := h.2
          refine r_goto (tgt := 24) (pc := 64) hC dX10_isWord_64 rfl ?_
          exact r_to [true, true, true, true] rfl rfl (ih2 y4 (x3 + 1) (Nat.lt_of_lt_of_le h.2 (Nat.le_of_lt_succ hn2)) h.1)
        refine r_ic_ne (pc := 52) (tgt := 59) hC dX10_isWord_52 rfl (fun hc1 => ?_) (fun hc1 => ?_)
        · have h := h.1 hc1
          refine r_iconst (pc := 59) hC dX10_isWord_59 (rng_lit rfl) ?_
          exact r_to [true, true, false, true] rfl rfl (S3 0 h)
        have h := h.2 hc1
        refine r_iconst (pc := 55) hC dX10_isWord_55 (rng_lit rfl) ?_
        refine r_goto (tgt := 60) (pc := 56) hC dX10_isWord_56 rfl ?_
        exact r_to [true, true, false, true] rfl rfl (S3 1 h)
    exact r_to [true, true, true, true] rfl rfl (S2 _ y1 0 (Nat.lt_succ_self _) hI2)
  refine r_ic_ne (pc := 13) (tgt := 20) hC dX10_isWord_13 rfl (fun hc4 => ?_) (fun hc4 => ?_)
  · have h := h.1 hc4
    refine r_iconst (pc := 20) hC dX10_isWord_20 (rng_lit rfl) ?_
    exact r_to [true, true, false, false] rfl rfl (S1 0 h)
  have h := h.2 hc4
  refine r_iconst (pc := 16) hC dX10_isWord_16 (rng_lit rfl) ?_
  refine r_goto (tgt := 21) (pc := 17) hC dX10_isWord_17 rfl ?_
  exact r_to [true, true, false, false] rfl rfl (S1 1 h)
def wp_M_readsWeight (m_tape : (Nat → Int)) (m_newWeight : (Nat → Int)) (m_newItems : Int) (m_point : Int) (m_begin : Int) (m_end : Int) (Q : Int → (Nat → Int) → Int → Int → Prop) : Prop := wp_M_blanks m_tape m_point m_begin m_end (fun (m_point_1 : Int) (m_begin_2 : Int) => lpw2 (fun (m_point_3 : Int) (x4 : Int) (k1 : Int → Int → Prop) => wp_M_isAt m_tape m_point_3 m_end 48 57 (fun (r5 : Int) => (r5 = 0 → (0 ≤ m_newItems ∧ m_newItems < 8) ∧ ((rng (m_point_3 - m_begin_2)) ∧ ((¬ (m_point_3 - m_begin_2) = 1 → Q 0 (uI m_newWeight m_newItems x4) m_point_3 m_begin_2) ∧ ((m_point_3 - m_begin_2) = 1 → (x4 ≤ 0 → Q 0 (uI m_newWeight m_newItems x4) m_point_3 m_begin_2) ∧ (¬ x4 ≤ 0 → Q 1 (uI m_newWeight m_newItems x4) m_point_3 m_begin_2))))) ∧ (¬ r5 = 0 → (0 ≤ m_point_3 ∧ m_point_3 < 600) ∧ ((rng ((m_tape (Int.toNat m_point_3)) - 48)) ∧ ((rng (m_point_3 + 1)) ∧ (k1 (m_point_3 + 1) ((m_tape (Int.toNat m_point_3)) - 48))))))) m_point_1 0)
set_option maxHeartbeats 4000000 in
set_option maxRecDepth 20000 in
theorem s_M_readsWeight (l : Launch) (w : St) (P : Int → (Nat → Int) → Int → Int → Prop) (h : wp_M_readsWeight (w.1 1) (w.1 18) (w.1 0 30) (w.1 0 31) (w.1 0 32) (w.1 0 33) P) : Cn l yX10_readsWeight cX10_readsWeight 2 (some .boolean) 2 LM w [aR 0] (okI (fun r w1 => ∃ (o0 : (Nat → Int)) (o1 : Int) (o2 : Int), w1 = (wI (wI (wA w 18 o0) 0 31 o1) 0 32 o2) ∧ P r o0 o1 o2)) := by
  unfold wp_M_readsWeight at h
  refine Cn.of2 [some (aR 0), none] (by decide) (Nat.le_of_ble_eq_true rfl) rfl (fun p e s m args below meth c D cA ad A Q hQ hC hr hk => ?_)
  refine r_aload_n (pc := 0) hC 0 dX10_readsWeight_0 rfl rfl ?_
  refine r_callVv (pc := 1) hC [] [] dX10_readsWeight_1 ml_RX10_236 my_X10_blanks mi_X10_blanks lM_0 rfl rfl ⟨Nat.le_of_ble_eq_true rfl, Nat.le_of_ble_eq_true rfl⟩ ⟨Nat.le_of_ble_eq_true rfl, Nat.le_of_ble_eq_true rfl⟩ (Nat.le_of_ble_eq_true rfl) rfl (s_M_blanks l _ _ h) (fun w1 hq => ?_)
  obtain ⟨m_point_1, m_begin_2, e9, h⟩ := hq
  rw [e9]
  refine r_iconst (pc := 4) hC dX10_readsWeight_4 (rng_lit rfl) ?_
  refine r_istore_n (ls2 := [some (aR 0), some (aI 0)]) (pc := 5) hC 1 dX10_readsWeight_5 rfl (by decide) rfl rfl ?_
  obtain ⟨I1, μ1, hI1, hB1⟩ := h
  have S1 : ∀ (nn : Nat) (m_point_3 : Int) (x4 : Int), μ1 m_point_3 x4 < nn → I1 m_point_3 x4 → Wd p l e (rmD 2) s m args below meth c Q 0 0 2 D cA ad A LM (wI (wI w 0 31 m_point_3) 0 32 m_begin_2) 6 [some (aR 0), some (aI x4)] [] := by
    intro nn
    induction nn with
    | zero => intro m_point_3 x4 hn; exact absurd hn (Nat.not_lt_zero _)
    | succ nn ih1 =>
      intro m_point_3 x4 hn1 hi
      have h := hB1 m_point_3 x4 hi
      refine r_aload_n (pc := 6) hC 0 dX10_readsWeight_6 rfl rfl ?_
      refine r_bipush (pc := 7) hC dX10_readsWeight_7 ⟨rfl, rng_lit rfl⟩ ?_
      refine r_bipush (pc := 9) hC dX10_readsWeight_9 ⟨rfl, rng_lit rfl⟩ ?_
      refine r_callVi (pc := 11) hC [aI 48, aI 57] [] dX10_readsWeight_11 ml_RX10_230 my_X10_isAt mi_X10_isAt lM_0 rfl rfl ⟨Nat.le_of_ble_eq_true rfl, Nat.le_of_ble_eq_true rfl⟩ ⟨Nat.le_of_ble_eq_true rfl, Nat.le_of_ble_eq_true rfl⟩ (Nat.le_of_ble_eq_true rfl) rfl (s_M_isAt l _ _ _ _ h) (fun r5 w1 hq => ?_)
      obtain ⟨e9, h⟩ := hq
      rw [e9]
      refine r_if_eq (pc := 14) (tgt := 43) hC dX10_readsWeight_14 rfl (fun hc3 => ?_) (fun hc3 => ?_)
      · have h := h.1 hc3
        refine r_aload_n (pc := 43) hC 0 dX10_readsWeight_43 rfl rfl ?_
        refine r_getr (r := 18) (pc := 44) hC dX10_readsWeight_44 fl_RX10_63 lM_0 rfl ?_
        refine r_aload_n (pc := 47) hC 0 dX10_readsWeight_47 rfl rfl ?_
        refine r_get (kd := 0) (v := (w.1 0 30)) (pc := 48) hC dX10_readsWeight_48 fl_RX10_248 lM_0 rfl rfl ?_
        refine r_iload_n (pc := 51) hC 1 dX10_readsWeight_51 rfl rfl ?_
        refine r_iast (pc := 52) hC dX10_readsWeight_52 lM_18 h.1.1 h.1.2 ?_
        have h := h.2
        refine r_aload_n (pc := 53) hC 0 dX10_readsWeight_53 rfl rfl ?_
        refine r_get (kd := 0) (v := m_point_3) (pc := 54) hC dX10_readsWeight_54 fl_RX10_224 lM_0 rfl rfl ?_
        refine r_aload_n (pc := 57) hC 0 dX10_readsWeight_57 rfl rfl ?_
        refine r_get (kd := 0) (v := m_begin_2) (pc := 58) hC dX10_readsWeight_58 fl_RX10_233 lM_0 rfl rfl ?_
        refine r_isub (pc := 61) hC dX10_readsWeight_61 h.1 ?_
        have h := h.2
        refine r_iconst (pc := 62) hC dX10_readsWeight_62 (rng_lit rfl) ?_
        refine r_ic_ne (pc := 63) (tgt := 74) hC dX10_readsWeight_63 rfl (fun hc2 => ?_) (fun hc2 => ?_)
        · have h := h.1 hc2
          refine r_iconst (pc := 74) hC dX10_readsWeight_74 (rng_lit rfl) ?_
          refine r_conv (w2 := (wI (wI (wA w 18 (uI (w.1 18) (w.1 0 30) x4)) 0 31 m_point_3) 0 32 m_begin_2)) rfl ?_
          exact r_reti (pc := 75) (kd := 1) hC hQ dX10_readsWeight_75 hr hk (by decide) (Or.inr okK1_0) ⟨(uI (w.1 18) (w.1 0 30) x4), m_point_3, m_begin_2, rfl, h⟩
        have h := h.2 hc2
        refine r_iload_n (pc := 66) hC 1 dX10_readsWeight_66 rfl rfl ?_
        refine r_if_le (pc := 67) (tgt := 74) hC dX10_readsWeight_67 rfl (fun hc1 => ?_) (fun hc1 => ?_)
        · have h := h.1 hc1
          refine r_iconst (pc := 74) hC dX10_readsWeight_74 (rng_lit rfl) ?_
          refine r_conv (w2 := (wI (wI (wA w 18 (uI (w.1 18) (w.1 0 30) x4)) 0 31 m_point_3) 0 32 m_begin_2)) rfl ?_
          exact r_reti (pc := 75) (kd := 1) hC hQ dX10_readsWeight_75 hr hk (by decide) (Or.inr okK1_0) ⟨(uI (w.1 18) (w.1 0 30) x4), m_point_3, m_begin_2, rfl, h⟩
        have h := h.2 hc1
        refine r_iconst (pc := 70) hC dX10_readsWeight_70 (rng_lit rfl) ?_
        refine r_goto (tgt := 75) (pc := 71) hC dX10_readsWeight_71 rfl ?_
        refine r_conv (w2 := (wI (wI (wA w 18 (uI (w.1 18) (w.1 0 30) x4)) 0 31 m_point_3) 0 32 m_begin_2)) rfl ?_
        exact r_reti (pc := 75) (kd := 1) hC hQ dX10_readsWeight_75 hr hk (by decide) (Or.inr okK1_1) ⟨(uI (w.1 18) (w.1 0 30) x4), m_point_3, m_begin_2, rfl, h⟩
      have h := h.2 hc3
      refine r_aload_n (pc := 17) hC 0 dX10_readsWeight_17 rfl rfl ?_
      refine r_getr (r := 1) (pc := 18) hC dX10_readsWeight_18 fl_RX10_9 lM_0 rfl ?_
      refine r_aload_n (pc := 21) hC 0 dX10_readsWeight_21 rfl rfl ?_
      refine r_get (kd := 0) (v := m_point_3) (pc := 22) hC dX10_readsWeight_22 fl_RX10_224 lM_0 rfl rfl ?_
      refine r_bald (v := ((w.1 1) (Int.toNat m_point_3))) (pc := 25) hC dX10_readsWeight_25 lM_1 h.1.1 h.1.2 rfl ?_
      have h := h.2
      refine r_bipush (pc := 26) hC dX10_readsWeight_26 ⟨rfl, rng_lit rfl⟩ ?_
      refine r_isub (pc := 28) hC dX10_readsWeight_28 h.1 ?_
      have h := h.2
      refine r_istore_n (ls2 := [some (aR 0), some (aI (((w.1 1) (Int.toNat m_point_3)) - 48))]) (pc := 29) hC 1 dX10_readsWeight_29 rfl (by decide) rfl rfl ?_
      refine r_aload_n (pc := 30) hC 0 dX10_readsWeight_30 rfl rfl ?_
      refine r_dup (pc := 31) hC dX10_readsWeight_31 rfl ?_
      refine r_get (kd := 0) (v := m_point_3) (pc := 32) hC dX10_readsWeight_32 fl_RX10_224 lM_0 rfl rfl ?_
      refine r_iconst (pc := 35) hC dX10_readsWeight_35 (rng_lit rfl) ?_
      refine r_iadd (pc := 36) hC dX10_readsWeight_36 h.1 ?_
      have h := h.2
      refine r_put (kd := 0) (pc := 37) hC dX10_readsWeight_37 pl_RX10_224 lM_0 rfl (by decide) (Or.inl rfl) ?_
      refine r_goto (tgt := 6) (pc := 40) hC dX10_readsWeight_40 rfl ?_
      exact r_to [true, true] rfl rfl (ih1 (m_point_3 + 1) (((w.1 1) (Int.toNat m_point_3)) - 48) (Nat.lt_of_lt_of_le h.2 (Nat.le_of_lt_succ hn1)) h.1)
  exact r_to [true, true] rfl rfl (S1 _ m_point_1 0 (Nat.lt_succ_self _) hI1)
def wp_M_keepsTerm (m_tape : (Nat → Int)) (m_newTerms : (Nat → Int)) (m_newTermMany : (Nat → Int)) (m_newStar : (Nat → Int)) (m_newTerm : (Nat → Int)) (m_newItems : Int) (m_point : Int) (m_begin : Int) (m_end : Int) (Q : Int → (Nat → Int) → (Nat → Int) → (Nat → Int) → (Nat → Int) → Int → Prop) : Prop := (rng (m_point - m_begin)) ∧ (wp_M_in (m_point - m_begin) 1 12 (fun (r1 : Int) => (r1 = 0 → Q 0 m_newTerms m_newTermMany m_newStar m_newTerm m_point) ∧ (¬ r1 = 0 → (0 ≤ m_newItems ∧ m_newItems < 8) ∧ ((¬ (m_newTerms (Int.toNat m_newItems)) = 4 → (rng (4 * m_newItems)) ∧ ((0 ≤ m_newItems ∧ m_newItems < 8) ∧ ((rng ((4 * m_newItems) + (m_newTerms (Int.toNat m_newItems)))) ∧ ((0 ≤ ((4 * m_newItems) + (m_newTerms (Int.toNat m_newItems))) ∧ ((4 * m_newItems) + (m_newTerms (Int.toNat m_newItems))) < 32) ∧ (lpw2 (fun (m_newTerm_2 : (Nat → Int)) (x3 : Int) (k1 : (Nat → Int) → Int → Prop) => ((m_point - m_begin) ≤ x3 → wp_M_isAt m_tape m_point m_end 42 42 (fun (r4 : Int) => ((0 ≤ ((4 * m_newItems) + (m_newTerms (Int.toNat m_newItems))) ∧ ((4 * m_newItems) + (m_newTerms (Int.toNat m_newItems))) < 32) ∧ 0 ≤ r4 ∧ r4 ≤ 1) ∧ ((0 ≤ ((4 * m_newItems) + (m_newTerms (Int.toNat m_newItems))) ∧ ((4 * m_newItems) + (m_newTerms (Int.toNat m_newItems))) < 32) ∧ (jn1 (fun (J2 : Int → Prop) => (((uI m_newStar ((4 * m_newItems) + (m_newTerms (Int.toNat m_newItems))) r4) (Int.toNat ((4 * m_newItems) + (m_newTerms (Int.toNat m_newItems))))) = 0 → J2 0) ∧ (¬ ((uI m_newStar ((4 * m_newItems) + (m_newTerms (Int.toNat m_newItems))) r4) (Int.toNat ((4 * m_newItems) + (m_newTerms (Int.toNat m_newItems))))) = 0 → J2 1)) (fun (y5 : Int) => (rng (m_point + y5)) ∧ ((0 ≤ m_newItems ∧ m_newItems < 8) ∧ ((rng ((m_newTerms (Int.toNat m_newItems)) + 1)) ∧ ((0 ≤ m_newItems ∧ m_newItems < 8) ∧ (Q 1 (uI m_newTerms m_newItems ((m_newTerms (Int.toNat m_newItems)) + 1)) (uI m_newTermMany ((4 * m_newItems) + (m_newTerms (Int.toNat m_newItems))) (m_point - m_begin)) (uI m_newStar ((4 * m_newItems) + (m_newTerms (Int.toNat m_newItems))) r4) m_newTerm_2 (m_point + y5)))))))))) ∧ (¬ (m_point - m_begin) ≤ x3 → (rng (12 * ((4 * m_newItems) + (m_newTerms (Int.toNat m_newItems))))) ∧ ((rng ((12 * ((4 * m_newItems) + (m_newTerms (Int.toNat m_newItems)))) + x3)) ∧ ((rng (m_begin + x3)) ∧ ((0 ≤ (m_begin + x3) ∧ (m_begin + x3) < 600) ∧ (((0 ≤ ((12 * ((4 * m_newItems) + (m_newTerms (Int.toNat m_newItems)))) + x3) ∧ ((12 * ((4 * m_newItems) + (m_newTerms (Int.toNat m_newItems)))) + x3) < 384) ∧ -128 ≤ (m_tape (Int.toNat (m_begin + x3))) ∧ (m_tape (Int.toNat (m_begin + x3))) < 128) ∧ ((rng (x3 + 1)) ∧ (k1 (uI m_newTerm_2 ((12 * ((4 * m_newItems) + (m_newTerms (Int.toNat m_newItems)))) + x3) (m_tape (Int.toNat (m_begin + x3)))) (x3 + 1))))))))) m_newTerm 0))))) ∧ ((m_newTerms (Int.toNat m_newItems)) = 4 → Q 0 m_newTerms m_newTermMany m_newStar m_newTerm m_point)))))
set_option maxHeartbeats 4000000 in
set_option maxRecDepth 20000 in
theorem s_M_keepsTerm (l : Launch) (w : St) (P : Int → (Nat → Int) → (Nat → Int) → (Nat → Int) → (Nat → Int) → Int → Prop) (h : wp_M_keepsTerm (w.1 1) (w.1 19) (w.1 20) (w.1 22) (w.1 23) (w.1 0 30) (w.1 0 31) (w.1 0 32) (w.1 0 33) P) : Cn l yX10_keepsTerm cX10_keepsTerm 4 (some .boolean) 1 LM w [aR 0] (okI (fun r w1 => ∃ (o0 : (Nat → Int)) (o1 : (Nat → Int)) (o2 : (Nat → Int)) (o3 : (Nat → Int)) (o4 : Int), w1 = (wI (wA (wA (wA (wA w 19 o0) 20 o1) 22 o2) 23 o3) 0 31 o4) ∧ P r o0 o1 o2 o3 o4)) := by
  unfold wp_M_keepsTerm at h
  refine Cn.of2 [some (aR 0), none, none, none] (by decide) (Nat.le_of_ble_eq_true rfl) rfl (fun p e s m args below meth c D cA ad A Q hQ hC hr hk => ?_)
  refine r_aload_n (pc := 0) hC 0 dX10_keepsTerm_0 rfl rfl ?_
  refine r_get (kd := 0) (v := (w.1 0 31)) (pc := 1) hC dX10_keepsTerm_1 fl_RX10_224 lM_0 rfl rfl ?_
  refine r_aload_n (pc := 4) hC 0 dX10_keepsTerm_4 rfl rfl ?_
  refine r_get (kd := 0) (v := (w.1 0 32)) (pc := 5) hC dX10_keepsTerm_5 fl_RX10_233 lM_0 rfl rfl ?_
  refine r_isub (pc := 8) hC dX10_keepsTerm_8 h.1 ?_
  have h := h.2
  refine r_istore_n (ls2 := [some (aR 0), some (aI ((w.1 0 31) - (w.1 0 32))), none, none]) (pc := 9) hC 1 dX10_keepsTerm_9 rfl (by decide) rfl rfl ?_
  refine r_iload_n (pc := 10) hC 1 dX10_keepsTerm_10 rfl rfl ?_
  refine r_iconst (pc := 11) hC dX10_keepsTerm_11 (rng_lit rfl) ?_
  refine r_bipush (pc := 12) hC dX10_keepsTerm_12 ⟨rfl, rng_lit rfl⟩ ?_
  refine r_callSi (pc := 14) hC [aI ((w.1 0 31) - (w.1 0 32)), aI 1, aI 12] [] dX10_keepsTerm_14 ml_RX10_151 my_X10_in ms_X10_in rfl ⟨Nat.le_of_ble_eq_true rfl, Nat.le_of_ble_eq_true rfl⟩ ⟨Nat.le_of_ble_eq_true rfl, Nat.le_of_ble_eq_true rfl⟩ (Nat.le_of_ble_eq_true rfl) rfl (s_M_in l _ _ _ _ _ h) (fun r1 w1 hq => ?_)
  obtain ⟨e9, h⟩ := hq
  rw [e9]
  refine r_if_eq (pc := 17) (tgt := 33) hC dX10_keepsTerm_17 rfl (fun hc4 => ?_) (fun hc4 => ?_)
  · have h := h.1 hc4
    refine r_iconst (pc := 33) hC dX10_keepsTerm_33 (rng_lit rfl) ?_
    refine r_conv (w2 := (wI (wA (wA (wA (wA w 19 (w.1 19)) 20 (w.1 20)) 22 (w.1 22)) 23 (w.1 23)) 0 31 (w.1 0 31))) rfl ?_
    exact r_reti (pc := 34) (kd := 1) hC hQ dX10_keepsTerm_34 hr hk (by decide) (Or.inr okK1_0) ⟨(w.1 19), (w.1 20), (w.1 22), (w.1 23), (w.1 0 31), rfl, h⟩
  have h := h.2 hc4
  refine r_aload_n (pc := 20) hC 0 dX10_keepsTerm_20 rfl rfl ?_
  refine r_getr (r := 19) (pc := 21) hC dX10_keepsTerm_21 fl_RX10_66 lM_0 rfl ?_
  refine r_aload_n (pc := 24) hC 0 dX10_keepsTerm_24 rfl rfl ?_
  refine r_get (kd := 0) (v := (w.1 0 30)) (pc := 25) hC dX10_keepsTerm_25 fl_RX10_248 lM_0 rfl rfl ?_
  refine r_iald (v := ((w.1 19) (Int.toNat (w.1 0 30)))) (pc := 28) hC dX10_keepsTerm_28 lM_19 h.1.1 h.1.2 rfl ?_
  have h := h.2
  refine r_iconst (pc := 29) hC dX10_keepsTerm_29 (rng_lit rfl) ?_
  refine r_ic_ne (pc := 30) (tgt := 35) hC dX10_keepsTerm_30 rfl (fun hc3 => ?_) (fun hc3 => ?_)
  · have h := h.1 hc3
    refine r_iconst (pc := 35) hC dX10_keepsTerm_35 (rng_lit rfl) ?_
    refine r_aload_n (pc := 36) hC 0 dX10_keepsTerm_36 rfl rfl ?_
    refine r_get (kd := 0) (v := (w.1 0 30)) (pc := 37) hC dX10_keepsTerm_37 fl_RX10_248 lM_0 rfl rfl ?_
    refine r_imul (pc := 40) hC dX10_keepsTerm_40 h.1 ?_
    have h := h.2
    refine r_aload_n (pc := 41) hC 0 dX10_keepsTerm_41 rfl rfl ?_
    refine r_getr (r := 19) (pc := 42) hC dX10_keepsTerm_42 fl_RX10_66 lM_0 rfl ?_
    refine r_aload_n (pc := 45) hC 0 dX10_keepsTerm_45 rfl rfl ?_
    refine r_get (kd := 0) (v := (w.1 0 30)) (pc := 46) hC dX10_keepsTerm_46 fl_RX10_248 lM_0 rfl rfl ?_
    refine r_iald (v := ((w.1 19) (Int.toNat (w.1 0 30)))) (pc := 49) hC dX10_keepsTerm_49 lM_19 h.1.1 h.1.2 rfl ?_
    have h := h.2
    refine r_iadd (pc := 50) hC dX10_keepsTerm_50 h.1 ?_
    have h := h.2
    refine r_istore_n (ls2 := [some (aR 0), some (aI ((w.1 0 31) - (w.1 0 32))), some (aI ((4 * (w.1 0 30)) + ((w.1 19) (Int.toNat (w.1 0 30))))), none]) (pc := 51) hC 2 dX10_keepsTerm_51 rfl (by decide) rfl rfl ?_
    refine r_aload_n (pc := 52) hC 0 dX10_keepsTerm_52 rfl rfl ?_
    refine r_getr (r := 20) (pc := 53) hC dX10_keepsTerm_53 fl_RX10_69 lM_0 rfl ?_
    refine r_iload_n (pc := 56) hC 2 dX10_keepsTerm_56 rfl rfl ?_
    refine r_iload_n (pc := 57) hC 1 dX10_keepsTerm_57 rfl rfl ?_
    refine r_iast (pc := 58) hC dX10_keepsTerm_58 lM_20 h.1.1 h.1.2 ?_
    have h := h.2
    refine r_iconst (pc := 59) hC dX10_keepsTerm_59 (rng_lit rfl) ?_
    refine r_istore_n (ls2 := [some (aR 0), some (aI ((w.1 0 31) - (w.1 0 32))), some (aI ((4 * (w.1 0 30)) + ((w.1 19) (Int.toNat (w.1 0 30))))), some (aI 0)]) (pc := 60) hC 3 dX10_keepsTerm_60 rfl (by decide) rfl rfl ?_
    obtain ⟨I1, μ1, hI1, hB1⟩ := h
    have S1 : ∀ (nn : Nat) (m_newTerm_2 : (Nat → Int)) (x3 : Int), μ1 m_newTerm_2 x3 < nn → I1 m_newTerm_2 x3 → Wd p l e (rmD 1) s m args below meth c Q 0 0 4 D cA ad A LM (wA (wA w 20 (uI (w.1 20) ((4 * (w.1 0 30)) + ((w.1 19) (Int.toNat (w.1 0 30)))) ((w.1 0 31) - (w.1 0 32)))) 23 m_newTerm_2) 61 [some (aR 0), some (aI ((w.1 0 31) - (w.1 0 32))), some (aI ((4 * (w.1 0 30)) + ((w.1 19) (Int.toNat (w.1 0 30))))), some (aI x3)] [] := by
      intro nn
      induction nn with
      | zero => intro m_newTerm_2 x3 hn; exact absurd hn (Nat.not_lt_zero _)
      | succ nn ih1 =>
        intro m_newTerm_2 x3 hn1 hi
        have h := hB1 m_newTerm_2 x3 hi
        refine r_iload_n (pc := 61) hC 3 dX10_keepsTerm_61 rfl rfl ?_
        refine r_iload_n (pc := 62) hC 1 dX10_keepsTerm_62 rfl rfl ?_
        refine r_ic_ge (pc := 63) (tgt := 94) hC dX10_keepsTerm_63 rfl (fun hc2 => ?_) (fun hc2 => ?_)
        · have h := h.1 hc2
          refine r_aload_n (pc := 94) hC 0 dX10_keepsTerm_94 rfl rfl ?_
          refine r_getr (r := 22) (pc := 95) hC dX10_keepsTerm_95 fl_RX10_75 lM_0 rfl ?_
          refine r_iload_n (pc := 98) hC 2 dX10_keepsTerm_98 rfl rfl ?_
          refine r_aload_n (pc := 99) hC 0 dX10_keepsTerm_99 rfl rfl ?_
          refine r_bipush (pc := 100) hC dX10_keepsTerm_100 ⟨rfl, rng_lit rfl⟩ ?_
          refine r_bipush (pc := 102) hC dX10_keepsTerm_102 ⟨rfl, rng_lit rfl⟩ ?_
          refine r_callVi (pc := 104) hC [aI 42, aI 42] [aI ((4 * (w.1 0 30)) + ((w.1 19) (Int.toNat (w.1 0 30)))), aR 22] dX10_keepsTerm_104 ml_RX10_230 my_X10_isAt mi_X10_isAt lM_0 rfl rfl ⟨Nat.le_of_ble_eq_true rfl, Nat.le_of_ble_eq_true rfl⟩ ⟨Nat.le_of_ble_eq_true rfl, Nat.le_of_ble_eq_true rfl⟩ (Nat.le_of_ble_eq_true rfl) rfl (s_M_isAt l _ _ _ _ h) (fun r4 w1 hq => ?_)
          obtain ⟨e9, h⟩ := hq
          rw [e9]
          refine r_zast (pc := 107) hC dX10_keepsTerm_107 lM_22 h.1.1.1 h.1.1.2 h.1.2 ?_
          have h := h.2
          refine r_aload_n (pc := 108) hC 0 dX10_keepsTerm_108 rfl rfl ?_
          refine r_dup (pc := 109) hC dX10_keepsTerm_109 rfl ?_
          refine r_get (kd := 0) (v := (w.1 0 31)) (pc := 110) hC dX10_keepsTerm_110 fl_RX10_224 lM_0 rfl rfl ?_
          refine r_aload_n (pc := 113) hC 0 dX10_keepsTerm_113 rfl rfl ?_
          refine r_getr (r := 22) (pc := 114) hC dX10_keepsTerm_114 fl_RX10_75 lM_0 rfl ?_
          refine r_iload_n (pc := 117) hC 2 dX10_keepsTerm_117 rfl rfl ?_
          refine r_zald (v := ((uI (w.1 22) ((4 * (w.1 0 30)) + ((w.1 19) (Int.toNat (w.1 0 30)))) r4) (Int.toNat ((4 * (w.1 0 30)) + ((w.1 19) (Int.toNat (w.1 0 30))))))) (pc := 118) hC dX10_keepsTerm_118 lM_22 h.1.1 h.1.2 rfl ?_
          have h := h.2
          obtain ⟨J2, hJ2, h⟩ := h
          have S2 : ∀ (y5 : Int), J2 y5 → Wd p l e (rmD 1) s m args below meth c Q 0 0 4 D cA ad A LM (wA (wA (wA w 20 (uI (w.1 20) ((4 * (w.1 0 30)) + ((w.1 19) (Int.toNat (w.1 0 30)))) ((w.1 0 31) - (w.1 0 32)))) 22 (uI (w.1 22) ((4 * (w.1 0 30)) + ((w.1 19) (Int.toNat (w.1 0 30)))) r4)) 23 m_newTerm_2) 127 [some (aR 0), none, none, none] [aI y5, aI (w.1 0 31), aR 0] := by
            intro y5 hj
            have h := hJ2 y5 hj
            refine r_iadd (pc := 127) hC dX10_keepsTerm_127 h.1 ?_
            have h := h.2
            refine r_put (kd := 0) (pc := 128) hC dX10_keepsTerm_128 pl_RX10_224 lM_0 rfl (by decide) (Or.inl rfl) ?_
            refine r_aload_n (pc := 131) hC 0 dX10_keepsTerm_131 rfl rfl ?_
            refine r_getr (r := 19) (pc := 132) hC dX10_keepsTerm_132 fl_RX10_66 lM_0 rfl ?_
            refine r_aload_n (pc := 135) hC 0 dX10_keepsTerm_135 rfl rfl ?_
            refine r_get (kd := 0) (v := (w.1 0 30)) (pc := 136) hC dX10_keepsTerm_136 fl_RX10_248 lM_0 rfl rfl ?_
            refine r_dup2 (pc := 139) hC dX10_keepsTerm_139 rfl rfl ?_
            refine r_iald (v := ((w.1 19) (Int.toNat (w.1 0 30)))) (pc := 140) hC dX10_keepsTerm_140 lM_19 h.1.1 h.1.2 rfl ?_
            have h := h.2
            refine r_iconst (pc := 141) hC dX10_keepsTerm_141 (rng_lit rfl) ?_
            refine r_iadd (pc := 142) hC dX10_keepsTerm_142 h.1 ?_
            have h := h.2
            refine r_iast (pc := 143) hC dX10_keepsTerm_143 lM_19 h.1.1 h.1.2 ?_
            have h := h.2
            refine r_iconst (pc := 144) hC dX10_keepsTerm_144 (rng_lit rfl) ?_
            refine r_conv (w2 := (wI (wA (wA (wA (wA w 19 (uI (w.1 19) (w.1 0 30) (((w.1 19) (Int.toNat (w.1 0 30))) + 1))) 20 (uI (w.1 20) ((4 * (w.1 0 30)) + ((w.1 19) (Int.toNat (w.1 0 30)))) ((w.1 0 31) - (w.1 0 32)))) 22 (uI (w.1 22) ((4 * (w.1 0 30)) + ((w.1 19) (Int.toNat (w.1 0 30)))) r4)) 23 m_newTerm_2) 0 31 ((w.1 0 31) + y5))) rfl ?_
            exact r_reti (pc := 145) (kd := 1) hC hQ dX10_keepsTerm_145 hr hk (by decide) (Or.inr okK1_1) ⟨(uI (w.1 19) (w.1 0 30) (((w.1 19) (Int.toNat (w.1 0 30))) + 1)), (uI (w.1 20) ((4 * (w.1 0 30)) + ((w.1 19) (Int.toNat (w.1 0 30)))) ((w.1 0 31) - (w.1 0 32))), (uI (w.1 22) ((4 * (w.1 0 30)) + ((w.1 19) (Int.toNat (w.1 0 30)))) r4), m_newTerm_2, ((w.1 0 31) + y5), rfl, h⟩
          refine r_if_eq (pc := 119) (tgt := 126) hC dX10_keepsTerm_119 rfl (fun hc1 => ?_) (fun hc1 => ?_)
          · have h := h.1 hc1
            refine r_iconst (pc := 126) hC dX10_keepsTerm_126 (rng_lit rfl) ?_
            exact r_to [true, false, false, false] rfl rfl (S2 0 h)
          have h := h.2 hc1
          refine r_iconst (pc := 122) hC dX10_keepsTerm_122 (rng_lit rfl) ?_
          refine r_goto (tgt := 127) (pc := 123) hC dX10_keepsTerm_123 rfl ?_
          exact r_to [true, false, false, false] rfl rfl (S2 1 h)
        have h := h.2 hc2
        refine r_aload_n (pc := 66) hC 0 dX10_keepsTerm_66 rfl rfl ?_
        refine r_getr (r := 23) (pc := 67) hC dX10_keepsTerm_67 fl_RX10_78 lM_0 rfl ?_
        refine r_bipush (pc := 70) hC dX10_keepsTerm_70 ⟨rfl, rng_lit rfl⟩ ?_
        refine r_iload_n (pc := 72) hC 2 dX10_keepsTerm_72 rfl rfl ?_
        refine r_imul (pc := 73) hC dX10_keepsTerm_73 h.1 ?_
        have h := h.2
        refine r_iload_n (pc := 74) hC 3 dX10_keepsTerm_74 rfl rfl ?_
        refine r_iadd (pc := 75) hC dX10_keepsTerm_75 h.1 ?_
        have h := h.2
        refine r_aload_n (pc := 76) hC 0 dX10_keepsTerm_76 rfl rfl ?_
        refine r_getr (r := 1) (pc := 77) hC dX10_keepsTerm_77 fl_RX10_9 lM_0 rfl ?_
        refine r_aload_n (pc := 80) hC 0 dX10_keepsTerm_80 rfl rfl ?_
        refine r_get (kd := 0) (v := (w.1 0 32)) (pc := 81) hC dX10_keepsTerm_81 fl_RX10_233 lM_0 rfl rfl ?_
        refine r_iload_n (pc := 84) hC 3 dX10_keepsTerm_84 rfl rfl ?_
        refine r_iadd (pc := 85) hC dX10_keepsTerm_85 h.1 ?_
        have h := h.2
        refine r_bald (v := ((w.1 1) (Int.toNat ((w.1 0 32) + x3)))) (pc := 86) hC dX10_keepsTerm_86 lM_1 h.1.1 h.1.2 rfl ?_
        have h := h.2
        refine r_bast (pc := 87) hC dX10_keepsTerm_87 lM_23 h.1.1.1 h.1.1.2 h.1.2 ?_
        have h := h.2
        refine r_iinc (ls2 := [some (aR 0), some (aI ((w.1 0 31) - (w.1 0 32))), some (aI ((4 * (w.1 0 30)) + ((w.1 19) (Int.toNat (w.1 0 30))))), some (aI (x3 + 1))]) (pc := 88) hC dX10_keepsTerm_88 rfl (by decide) rfl h.1 rfl ?_
        have h := h.2
        refine r_goto (tgt := 61) (pc := 91) hC dX10_keepsTerm_91 rfl ?_
        exact r_to [true, true, true, true] rfl rfl (ih1 (uI m_newTerm_2 ((12 * ((4 * (w.1 0 30)) + ((w.1 19) (Int.toNat (w.1 0 30))))) + x3) ((w.1 1) (Int.toNat ((w.1 0 32) + x3)))) (x3 + 1) (Nat.lt_of_lt_of_le h.2 (Nat.le_of_lt_succ hn1)) h.1)
    exact r_to [true, true, true, true] rfl rfl (S1 _ (w.1 23) 0 (Nat.lt_succ_self _) hI1)
  have h := h.2 hc3
  refine r_iconst (pc := 33) hC dX10_keepsTerm_33 (rng_lit rfl) ?_
  refine r_conv (w2 := (wI (wA (wA (wA (wA w 19 (w.1 19)) 20 (w.1 20)) 22 (w.1 22)) 23 (w.1 23)) 0 31 (w.1 0 31))) rfl ?_
  exact r_reti (pc := 34) (kd := 1) hC hQ dX10_keepsTerm_34 hr hk (by decide) (Or.inr okK1_0) ⟨(w.1 19), (w.1 20), (w.1 22), (w.1 23), (w.1 0 31), rfl, h⟩
def wp_M_readsItem (m_tape : (Nat → Int)) (m_newWeight : (Nat → Int)) (m_newTerms : (Nat → Int)) (m_newTermMany : (Nat → Int)) (m_newSoft : (Nat → Int)) (m_newStar : (Nat → Int)) (m_newTerm : (Nat → Int)) (m_newItems : Int) (m_point : Int) (m_begin : Int) (m_end : Int) (Q : Int → (Nat → Int) → (Nat → Int) → (Nat → Int) → (Nat → Int) → (Nat → Int) → (Nat → Int) → Int → Int → Int → Prop) : Prop := wp_M_letters m_tape m_point m_begin m_end (fun (m_point_1 : Int) (m_begin_2 : Int) => wp_M_isWord m_tape m_point_1 m_begin_2 23 (fun (r3 : Int) => (r3 = 0 → Q 0 m_newWeight m_newTerms m_newTermMany m_newSoft m_newStar m_newTerm m_newItems m_point_1 m_begin_2) ∧ (¬ r3 = 0 → (m_newItems = 8 → Q 0 m_newWeight m_newTerms m_newTermMany m_newSoft m_newStar m_newTerm m_newItems m_point_1 m_begin_2) ∧ (¬ m_newItems = 8 → wp_M_readsWeight m_tape m_newWeight m_newItems m_point_1 m_begin_2 m_end (fun (r4 : Int) (m_newWeight_5 : (Nat → Int)) (m_point_6 : Int) (m_begin_7 : Int) => (¬ r4 = 0 → (0 ≤ m_newItems ∧ m_newItems < 8) ∧ (wp_M_letters m_tape m_point_6 m_begin_7 m_end (fun (m_point_8 : Int) (m_begin_9 : Int) => wp_M_isWord m_tape m_point_8 m_begin_9 24 (fun (r10 : Int) => ((0 ≤ m_newItems ∧ m_newItems < 8) ∧ 0 ≤ r10 ∧ r10 ≤ 1) ∧ ((0 ≤ m_newItems ∧ m_newItems < 8) ∧ (jn2 (fun (J1 : Int → Int → Prop) => (((uI m_newSoft m_newItems r10) (Int.toNat m_newItems)) = 0 → J1 m_point_8 m_begin_9) ∧ (¬ ((uI m_newSoft m_newItems r10) (Int.toNat m_newItems)) = 0 → wp_M_letters m_tape m_point_8 m_begin_9 m_end (fun (m_point_36 : Int) (m_begin_37 : Int) => J1 m_point_36 m_begin_37))) (fun (m_point_11 : Int) (m_begin_12 : Int) => wp_M_keepsTerm m_tape (uI m_newTerms m_newItems 0) m_newTermMany m_newStar m_newTerm m_newItems m_point_11 m_begin_12 m_end (fun (r13 : Int) (m_newTerms_14 : (Nat → Int)) (m_newTermMany_15 : (Nat → Int)) (m_newStar_16 : (Nat → Int)) (m_newTerm_17 : (Nat → Int)) (m_point_18 : Int) => (¬ r13 = 0 → lpw6 (fun (m_newTerms_19 : (Nat → Int)) (m_newTermMany_20 : (Nat → Int)) (m_newStar_21 : (Nat → Int)) (m_newTerm_22 : (Nat → Int)) (m_point_23 : Int) (m_begin_24 : Int) (k2 : (Nat → Int) → (Nat → Int) → (Nat → Int) → (Nat → Int) → Int → Int → Prop) => wp_M_blanks m_tape m_point_23 m_begin_24 m_end (fun (m_point_25 : Int) (m_begin_26 : Int) => wp_M_isAt m_tape m_point_25 m_end 59 59 (fun (r27 : Int) => (r27 = 0 → wp_M_letters m_tape m_point_25 m_begin_26 m_end (fun (m_point_28 : Int) (m_begin_29 : Int) => wp_M_keepsTerm m_tape m_newTerms_19 m_newTermMany_20 m_newStar_21 m_newTerm_22 m_newItems m_point_28 m_begin_29 m_end (fun (r30 : Int) (m_newTerms_31 : (Nat → Int)) (m_newTermMany_32 : (Nat → Int)) (m_newStar_33 : (Nat → Int)) (m_newTerm_34 : (Nat → Int)) (m_point_35 : Int) => (¬ r30 = 0 → k2 m_newTerms_31 m_newTermMany_32 m_newStar_33 m_newTerm_34 m_point_35 m_begin_29) ∧ (r30 = 0 → Q 0 m_newWeight_5 m_newTerms_31 m_newTermMany_32 (uI m_newSoft m_newItems r10) m_newStar_33 m_newTerm_34 m_newItems m_point_35 m_begin_29)))) ∧ (¬ r27 = 0 → (rng (m_point_25 + 1)) ∧ ((rng (m_newItems + 1)) ∧ (Q 1 m_newWeight_5 m_newTerms_19 m_newTermMany_20 (uI m_newSoft m_newItems r10) m_newStar_21 m_newTerm_22 (m_newItems + 1) (m_point_25 + 1) m_begin_26)))))) m_newTerms_14 m_newTermMany_15 m_newStar_16 m_newTerm_17 m_point_18 m_begin_12) ∧ (r13 = 0 → Q 0 m_newWeight_5 m_newTerms_14 m_newTermMany_15 (uI m_newSoft m_newItems r10) m_newStar_16 m_newTerm_17 m_newItems m_point_18 m_begin_12))))))))) ∧ (r4 = 0 → Q 0 m_newWeight_5 m_newTerms m_newTermMany m_newSoft m_newStar m_newTerm m_newItems m_point_6 m_begin_7))))))
set_option maxHeartbeats 4000000 in
set_option maxRecDepth 20000 in
theorem s_M_readsItem (l : Launch) (w : St) (P : Int → (Nat → Int) → (Nat → Int) → (Nat → Int) → (Nat → Int) → (Nat → Int) → (Nat → Int) → Int → Int → Int → Prop) (h : wp_M_readsItem (w.1 1) (w.1 18) (w.1 19) (w.1 20) (w.1 21) (w.1 22) (w.1 23) (w.1 0 30) (w.1 0 31) (w.1 0 32) (w.1 0 33) P) : Cn l yX10_readsItem cX10_readsItem 1 (some .boolean) 5 LM w [aR 0] (okI (fun r w1 => ∃ (o0 : (Nat → Int)) (o1 : (Nat → Int)) (o2 : (Nat → Int)) (o3 : (Nat → Int)) (o4 : (Nat → Int)) (o5 : (Nat → Int)) (o6 : Int) (o7 : Int) (o8 : Int), w1 = (wI (wI (wI (wA (wA (wA (wA (wA (wA w 18 o0) 19 o1) 20 o2) 21 o3) 22 o4) 23 o5) 0 30 o6) 0 31 o7) 0 32 o8) ∧ P r o0 o1 o2 o3 o4 o5 o6 o7 o8)) := by
  unfold wp_M_readsItem at h
  refine Cn.of2 [some (aR 0)] (by decide) (Nat.le_of_ble_eq_true rfl) rfl (fun p e s m args below meth c D cA ad A Q hQ hC hr hk => ?_)
  refine r_aload_n (pc := 0) hC 0 dX10_readsItem_0 rfl rfl ?_
  refine r_callVv (pc := 1) hC [] [] dX10_readsItem_1 ml_RX10_251 my_X10_letters mi_X10_letters lM_0 rfl rfl ⟨Nat.le_of_ble_eq_true rfl, Nat.le_of_ble_eq_true rfl⟩ ⟨Nat.le_of_ble_eq_true rfl, Nat.le_of_ble_eq_true rfl⟩ (Nat.le_of_ble_eq_true rfl) rfl (s_M_letters l _ _ h) (fun w1 hq => ?_)
  obtain ⟨m_point_1, m_begin_2, e9, h⟩ := hq
  rw [e9]
  refine r_aload_n (pc := 4) hC 0 dX10_readsItem_4 rfl rfl ?_
  refine r_ldcs (j := 23) (pc := 5) hC dX10_readsItem_5 rfl ⟨rfl, rfl⟩ ?_
  refine r_callVi (pc := 7) hC [aR (10000 + 23)] [] dX10_readsItem_7 ml_RX10_256 my_X10_isWord mi_X10_isWord lM_0 rfl rfl ⟨Nat.le_of_ble_eq_true rfl, Nat.le_of_ble_eq_true rfl⟩ ⟨Nat.le_of_ble_eq_true rfl, Nat.le_of_ble_eq_true rfl⟩ (Nat.le_of_ble_eq_true rfl) rfl (s_M_isWord l _ _ _ h) (fun r3 w1 hq => ?_)
  obtain ⟨e9, h⟩ := hq
  rw [e9]
  refine r_if_eq (pc := 10) (tgt := 29) hC dX10_readsItem_10 rfl (fun hc7 => ?_) (fun hc7 => ?_)
  · have h := h.1 hc7
    refine r_iconst (pc := 29) hC dX10_readsItem_29 (rng_lit rfl) ?_
    refine r_conv (w2 := (wI (wI (wI (wA (wA (wA (wA (wA (wA w 18 (w.1 18)) 19 (w.1 19)) 20 (w.1 20)) 21 (w.1 21)) 22 (w.1 22)) 23 (w.1 23)) 0 30 (w.1 0 30)) 0 31 m_point_1) 0 32 m_begin_2)) rfl ?_
    exact r_reti (pc := 30) (kd := 1) hC hQ dX10_readsItem_30 hr hk (by decide) (Or.inr okK1_0) ⟨(w.1 18), (w.1 19), (w.1 20), (w.1 21), (w.1 22), (w.1 23), (w.1 0 30), m_point_1, m_begin_2, rfl, h⟩
  have h := h.2 hc7
  refine r_aload_n (pc := 13) hC 0 dX10_readsItem_13 rfl rfl ?_
  refine r_get (kd := 0) (v := (w.1 0 30)) (pc := 14) hC dX10_readsItem_14 fl_RX10_248 lM_0 rfl rfl ?_
  refine r_bipush (pc := 17) hC dX10_readsItem_17 ⟨rfl, rng_lit rfl⟩ ?_
  refine r_ic_eq (pc := 19) (tgt := 29) hC dX10_readsItem_19 rfl (fun hc6 => ?_) (fun hc6 => ?_)
  · have h := h.1 hc6
    refine r_iconst (pc := 29) hC dX10_readsItem_29 (rng_lit rfl) ?_
    refine r_conv (w2 := (wI (wI (wI (wA (wA (wA (wA (wA (wA w 18 (w.1 18)) 19 (w.1 19)) 20 (w.1 20)) 21 (w.1 21)) 22 (w.1 22)) 23 (w.1 23)) 0 30 (w.1 0 30)) 0 31 m_point_1) 0 32 m_begin_2)) rfl ?_
    exact r_reti (pc := 30) (kd := 1) hC hQ dX10_readsItem_30 hr hk (by decide) (Or.inr okK1_0) ⟨(w.1 18), (w.1 19), (w.1 20), (w.1 21), (w.1 22), (w.1 23), (w.1 0 30), m_point_1, m_begin_2, rfl, h⟩
  have h := h.2 hc6
  refine r_aload_n (pc := 22) hC 0 dX10_readsItem_22 rfl rfl ?_
  refine r_callVi (pc := 23) hC [] [] dX10_readsItem_23 ml_RX10_260 my_X10_readsWeight mi_X10_readsWeight lM_0 rfl rfl ⟨Nat.le_of_ble_eq_true rfl, Nat.le_of_ble_eq_true rfl⟩ ⟨Nat.le_of_ble_eq_true rfl, Nat.le_of_ble_eq_true rfl⟩ (Nat.le_of_ble_eq_true rfl) rfl (s_M_readsWeight l _ _ h) (fun r4 w1 hq => ?_)
  obtain ⟨m_newWeight_5, m_point_6, m_begin_7, e9, h⟩ := hq
  rw [e9]
  refine r_if_ne (pc := 26) (tgt := 31) hC dX10_readsItem_26 rfl (fun hc5 => ?_) (fun hc5 => ?_)
  · have h := h.1 hc5
    refine r_aload_n (pc := 31) hC 0 dX10_readsItem_31 rfl rfl ?_
    refine r_getr (r := 19) (pc := 32) hC dX10_readsItem_32 fl_RX10_66 lM_0 rfl ?_
    refine r_aload_n (pc := 35) hC 0 dX10_readsItem_35 rfl rfl ?_
    refine r_get (kd := 0) (v := (w.1 0 30)) (pc := 36) hC dX10_readsItem_36 fl_RX10_248 lM_0 rfl rfl ?_
    refine r_iconst (pc := 39) hC dX10_readsItem_39 (rng_lit rfl) ?_
    refine r_iast (pc := 40) hC dX10_readsItem_40 lM_19 h.1.1 h.1.2 ?_
    have h := h.2
    refine r_aload_n (pc := 41) hC 0 dX10_readsItem_41 rfl rfl ?_
    refine r_callVv (pc := 42) hC [] [] dX10_readsItem_42 ml_RX10_251 my_X10_letters mi_X10_letters lM_0 rfl rfl ⟨Nat.le_of_ble_eq_true rfl, Nat.le_of_ble_eq_true rfl⟩ ⟨Nat.le_of_ble_eq_true rfl, Nat.le_of_ble_eq_true rfl⟩ (Nat.le_of_ble_eq_true rfl) rfl (s_M_letters l _ _ h) (fun w1 hq => ?_)
    obtain ⟨m_point_8, m_begin_9, e9, h⟩ := hq
    rw [e9]
    refine r_aload_n (pc := 45) hC 0 dX10_readsItem_45 rfl rfl ?_
    refine r_getr (r := 21) (pc := 46) hC dX10_readsItem_46 fl_RX10_72 lM_0 rfl ?_
    refine r_aload_n (pc := 49) hC 0 dX10_readsItem_49 rfl rfl ?_
    refine r_get (kd := 0) (v := (w.1 0 30)) (pc := 50) hC dX10_readsItem_50 fl_RX10_248 lM_0 rfl rfl ?_
    refine r_aload_n (pc := 53) hC 0 dX10_readsItem_53 rfl rfl ?_
    refine r_ldcsw (j := 24) (pc := 54) hC dX10_readsItem_54 rfl ⟨rfl, rfl⟩ ?_
    refine r_callVi (pc := 57) hC [aR (10000 + 24)] [aI (w.1 0 30), aR 21] dX10_readsItem_57 ml_RX10_256 my_X10_isWord mi_X10_isWord lM_0 rfl rfl ⟨Nat.le_of_ble_eq_true rfl, Nat.le_of_ble_eq_true rfl⟩ ⟨Nat.le_of_ble_eq_true rfl, Nat.le_of_ble_eq_true rfl⟩ (Nat.le_of_ble_eq_true rfl) rfl (s_M_isWord l _ _ _ h) (fun r10 w1 hq => ?_)
    obtain ⟨e9, h⟩ := hq
    rw [e9]
    refine r_zast (pc := 60) hC dX10_readsItem_60 lM_21 h.1.1.1 h.1.1.2 h.1.2 ?_
    have h := h.2
    refine r_aload_n (pc := 61) hC 0 dX10_readsItem_61 rfl rfl ?_
    refine r_getr (r := 21) (pc := 62) hC dX10_readsItem_62 fl_RX10_72 lM_0 rfl ?_
    refine r_aload_n (pc := 65) hC 0 dX10_readsItem_65 rfl rfl ?_
    refine r_get (kd := 0) (v := (w.1 0 30)) (pc := 66) hC dX10_readsItem_66 fl_RX10_248 lM_0 rfl rfl ?_
    refine r_zald (v := ((uI (w.1 21) (w.1 0 30) r10) (Int.toNat (w.1 0 30)))) (pc := 69) hC dX10_readsItem_69 lM_21 h.1.1 h.1.2 rfl ?_
    have h := h.2
    obtain ⟨J1, hJ1, h⟩ := h
    have S1 : ∀ (m_point_11 : Int) (m_begin_12 : Int), J1 m_point_11 m_begin_12 → Wd p l e (rmD 5) s m args below meth c Q 0 0 1 D cA ad A LM (wI (wI (wA (wA (wA w 18 m_newWeight_5) 19 (uI (w.1 19) (w.1 0 30) 0)) 21 (uI (w.1 21) (w.1 0 30) r10)) 0 31 m_point_11) 0 32 m_begin_12) 77 [some (aR 0)] [] := by
      intro m_point_11 m_begin_12 hj
      have h := hJ1 m_point_11 m_begin_12 hj
      refine r_aload_n (pc := 77) hC 0 dX10_readsItem_77 rfl rfl ?_
      refine r_callVi (pc := 78) hC [] [] dX10_readsItem_78 ml_RX10_265 my_X10_keepsTerm mi_X10_keepsTerm lM_0 rfl rfl ⟨Nat.le_of_ble_eq_true rfl, Nat.le_of_ble_eq_true rfl⟩ ⟨Nat.le_of_ble_eq_true rfl, Nat.le_of_ble_eq_true rfl⟩ (Nat.le_of_ble_eq_true rfl) rfl (s_M_keepsTerm l _ _ h) (fun r13 w1 hq => ?_)
      obtain ⟨m_newTerms_14, m_newTermMany_15, m_newStar_16, m_newTerm_17, m_point_18, e9, h⟩ := hq
      rw [e9]
      refine r_if_ne (pc := 81) (tgt := 86) hC dX10_readsItem_81 rfl (fun hc3 => ?_) (fun hc3 => ?_)
      · have h := h.1 hc3
        obtain ⟨I2, μ2, hI2, hB2⟩ := h
        have S2 : ∀ (nn : Nat) (m_newTerms_19 : (Nat → Int)) (m_newTermMany_20 : (Nat → Int)) (m_newStar_21 : (Nat → Int)) (m_newTerm_22 : (Nat → Int)) (m_point_23 : Int) (m_begin_24 : Int), μ2 m_newTerms_19 m_newTermMany_20 m_newStar_21 m_newTerm_22 m_point_23 m_begin_24 < nn → I2 m_newTerms_19 m_newTermMany_20 m_newStar_21 m_newTerm_22 m_point_23 m_begin_24 → Wd p l e (rmD 5) s m args below meth c Q 0 0 1 D cA ad A LM (wI (wI (wA (wA (wA (wA (wA (wA w 18 m_newWeight_5) 19 m_newTerms_19) 20 m_newTermMany_20) 21 (uI (w.1 21) (w.1 0 30) r10)) 22 m_newStar_21) 23 m_newTerm_22) 0 31 m_point_23) 0 32 m_begin_24) 86 [some (aR 0)] [] := by
          intro nn
          induction nn with
          | zero => intro m_newTerms_19 m_newTermMany_20 m_newStar_21 m_newTerm_22 m_point_23 m_begin_24 hn; exact absurd hn (Nat.not_lt_zero _)
          | succ nn ih2 =>
            intro m_newTerms_19 m_newTermMany_20 m_newStar_21 m_newTerm_22 m_point_23 m_begin_24 hn2 hi
            have h := hB2 m_newTerms_19 m_newTermMany_20 m_newStar_21 m_newTerm_22 m_point_23 m_begin_24 hi
            refine r_aload_n (pc := 86) hC 0 dX10_readsItem_86 rfl rfl ?_
            refine r_callVv (pc := 87) hC [] [] dX10_readsItem_87 ml_RX10_236 my_X10_blanks mi_X10_blanks lM_0 rfl rfl ⟨Nat.le_of_ble_eq_true rfl, Nat.le_of_ble_eq_true rfl⟩ ⟨Nat.le_of_ble_eq_true rfl, Nat.le_of_ble_eq_true rfl⟩ (Nat.le_of_ble_eq_true rfl) rfl (s_M_blanks l _ _ h) (fun w1 hq => ?_)
            obtain ⟨m_point_25, m_begin_26, e9, h⟩ := hq
            rw [e9]
            refine r_aload_n (pc := 90) hC 0 dX10_readsItem_90 rfl rfl ?_
            refine r_bipush (pc := 91) hC dX10_readsItem_91 ⟨rfl, rng_lit rfl⟩ ?_
            refine r_bipush (pc := 93) hC dX10_readsItem_93 ⟨rfl, rng_lit rfl⟩ ?_
            refine r_callVi (pc := 95) hC [aI 59, aI 59] [] dX10_readsItem_95 ml_RX10_230 my_X10_isAt mi_X10_isAt lM_0 rfl rfl ⟨Nat.le_of_ble_eq_true rfl, Nat.le_of_ble_eq_true rfl⟩ ⟨Nat.le_of_ble_eq_true rfl, Nat.le_of_ble_eq_true rfl⟩ (Nat.le_of_ble_eq_true rfl) rfl (s_M_isAt l _ _ _ _ h) (fun r27 w1 hq => ?_)
            obtain ⟨e9, h⟩ := hq
            rw [e9]
            refine r_if_eq (pc := 98) (tgt := 123) hC dX10_readsItem_98 rfl (fun hc2 => ?_) (fun hc2 => ?_)
            · have h := h.1 hc2
              refine r_aload_n (pc := 123) hC 0 dX10_readsItem_123 rfl rfl ?_
              refine r_callVv (pc := 124) hC [] [] dX10_readsItem_124 ml_RX10_251 my_X10_letters mi_X10_letters lM_0 rfl rfl ⟨Nat.le_of_ble_eq_true rfl, Nat.le_of_ble_eq_true rfl⟩ ⟨Nat.le_of_ble_eq_true rfl, Nat.le_of_ble_eq_true rfl⟩ (Nat.le_of_ble_eq_true rfl) rfl (s_M_letters l _ _ h) (fun w1 hq => ?_)
              obtain ⟨m_point_28, m_begin_29, e9, h⟩ := hq
              rw [e9]
              refine r_aload_n (pc := 127) hC 0 dX10_readsItem_127 rfl rfl ?_
              refine r_callVi (pc := 128) hC [] [] dX10_readsItem_128 ml_RX10_265 my_X10_keepsTerm mi_X10_keepsTerm lM_0 rfl rfl ⟨Nat.le_of_ble_eq_true rfl, Nat.le_of_ble_eq_true rfl⟩ ⟨Nat.le_of_ble_eq_true rfl, Nat.le_of_ble_eq_true rfl⟩ (Nat.le_of_ble_eq_true rfl) rfl (s_M_keepsTerm l _ _ h) (fun r30 w1 hq => ?_)
              obtain ⟨m_newTerms_31, m_newTermMany_32, m_newStar_33, m_newTerm_34, m_point_35, e9, h⟩ := hq
              rw [e9]
              refine r_if_ne (pc := 131) (tgt := 86) hC dX10_readsItem_131 rfl (fun hc1 => ?_) (fun hc1 => ?_)
              · have h := h.1 hc1
                exact r_to [true] rfl rfl (ih2 m_newTerms_31 m_newTermMany_32 m_newStar_33 m_newTerm_34 m_point_35 m_begin_29 (Nat.lt_of_lt_of_le h.2 (Nat.le_of_lt_succ hn2)) h.1)
              have h := h.2 hc1
              refine r_iconst (pc := 134) hC dX10_readsItem_134 (rng_lit rfl) ?_
              refine r_conv (w2 := (wI (wI (wI (wA (wA (wA (wA (wA (wA w 18 m_newWeight_5) 19 m_newTerms_31) 20 m_newTermMany_32) 21 (uI (w.1 21) (w.1 0 30) r10)) 22 m_newStar_33) 23 m_newTerm_34) 0 30 (w.1 0 30)) 0 31 m_point_35) 0 32 m_begin_29)) rfl ?_
              exact r_reti (pc := 135) (kd := 1) hC hQ dX10_readsItem_135 hr hk (by decide) (Or.inr okK1_0) ⟨m_newWeight_5, m_newTerms_31, m_newTermMany_32, (uI (w.1 21) (w.1 0 30) r10), m_newStar_33, m_newTerm_34, (w.1 0 30), m_point_35, m_begin_29, rfl, h⟩
            have h := h.2 hc2
            refine r_aload_n (pc := 101) hC 0 dX10_readsItem_101 rfl rfl ?_
            refine r_dup (pc := 102) hC dX10_readsItem_102 rfl ?_
            refine r_get (kd := 0) (v := m_point_25) (pc := 103) hC dX10_readsItem_103 fl_RX10_224 lM_0 rfl rfl ?_
            refine r_iconst (pc := 106) hC dX10_readsItem_106 (rng_lit rfl) ?_
            refine r_iadd (pc := 107) hC dX10_readsItem_107 h.1 ?_
            have h := h.2
            refine r_put (kd := 0) (pc := 108) hC dX10_readsItem_108 pl_RX10_224 lM_0 rfl (by decide) (Or.inl rfl) ?_
            refine r_aload_n (pc := 111) hC 0 dX10_readsItem_111 rfl rfl ?_
            refine r_dup (pc := 112) hC dX10_readsItem_112 rfl ?_
            refine r_get (kd := 0) (v := (w.1 0 30)) (pc := 113) hC dX10_readsItem_113 fl_RX10_248 lM_0 rfl rfl ?_
            refine r_iconst (pc := 116) hC dX10_readsItem_116 (rng_lit rfl) ?_
            refine r_iadd (pc := 117) hC dX10_readsItem_117 h.1 ?_
            have h := h.2
            refine r_put (kd := 0) (pc := 118) hC dX10_readsItem_118 pl_RX10_248 lM_0 rfl (by decide) (Or.inl rfl) ?_
            refine r_iconst (pc := 121) hC dX10_readsItem_121 (rng_lit rfl) ?_
            refine r_conv (w2 := (wI (wI (wI (wA (wA (wA (wA (wA (wA w 18 m_newWeight_5) 19 m_newTerms_19) 20 m_newTermMany_20) 21 (uI (w.1 21) (w.1 0 30) r10)) 22 m_newStar_21) 23 m_newTerm_22) 0 30 ((w.1 0 30) + 1)) 0 31 (m_point_25 + 1)) 0 32 m_begin_26)) rfl ?_
            exact r_reti (pc := 122) (kd := 1) hC hQ dX10_readsItem_122 hr hk (by decide) (Or.inr okK1_1) ⟨m_newWeight_5, m_newTerms_19, m_newTermMany_20, (uI (w.1 21) (w.1 0 30) r10), m_newStar_21, m_newTerm_22, ((w.1 0 30) + 1), (m_point_25 + 1), m_begin_26, rfl, h⟩
        exact r_to [true] rfl rfl (S2 _ m_newTerms_14 m_newTermMany_15 m_newStar_16 m_newTerm_17 m_point_18 m_begin_12 (Nat.lt_succ_self _) hI2)
      have h := h.2 hc3
      refine r_iconst (pc := 84) hC dX10_readsItem_84 (rng_lit rfl) ?_
      refine r_conv (w2 := (wI (wI (wI (wA (wA (wA (wA (wA (wA w 18 m_newWeight_5) 19 m_newTerms_14) 20 m_newTermMany_15) 21 (uI (w.1 21) (w.1 0 30) r10)) 22 m_newStar_16) 23 m_newTerm_17) 0 30 (w.1 0 30)) 0 31 m_point_18) 0 32 m_begin_12)) rfl ?_
      exact r_reti (pc := 85) (kd := 1) hC hQ dX10_readsItem_85 hr hk (by decide) (Or.inr okK1_0) ⟨m_newWeight_5, m_newTerms_14, m_newTermMany_15, (uI (w.1 21) (w.1 0 30) r10), m_newStar_16, m_newTerm_17, (w.1 0 30), m_point_18, m_begin_12, rfl, h⟩
    refine r_if_eq (pc := 70) (tgt := 77) hC dX10_readsItem_70 rfl (fun hc4 => ?_) (fun hc4 => ?_)
    · have h := h.1 hc4
      exact r_to [true] rfl rfl (S1 m_point_8 m_begin_9 h)
    have h := h.2 hc4
    refine r_aload_n (pc := 73) hC 0 dX10_readsItem_73 rfl rfl ?_
    refine r_callVv (pc := 74) hC [] [] dX10_readsItem_74 ml_RX10_251 my_X10_letters mi_X10_letters lM_0 rfl rfl ⟨Nat.le_of_ble_eq_true rfl, Nat.le_of_ble_eq_true rfl⟩ ⟨Nat.le_of_ble_eq_true rfl, Nat.le_of_ble_eq_true rfl⟩ (Nat.le_of_ble_eq_true rfl) rfl (s_M_letters l _ _ h) (fun w1 hq => ?_)
    obtain ⟨m_point_36, m_begin_37, e9, h⟩ := hq
    rw [e9]
    exact r_to [true] rfl rfl (S1 m_point_36 m_begin_37 h)
  have h := h.2 hc5
  refine r_iconst (pc := 29) hC dX10_readsItem_29 (rng_lit rfl) ?_
  refine r_conv (w2 := (wI (wI (wI (wA (wA (wA (wA (wA (wA w 18 m_newWeight_5) 19 (w.1 19)) 20 (w.1 20)) 21 (w.1 21)) 22 (w.1 22)) 23 (w.1 23)) 0 30 (w.1 0 30)) 0 31 m_point_6) 0 32 m_begin_7)) rfl ?_
  exact r_reti (pc := 30) (kd := 1) hC hQ dX10_readsItem_30 hr hk (by decide) (Or.inr okK1_0) ⟨m_newWeight_5, (w.1 19), (w.1 20), (w.1 21), (w.1 22), (w.1 23), (w.1 0 30), m_point_6, m_begin_7, rfl, h⟩
