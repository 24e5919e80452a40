def wp_M_cuts (m_wordFrom : (Nat → Int)) (m_wordTo : (Nat → Int)) (m_sentenceOf : (Nat → Int)) (m_from : (Nat → Int)) (m_to : (Nat → Int)) (m_weight : (Nat → Int)) (m_terms : (Nat → Int)) (m_isMatch : (Nat → Int)) (m_inWindow : (Nat → Int)) (m_window : (Nat → Int)) (m_words : Int) (m_items : Int) (m_cutFirst : Int) (m_cutLast : Int) (m_isWhole : Int) (a1 : Int) (a2 : Int) (Q : Int → (Nat → Int) → (Nat → Int) → Int → Int → Int → Prop) : Prop := wp_M_firstWord m_sentenceOf m_words a1 (fun (r1 : Int) => wp_M_wordsIn m_sentenceOf m_words a1 (fun (r2 : Int) => (rng (r1 + r2)) ∧ ((rng ((r1 + r2) - 1)) ∧ ((0 ≤ a1 ∧ a1 < 14) ∧ ((0 ≤ a1 ∧ a1 < 14) ∧ ((rng ((m_to (Int.toNat a1)) - (m_from (Int.toNat a1)))) ∧ (jn1 (fun (J1 : Int → Prop) => (a2 < ((m_to (Int.toNat a1)) - (m_from (Int.toNat a1))) → J1 0) ∧ (¬ a2 < ((m_to (Int.toNat a1)) - (m_from (Int.toNat a1))) → J1 1)) (fun (y3 : Int) => (0 ≤ y3 ∧ y3 ≤ 1) ∧ (jn1 (fun (J2 : Int → Prop) => (¬ r1 = (-1) → J2 ((r1 + r2) - 1)) ∧ (r1 = (-1) → J2 (-1))) (fun (y4 : Int) => (y3 = 0 → (¬ r1 = (-1) → wp_M_widestIn m_wordFrom m_wordTo m_weight m_terms m_isMatch m_inWindow m_window m_items r1 ((r1 + r2) - 1) a2 (fun (r5 : Int) (m_inWindow_6 : (Nat → Int)) (m_window_7 : (Nat → Int)) => (r5 = 0 → lpw1 (fun (m_cutLast_8 : Int) (k3 : Int → Prop) => jn0 (fun (J4 : Prop) => (((r1 + r2) - 1) ≤ m_cutLast_8 → J4) ∧ (¬ ((r1 + r2) - 1) ≤ m_cutLast_8 → (rng (m_cutLast_8 + 1)) ∧ (wp_M_longOf m_wordFrom m_wordTo r1 (m_cutLast_8 + 1) (fun (r10 : Int) => (a2 < r10 → J4) ∧ (¬ a2 < r10 → (rng (m_cutLast_8 + 1)) ∧ (k3 (m_cutLast_8 + 1))))))) (wp_M_longOf m_wordFrom m_wordTo r1 m_cutLast_8 (fun (r9 : Int) => (a2 < r9 → Q 0 m_inWindow_6 m_window_7 r1 m_cutLast_8 y3) ∧ (¬ a2 < r9 → Q 1 m_inWindow_6 m_window_7 r1 m_cutLast_8 y3)))) r1) ∧ (¬ r5 = 0 → (0 ≤ (0 : Int) ∧ (0 : Int) < 4) ∧ ((0 ≤ (1 : Int) ∧ (1 : Int) < 4) ∧ (Q 1 m_inWindow_6 m_window_7 (m_window_7 (Int.toNat 0)) (m_window_7 (Int.toNat 1)) y3))))) ∧ (r1 = (-1) → Q 0 m_inWindow m_window r1 y4 y3)) ∧ (¬ y3 = 0 → Q 1 m_inWindow m_window r1 y4 y3)))))))))))
set_option maxHeartbeats 4000000 in
set_option maxRecDepth 20000 in
theorem s_M_cuts (l : Launch) (w : St) (a1 : Int) (a2 : Int) (P : Int → (Nat → Int) → (Nat → Int) → Int → Int → Int → Prop) (h : wp_M_cuts (w.1 5) (w.1 6) (w.1 7) (w.1 9) (w.1 10) (w.1 12) (w.1 13) (w.1 27) (w.1 30) (w.1 32) (w.1 0 12) (w.1 0 29) (w.1 0 47) (w.1 0 48) (w.1 0 49) a1 a2 P) : Cn l yX10_cuts cX10_cuts 5 (some .boolean) 3 LM w [aR 0, aI a1, aI a2] (okI (fun r w1 => ∃ (o0 : (Nat → Int)) (o1 : (Nat → Int)) (o2 : Int) (o3 : Int) (o4 : Int), w1 = (wI (wI (wI (wA (wA w 30 o0) 32 o1) 0 47 o2) 0 48 o3) 0 49 o4) ∧ P r o0 o1 o2 o3 o4)) := by
  unfold wp_M_cuts at h
  refine Cn.of2 [some (aR 0), some (aI a1), some (aI a2), none, none] (by decide) (Nat.le_of_ble_eq_true rfl) rfl (fun p e s m args below meth c D cA ad A Q hQ hC hr hk => ?_)
  refine r_aload_n (pc := 0) hC 0 dX10_cuts_0 rfl rfl ?_
  refine r_iload_n (pc := 1) hC 1 dX10_cuts_1 rfl rfl ?_
  refine r_callVi (pc := 2) hC [aI a1] [] dX10_cuts_2 ml_RX10_325 my_X10_firstWord mi_X10_firstWord lM_0 rfl rfl ⟨Nat.le_of_ble_eq_true rfl, Nat.le_of_ble_eq_true rfl⟩ ⟨Nat.le_of_ble_eq_true rfl, Nat.le_of_ble_eq_true rfl⟩ (Nat.le_of_ble_eq_true rfl) rfl (s_M_firstWord l _ _ _ h) (fun r1 w1 hq => ?_)
  obtain ⟨e9, h⟩ := hq
  rw [e9]
  refine r_istore_n (ls2 := [some (aR 0), some (aI a1), some (aI a2), some (aI r1), none]) (pc := 5) hC 3 dX10_cuts_5 rfl (by decide) rfl rfl ?_
  refine r_iload_n (pc := 6) hC 3 dX10_cuts_6 rfl rfl ?_
  refine r_aload_n (pc := 7) hC 0 dX10_cuts_7 rfl rfl ?_
  refine r_iload_n (pc := 8) hC 1 dX10_cuts_8 rfl rfl ?_
  refine r_callVi (pc := 9) hC [aI a1] [aI r1] dX10_cuts_9 ml_RX10_328 my_X10_wordsIn mi_X10_wordsIn lM_0 rfl rfl ⟨Nat.le_of_ble_eq_true rfl, Nat.le_of_ble_eq_true rfl⟩ ⟨Nat.le_of_ble_eq_true rfl, Nat.le_of_ble_eq_true rfl⟩ (Nat.le_of_ble_eq_true rfl) rfl (s_M_wordsIn l _ _ _ h) (fun r2 w1 hq => ?_)
  obtain ⟨e9, h⟩ := hq
  rw [e9]
  refine r_iadd (pc := 12) hC dX10_cuts_12 h.1 ?_
  have h := h.2
  refine r_iconst (pc := 13) hC dX10_cuts_13 (rng_lit rfl) ?_
  refine r_isub (pc := 14) hC dX10_cuts_14 h.1 ?_
  have h := h.2
  refine r_istore (ls2 := [some (aR 0), some (aI a1), some (aI a2), some (aI r1), some (aI ((r1 + r2) - 1))]) (pc := 15) hC dX10_cuts_15 (by decide) rfl rfl ?_
  refine r_aload_n (pc := 17) hC 0 dX10_cuts_17 rfl rfl ?_
  refine r_aload_n (pc := 18) hC 0 dX10_cuts_18 rfl rfl ?_
  refine r_getr (r := 10) (pc := 19) hC dX10_cuts_19 fl_RX10_38 lM_0 rfl ?_
  refine r_iload_n (pc := 22) hC 1 dX10_cuts_22 rfl rfl ?_
  refine r_iald (v := ((w.1 10) (Int.toNat a1))) (pc := 23) hC dX10_cuts_23 lM_10 h.1.1 h.1.2 rfl ?_
  have h := h.2
  refine r_aload_n (pc := 24) hC 0 dX10_cuts_24 rfl rfl ?_
  refine r_getr (r := 9) (pc := 25) hC dX10_cuts_25 fl_RX10_35 lM_0 rfl ?_
  refine r_iload_n (pc := 28) hC 1 dX10_cuts_28 rfl rfl ?_
  refine r_iald (v := ((w.1 9) (Int.toNat a1))) (pc := 29) hC dX10_cuts_29 lM_9 h.1.1 h.1.2 rfl ?_
  have h := h.2
  refine r_isub (pc := 30) hC dX10_cuts_30 h.1 ?_
  have h := h.2
  refine r_iload_n (pc := 31) hC 2 dX10_cuts_31 rfl rfl ?_
  obtain ⟨J1, hJ1, h⟩ := h
  have S1 : ∀ (y3 : Int), J1 y3 → Wd p l e (rmD 3) s m args below meth c Q 0 0 5 D cA ad A LM w 40 [some (aR 0), none, some (aI a2), some (aI r1), some (aI ((r1 + r2) - 1))] [aI y3, aR 0] := by
    intro y3 hj
    have h := hJ1 y3 hj
    refine r_put (kd := 1) (pc := 40) hC dX10_cuts_40 pl_RX10_331 lM_0 rfl (by decide) (Or.inr h.1) ?_
    have h := h.2
    refine r_aload_n (pc := 43) hC 0 dX10_cuts_43 rfl rfl ?_
    refine r_iload_n (pc := 44) hC 3 dX10_cuts_44 rfl rfl ?_
    refine r_put (kd := 0) (pc := 45) hC dX10_cuts_45 pl_RX10_334 lM_0 rfl (by decide) (Or.inl rfl) ?_
    refine r_aload_n (pc := 48) hC 0 dX10_cuts_48 rfl rfl ?_
    refine r_iload_n (pc := 49) hC 3 dX10_cuts_49 rfl rfl ?_
    refine r_iconst (pc := 50) hC dX10_cuts_50 (rng_lit rfl) ?_
    obtain ⟨J2, hJ2, h⟩ := h
    have S2 : ∀ (y4 : Int), J2 y4 → Wd p l e (rmD 3) s m args below meth c Q 0 0 5 D cA ad A LM (wI (wI w 0 47 r1) 0 49 y3) 60 [some (aR 0), none, some (aI a2), some (aI r1), some (aI ((r1 + r2) - 1))] [aI y4, aR 0] := by
      intro y4 hj
      have h := hJ2 y4 hj
      refine r_put (kd := 0) (pc := 60) hC dX10_cuts_60 pl_RX10_337 lM_0 rfl (by decide) (Or.inl rfl) ?_
      refine r_aload_n (pc := 63) hC 0 dX10_cuts_63 rfl rfl ?_
      refine r_get (kd := 1) (v := y3) (pc := 64) hC dX10_cuts_64 fl_RX10_331 lM_0 rfl rfl ?_
      refine r_if_eq (pc := 67) (tgt := 72) hC dX10_cuts_67 rfl (fun hc6 => ?_) (fun hc6 => ?_)
      · have h := h.1 hc6
        refine r_iload_n (pc := 72) hC 3 dX10_cuts_72 rfl rfl ?_
        refine r_iconst (pc := 73) hC dX10_cuts_73 (rng_lit rfl) ?_
        refine r_ic_ne (pc := 74) (tgt := 79) hC dX10_cuts_74 rfl (fun hc5 => ?_) (fun hc5 => ?_)
        · have h := h.1 hc5
          refine r_aload_n (pc := 79) hC 0 dX10_cuts_79 rfl rfl ?_
          refine r_iload_n (pc := 80) hC 3 dX10_cuts_80 rfl rfl ?_
          refine r_iload (pc := 81) hC dX10_cuts_81 rfl ?_
          refine r_iload_n (pc := 83) hC 2 dX10_cuts_83 rfl rfl ?_
          refine r_callVi (pc := 84) hC [aI r1, aI ((r1 + r2) - 1), aI a2] [] dX10_cuts_84 ml_RX10_322 my_X10_widestIn mi_X10_widestIn lM_0 rfl rfl ⟨Nat.le_of_ble_eq_true rfl, Nat.le_of_ble_eq_true rfl⟩ ⟨Nat.le_of_ble_eq_true rfl, Nat.le_of_ble_eq_true rfl⟩ (Nat.le_of_ble_eq_true rfl) rfl (s_M_widestIn l _ _ _ _ _ h) (fun r5 w1 hq => ?_)
          obtain ⟨m_inWindow_6, m_window_7, e9, h⟩ := hq
          rw [e9]
          refine r_if_eq (pc := 87) (tgt := 112) hC dX10_cuts_87 rfl (fun hc4 => ?_) (fun hc4 => ?_)
          · have h := h.1 hc4
            refine r_aload_n (pc := 112) hC 0 dX10_cuts_112 rfl rfl ?_
            refine r_iload_n (pc := 113) hC 3 dX10_cuts_113 rfl rfl ?_
            refine r_put (kd := 0) (pc := 114) hC dX10_cuts_114 pl_RX10_337 lM_0 rfl (by decide) (Or.inl rfl) ?_
            obtain ⟨I3, μ3, hI3, hB3⟩ := h
            have S3 : ∀ (nn : Nat) (m_cutLast_8 : Int), μ3 m_cutLast_8 < nn → I3 m_cutLast_8 → Wd p l e (rmD 3) s m args below meth c Q 0 0 5 D cA ad A LM (wI (wI (wI (wA (wA w 30 m_inWindow_6) 32 m_window_7) 0 47 r1) 0 48 m_cutLast_8) 0 49 y3) 117 [some (aR 0), none, some (aI a2), some (aI r1), some (aI ((r1 + r2) - 1))] [] := by
              intro nn
              induction nn with
              | zero => intro m_cutLast_8 hn; exact absurd hn (Nat.not_lt_zero _)
              | succ nn ih3 =>
                intro m_cutLast_8 hn3 hi
                have h := hB3 m_cutLast_8 hi
                refine r_aload_n (pc := 117) hC 0 dX10_cuts_117 rfl rfl ?_
                refine r_get (kd := 0) (v := m_cutLast_8) (pc := 118) hC dX10_cuts_118 fl_RX10_337 lM_0 rfl rfl ?_
                refine r_iload (pc := 121) hC dX10_cuts_121 rfl ?_
                obtain ⟨J4, hJ4, h⟩ := h
                have S4 : J4 → Wd p l e (rmD 3) s m args below meth c Q 0 0 5 D cA ad A LM (wI (wI (wI (wA (wA w 30 m_inWindow_6) 32 m_window_7) 0 47 r1) 0 48 m_cutLast_8) 0 49 y3) 154 [some (aR 0), none, some (aI a2), some (aI r1), none] [] := by
                  intro hj
                  have h := hJ4 hj
                  refine r_aload_n (pc := 154) hC 0 dX10_cuts_154 rfl rfl ?_
                  refine r_iload_n (pc := 155) hC 3 dX10_cuts_155 rfl rfl ?_
                  refine r_aload_n (pc := 156) hC 0 dX10_cuts_156 rfl rfl ?_
                  refine r_get (kd := 0) (v := m_cutLast_8) (pc := 157) hC dX10_cuts_157 fl_RX10_337 lM_0 rfl rfl ?_
                  refine r_callVi (pc := 160) hC [aI r1, aI m_cutLast_8] [] dX10_cuts_160 ml_RX10_303 my_X10_longOf mi_X10_longOf lM_0 rfl rfl ⟨Nat.le_of_ble_eq_true rfl, Nat.le_of_ble_eq_true rfl⟩ ⟨Nat.le_of_ble_eq_true rfl, Nat.le_of_ble_eq_true rfl⟩ (Nat.le_of_ble_eq_true rfl) rfl (s_M_longOf l _ _ _ _ h) (fun r9 w1 hq => ?_)
                  obtain ⟨e9, h⟩ := hq
                  rw [e9]
                  refine r_iload_n (pc := 163) hC 2 dX10_cuts_163 rfl rfl ?_
                  refine r_ic_gt (pc := 164) (tgt := 171) hC dX10_cuts_164 rfl (fun hc1 => ?_) (fun hc1 => ?_)
                  · have h := h.1 hc1
                    refine r_iconst (pc := 171) hC dX10_cuts_171 (rng_lit rfl) ?_
                    refine r_conv (w2 := (wI (wI (wI (wA (wA w 30 m_inWindow_6) 32 m_window_7) 0 47 r1) 0 48 m_cutLast_8) 0 49 y3)) rfl ?_
                    exact r_reti (pc := 172) (kd := 1) hC hQ dX10_cuts_172 hr hk (by decide) (Or.inr okK1_0) ⟨m_inWindow_6, m_window_7, r1, m_cutLast_8, y3, rfl, h⟩
                  have h := h.2 hc1
                  refine r_iconst (pc := 167) hC dX10_cuts_167 (rng_lit rfl) ?_
                  refine r_goto (tgt := 172) (pc := 168) hC dX10_cuts_168 rfl ?_
                  refine r_conv (w2 := (wI (wI (wI (wA (wA w 30 m_inWindow_6) 32 m_window_7) 0 47 r1) 0 48 m_cutLast_8) 0 49 y3)) rfl ?_
                  exact r_reti (pc := 172) (kd := 1) hC hQ dX10_cuts_172 hr hk (by decide) (Or.inr okK1_1) ⟨m_inWindow_6, m_window_7, r1, m_cutLast_8, y3, rfl, h⟩
                refine r_ic_ge (pc := 123) (tgt := 154) hC dX10_cuts_123 rfl (fun hc3 => ?_) (fun hc3 => ?_)
                · have h := h.1 hc3
                  exact r_to [true, false, true, true, false] rfl rfl (S4 h)
                have h := h.2 hc3
                refine r_aload_n (pc := 126) hC 0 dX10_cuts_126 rfl rfl ?_
                refine r_iload_n (pc := 127) hC 3 dX10_cuts_127 rfl rfl ?_
                refine r_aload_n (pc := 128) hC 0 dX10_cuts_128 rfl rfl ?_
                refine r_get (kd := 0) (v := m_cutLast_8) (pc := 129) hC dX10_cuts_129 fl_RX10_337 lM_0 rfl rfl ?_
                refine r_iconst (pc := 132) hC dX10_cuts_132 (rng_lit rfl) ?_
                refine r_iadd (pc := 133) hC dX10_cuts_133 h.1 ?_
                have h := h.2
                refine r_callVi (pc := 134) hC [aI r1, aI (m_cutLast_8 + 1)] [] dX10_cuts_134 ml_RX10_303 my_X10_longOf mi_X10_longOf lM_0 rfl rfl ⟨Nat.le_of_ble_eq_true rfl, Nat.le_of_ble_eq_true rfl⟩ ⟨Nat.le_of_ble_eq_true rfl, Nat.le_of_ble_eq_true rfl⟩ (Nat.le_of_ble_eq_true rfl) rfl (s_M_longOf l _ _ _ _ h) (fun r10 w1 hq => ?_)
                obtain ⟨e9, h⟩ := hq
                rw [e9]
                refine r_iload_n (pc := 137) hC 2 dX10_cuts_137 rfl rfl ?_
                refine r_ic_gt (pc := 138) (tgt := 154) hC dX10_cuts_138 rfl (fun hc2 => ?_) (fun hc2 => ?_)
                · have h := h.1 hc2
                  exact r_to [true, false, true, true, false] rfl rfl (S4 h)
                have h := h.2 hc2
                refine r_aload_n (pc := 141) hC 0 dX10_cuts_141 rfl rfl ?_
                refine r_dup (pc := 142) hC dX10_cuts_142 rfl ?_
                refine r_get (kd := 0) (v := m_cutLast_8) (pc := 143) hC dX10_cuts_143 fl_RX10_337 lM_0 rfl rfl ?_
                refine r_iconst (pc := 146) hC dX10_cuts_146 (rng_lit rfl) ?_
                refine r_iadd (pc := 147) hC dX10_cuts_147 h.1 ?_
                have h := h.2
                refine r_put (kd := 0) (pc := 148) hC dX10_cuts_148 pl_RX10_337 lM_0 rfl (by decide) (Or.inl rfl) ?_
                refine r_goto (tgt := 117) (pc := 151) hC dX10_cuts_151 rfl ?_
                exact r_to [true, false, true, true, true] rfl rfl (ih3 (m_cutLast_8 + 1) (Nat.lt_of_lt_of_le h.2 (Nat.le_of_lt_succ hn3)) h.1)
            exact r_to [true, false, true, true, true] rfl rfl (S3 _ r1 (Nat.lt_succ_self _) hI3)
          have h := h.2 hc4
          refine r_aload_n (pc := 90) hC 0 dX10_cuts_90 rfl rfl ?_
          refine r_aload_n (pc := 91) hC 0 dX10_cuts_91 rfl rfl ?_
          refine r_getr (r := 32) (pc := 92) hC dX10_cuts_92 fl_RX10_109 lM_0 rfl ?_
          refine r_iconst (pc := 95) hC dX10_cuts_95 (rng_lit rfl) ?_
          refine r_iald (v := (m_window_7 (Int.toNat 0))) (pc := 96) hC dX10_cuts_96 lM_32 h.1.1 h.1.2 rfl ?_
          have h := h.2
          refine r_put (kd := 0) (pc := 97) hC dX10_cuts_97 pl_RX10_334 lM_0 rfl (by decide) (Or.inl rfl) ?_
          refine r_aload_n (pc := 100) hC 0 dX10_cuts_100 rfl rfl ?_
          refine r_aload_n (pc := 101) hC 0 dX10_cuts_101 rfl rfl ?_
          refine r_getr (r := 32) (pc := 102) hC dX10_cuts_102 fl_RX10_109 lM_0 rfl ?_
          refine r_iconst (pc := 105) hC dX10_cuts_105 (rng_lit rfl) ?_
          refine r_iald (v := (m_window_7 (Int.toNat 1))) (pc := 106) hC dX10_cuts_106 lM_32 h.1.1 h.1.2 rfl ?_
          have h := h.2
          refine r_put (kd := 0) (pc := 107) hC dX10_cuts_107 pl_RX10_337 lM_0 rfl (by decide) (Or.inl rfl) ?_
          refine r_iconst (pc := 110) hC dX10_cuts_110 (rng_lit rfl) ?_
          refine r_conv (w2 := (wI (wI (wI (wA (wA w 30 m_inWindow_6) 32 m_window_7) 0 47 (m_window_7 (Int.toNat 0))) 0 48 (m_window_7 (Int.toNat 1))) 0 49 y3)) rfl ?_
          exact r_reti (pc := 111) (kd := 1) hC hQ dX10_cuts_111 hr hk (by decide) (Or.inr okK1_1) ⟨m_inWindow_6, m_window_7, (m_window_7 (Int.toNat 0)), (m_window_7 (Int.toNat 1)), y3, rfl, h⟩
        have h := h.2 hc5
        refine r_iconst (pc := 77) hC dX10_cuts_77 (rng_lit rfl) ?_
        refine r_conv (w2 := (wI (wI (wI (wA (wA w 30 (w.1 30)) 32 (w.1 32)) 0 47 r1) 0 48 y4) 0 49 y3)) rfl ?_
        exact r_reti (pc := 78) (kd := 1) hC hQ dX10_cuts_78 hr hk (by decide) (Or.inr okK1_0) ⟨(w.1 30), (w.1 32), r1, y4, y3, rfl, h⟩
      have h := h.2 hc6
      refine r_iconst (pc := 70) hC dX10_cuts_70 (rng_lit rfl) ?_
      refine r_conv (w2 := (wI (wI (wI (wA (wA w 30 (w.1 30)) 32 (w.1 32)) 0 47 r1) 0 48 y4) 0 49 y3)) rfl ?_
      exact r_reti (pc := 71) (kd := 1) hC hQ dX10_cuts_71 hr hk (by decide) (Or.inr okK1_1) ⟨(w.1 30), (w.1 32), r1, y4, y3, rfl, h⟩
    refine r_ic_ne (pc := 51) (tgt := 58) hC dX10_cuts_51 rfl (fun hc7 => ?_) (fun hc7 => ?_)
    · have h := h.1 hc7
      refine r_iload (pc := 58) hC dX10_cuts_58 rfl ?_
      exact r_to [true, false, true, true, true] rfl rfl (S2 ((r1 + r2) - 1) h)
    have h := h.2 hc7
    refine r_iconst (pc := 54) hC dX10_cuts_54 (rng_lit rfl) ?_
    refine r_goto (tgt := 60) (pc := 55) hC dX10_cuts_55 rfl ?_
    exact r_to [true, false, true, true, true] rfl rfl (S2 (-1) h)
  refine r_ic_gt (pc := 32) (tgt := 39) hC dX10_cuts_32 rfl (fun hc8 => ?_) (fun hc8 => ?_)
  · have h := h.1 hc8
    refine r_iconst (pc := 39) hC dX10_cuts_39 (rng_lit rfl) ?_
    exact r_to [true, false, true, true, true] rfl rfl (S1 0 h)
  have h := h.2 hc8
  refine r_iconst (pc := 35) hC dX10_cuts_35 (rng_lit rfl) ?_
  refine r_goto (tgt := 40) (pc := 36) hC dX10_cuts_36 rfl ?_
  exact r_to [true, false, true, true, true] rfl rfl (S1 1 h)
def wp_M_noSentence (m_thrown : Int) (m_sentences : Int) (a1 : Int) (Q : Int → Int → Prop) : Prop := (rng (m_sentences - 1)) ∧ (wp_M_in a1 0 (m_sentences - 1) (fun (r1 : Int) => jn1 (fun (J1 : Int → Prop) => (¬ r1 = 0 → J1 0) ∧ (r1 = 0 → J1 1)) (fun (y2 : Int) => wp_M_throwsIf 0 y2 1 (fun (r3 : Int) (m_thrown_4 : Int) => (0 ≤ r3 ∧ r3 ≤ 1) ∧ (Q r3 m_thrown_4)))))
set_option maxHeartbeats 4000000 in
set_option maxRecDepth 20000 in
theorem s_M_noSentence (l : Launch) (w : St) (a1 : Int) (P : Int → Int → Prop) (h : wp_M_noSentence (w.1 0 0) (w.1 0 16) a1 P) : Cn l yX10_noSentence cX10_noSentence 2 (some .boolean) 1 LM w [aR 0, aI a1] (okI (fun r w1 => ∃ (o0 : Int), w1 = (wI w 0 0 o0) ∧ P r o0)) := by
  unfold wp_M_noSentence at h
  refine Cn.of2 [some (aR 0), some (aI a1)] (by decide) (Nat.le_of_ble_eq_true rfl) rfl (fun p e s m args below meth c D cA ad A Q hQ hC hr hk => ?_)
  refine r_aload_n (pc := 0) hC 0 dX10_noSentence_0 rfl rfl ?_
  refine r_iconst (pc := 1) hC dX10_noSentence_1 (rng_lit rfl) ?_
  refine r_put (kd := 0) (pc := 2) hC dX10_noSentence_2 pl_RX10_142 lM_0 rfl (by decide) (Or.inl rfl) ?_
  refine r_aload_n (pc := 5) hC 0 dX10_noSentence_5 rfl rfl ?_
  refine r_iload_n (pc := 6) hC 1 dX10_noSentence_6 rfl rfl ?_
  refine r_iconst (pc := 7) hC dX10_noSentence_7 (rng_lit rfl) ?_
  refine r_aload_n (pc := 8) hC 0 dX10_noSentence_8 rfl rfl ?_
  refine r_get (kd := 0) (v := (w.1 0 16)) (pc := 9) hC dX10_noSentence_9 fl_RX10_203 lM_0 rfl rfl ?_
  refine r_iconst (pc := 12) hC dX10_noSentence_12 (rng_lit rfl) ?_
  refine r_isub (pc := 13) hC dX10_noSentence_13 h.1 ?_
  have h := h.2
  refine r_callSi (pc := 14) hC [aI a1, aI 0, aI ((w.1 0 16) - 1)] [aR 0] dX10_noSentence_14 ml_RX10_151 my_X10_in ms_X10_in rfl ⟨Nat.le_of_ble_eq_true rfl, Nat.le_of_ble_eq_true rfl⟩ ⟨Nat.le_of_ble_eq_true rfl, Nat.le_of_ble_eq_true rfl⟩ (Nat.le_of_ble_eq_true rfl) rfl (s_M_in l _ _ _ _ _ h) (fun r1 w1 hq => ?_)
  obtain ⟨e9, h⟩ := hq
  rw [e9]
  obtain ⟨J1, hJ1, h⟩ := h
  have S1 : ∀ (y2 : Int), J1 y2 → Wd p l e (rmD 1) s m args below meth c Q 0 0 2 D cA ad A LM (wI w 0 0 0) 25 [none, none] [aI y2, aR 0] := by
    intro y2 hj
    have h := hJ1 y2 hj
    refine r_iconst (pc := 25) hC dX10_noSentence_25 (rng_lit rfl) ?_
    refine r_callVi (pc := 26) hC [aI y2, aI 1] [] dX10_noSentence_26 ml_RX10_309 my_X10_throwsIf mi_X10_throwsIf lM_0 rfl rfl ⟨Nat.le_of_ble_eq_true rfl, Nat.le_of_ble_eq_true rfl⟩ ⟨Nat.le_of_ble_eq_true rfl, Nat.le_of_ble_eq_true rfl⟩ (Nat.le_of_ble_eq_true rfl) rfl (s_M_throwsIf l _ _ _ _ h) (fun r3 w1 hq => ?_)
    obtain ⟨m_thrown_4, e9, h⟩ := hq
    rw [e9]
    refine r_conv (w2 := (wI w 0 0 m_thrown_4)) rfl ?_
    exact r_reti (pc := 29) (kd := 1) hC hQ dX10_noSentence_29 hr hk (by decide) (Or.inr h.1) ⟨m_thrown_4, rfl, h.2⟩
  refine r_if_ne (pc := 17) (tgt := 24) hC dX10_noSentence_17 rfl (fun hc1 => ?_) (fun hc1 => ?_)
  · have h := h.1 hc1
    refine r_iconst (pc := 24) hC dX10_noSentence_24 (rng_lit rfl) ?_
    exact r_to [false, false] rfl rfl (S1 0 h)
  have h := h.2 hc1
  refine r_iconst (pc := 20) hC dX10_noSentence_20 (rng_lit rfl) ?_
  refine r_goto (tgt := 25) (pc := 21) hC dX10_noSentence_21 rfl ?_
  exact r_to [false, false] rfl rfl (S1 1 h)
def wp_M_cut (m_wordFrom : (Nat → Int)) (m_wordTo : (Nat → Int)) (m_sentenceOf : (Nat → Int)) (m_from : (Nat → Int)) (m_to : (Nat → Int)) (m_weight : (Nat → Int)) (m_terms : (Nat → Int)) (m_isMatch : (Nat → Int)) (m_inWindow : (Nat → Int)) (m_window : (Nat → Int)) (m_thrown : Int) (m_words : Int) (m_sentences : Int) (m_items : Int) (m_cutFirst : Int) (m_cutLast : Int) (m_isWhole : Int) (a1 : Int) (a2 : Int) (a3 : Int) (Q : Int → (Nat → Int) → (Nat → Int) → Int → Int → Int → Int → Prop) : Prop := wp_M_noSentence m_thrown m_sentences a1 (fun (r1 : Int) (m_thrown_2 : Int) => (¬ r1 = 0 → Q 0 m_inWindow m_window m_thrown_2 m_cutFirst m_cutLast m_isWhole) ∧ (r1 = 0 → wp_M_in a3 0 2 (fun (r3 : Int) => jn1 (fun (J1 : Int → Prop) => (¬ r3 = 0 → J1 0) ∧ (r3 = 0 → J1 1)) (fun (y4 : Int) => wp_M_throwsIf m_thrown_2 y4 2 (fun (r5 : Int) (m_thrown_6 : Int) => (¬ r5 = 0 → Q 0 m_inWindow m_window m_thrown_6 m_cutFirst m_cutLast m_isWhole) ∧ (r5 = 0 → wp_M_in a2 10 600 (fun (r7 : Int) => jn1 (fun (J2 : Int → Prop) => (¬ r7 = 0 → J2 0) ∧ (r7 = 0 → J2 1)) (fun (y8 : Int) => wp_M_throwsIf m_thrown_6 y8 3 (fun (r9 : Int) (m_thrown_10 : Int) => (r9 = 0 → wp_M_cuts m_wordFrom m_wordTo m_sentenceOf m_from m_to m_weight m_terms m_isMatch m_inWindow m_window m_words m_items m_cutFirst m_cutLast m_isWhole a1 a2 (fun (r11 : Int) (m_inWindow_12 : (Nat → Int)) (m_window_13 : (Nat → Int)) (m_cutFirst_14 : Int) (m_cutLast_15 : Int) (m_isWhole_16 : Int) => (¬ a3 = 2 → (¬ r11 = 0 → (¬ a3 = 0 → Q m_cutLast_15 m_inWindow_12 m_window_13 m_thrown_10 m_cutFirst_14 m_cutLast_15 m_isWhole_16) ∧ (a3 = 0 → Q m_cutFirst_14 m_inWindow_12 m_window_13 m_thrown_10 m_cutFirst_14 m_cutLast_15 m_isWhole_16)) ∧ (r11 = 0 → Q (-1) m_inWindow_12 m_window_13 m_thrown_10 m_cutFirst_14 m_cutLast_15 m_isWhole_16)) ∧ (a3 = 2 → (r11 = 0 → Q 0 m_inWindow_12 m_window_13 m_thrown_10 m_cutFirst_14 m_cutLast_15 m_isWhole_16) ∧ (¬ r11 = 0 → (m_isWhole_16 = 0 → Q 0 m_inWindow_12 m_window_13 m_thrown_10 m_cutFirst_14 m_cutLast_15 m_isWhole_16) ∧ (¬ m_isWhole_16 = 0 → Q 1 m_inWindow_12 m_window_13 m_thrown_10 m_cutFirst_14 m_cutLast_15 m_isWhole_16))))) ∧ (¬ r9 = 0 → Q 0 m_inWindow m_window m_thrown_10 m_cutFirst m_cutLast m_isWhole))))))))))
set_option maxHeartbeats 4000000 in
set_option maxRecDepth 20000 in
theorem s_M_cut (l : Launch) (w : St) (a1 : Int) (a2 : Int) (a3 : Int) (P : Int → (Nat → Int) → (Nat → Int) → Int → Int → Int → Int → Prop) (h : wp_M_cut (w.1 5) (w.1 6) (w.1 7) (w.1 9) (w.1 10) (w.1 12) (w.1 13) (w.1 27) (w.1 30) (w.1 32) (w.1 0 0) (w.1 0 12) (w.1 0 16) (w.1 0 29) (w.1 0 47) (w.1 0 48) (w.1 0 49) a1 a2 a3 P) : Cn l yX10_cut cX10_cut 5 (some .int) 4 LM w [aR 0, aI a1, aI a2, aI a3] (okI (fun r w1 => ∃ (o0 : (Nat → Int)) (o1 : (Nat → Int)) (o2 : Int) (o3 : Int) (o4 : Int) (o5 : Int), w1 = (wI (wI (wI (wI (wA (wA w 30 o0) 32 o1) 0 0 o2) 0 47 o3) 0 48 o4) 0 49 o5) ∧ P r o0 o1 o2 o3 o4 o5)) := by
  unfold wp_M_cut at h
  refine Cn.of2 [some (aR 0), some (aI a1), some (aI a2), some (aI a3), none] (by decide) (Nat.le_of_ble_eq_true rfl) rfl (fun p e s m args below meth c D cA ad A Q hQ hC hr hk => ?_)
  refine r_aload_n (pc := 0) hC 0 dX10_cut_0 rfl rfl ?_
  refine r_iload_n (pc := 1) hC 1 dX10_cut_1 rfl rfl ?_
  refine r_callVi (pc := 2) hC [aI a1] [] dX10_cut_2 ml_RX10_340 my_X10_noSentence mi_X10_noSentence lM_0 rfl rfl ⟨Nat.le_of_ble_eq_true rfl, Nat.le_of_ble_eq_true rfl⟩ ⟨Nat.le_of_ble_eq_true rfl, Nat.le_of_ble_eq_true rfl⟩ (Nat.le_of_ble_eq_true rfl) rfl (s_M_noSentence l _ _ _ h) (fun r1 w1 hq => ?_)
  obtain ⟨m_thrown_2, e9, h⟩ := hq
  rw [e9]
  refine r_if_ne (pc := 5) (tgt := 55) hC dX10_cut_5 rfl (fun hc10 => ?_) (fun hc10 => ?_)
  · have h := h.1 hc10
    refine r_iconst (pc := 55) hC dX10_cut_55 (rng_lit rfl) ?_
    refine r_conv (w2 := (wI (wI (wI (wI (wA (wA w 30 (w.1 30)) 32 (w.1 32)) 0 0 m_thrown_2) 0 47 (w.1 0 47)) 0 48 (w.1 0 48)) 0 49 (w.1 0 49))) rfl ?_
    exact r_reti (pc := 56) (kd := 0) hC hQ dX10_cut_56 hr hk (by decide) (Or.inl rfl) ⟨(w.1 30), (w.1 32), m_thrown_2, (w.1 0 47), (w.1 0 48), (w.1 0 49), rfl, h⟩
  have h := h.2 hc10
  refine r_aload_n (pc := 8) hC 0 dX10_cut_8 rfl rfl ?_
  refine r_iload_n (pc := 9) hC 3 dX10_cut_9 rfl rfl ?_
  refine r_iconst (pc := 10) hC dX10_cut_10 (rng_lit rfl) ?_
  refine r_iconst (pc := 11) hC dX10_cut_11 (rng_lit rfl) ?_
  refine r_callSi (pc := 12) hC [aI a3, aI 0, aI 2] [aR 0] dX10_cut_12 ml_RX10_151 my_X10_in ms_X10_in rfl ⟨Nat.le_of_ble_eq_true rfl, Nat.le_of_ble_eq_true rfl⟩ ⟨Nat.le_of_ble_eq_true rfl, Nat.le_of_ble_eq_true rfl⟩ (Nat.le_of_ble_eq_true rfl) rfl (s_M_in l _ _ _ _ _ h) (fun r3 w1 hq => ?_)
  obtain ⟨e9, h⟩ := hq
  rw [e9]
  obtain ⟨J1, hJ1, h⟩ := h
  have S1 : ∀ (y4 : Int), J1 y4 → Wd p l e (rmD 4) s m args below meth c Q 0 0 5 D cA ad A LM (wI w 0 0 m_thrown_2) 23 [some (aR 0), some (aI a1), some (aI a2), some (aI a3), none] [aI y4, aR 0] := by
    intro y4 hj
    have h := hJ1 y4 hj
    refine r_iconst (pc := 23) hC dX10_cut_23 (rng_lit rfl) ?_
    refine r_callVi (pc := 24) hC [aI y4, aI 2] [] dX10_cut_24 ml_RX10_309 my_X10_throwsIf mi_X10_throwsIf lM_0 rfl rfl ⟨Nat.le_of_ble_eq_true rfl, Nat.le_of_ble_eq_true rfl⟩ ⟨Nat.le_of_ble_eq_true rfl, Nat.le_of_ble_eq_true rfl⟩ (Nat.le_of_ble_eq_true rfl) rfl (s_M_throwsIf l _ _ _ _ h) (fun r5 w1 hq => ?_)
    obtain ⟨m_thrown_6, e9, h⟩ := hq
    rw [e9]
    refine r_if_ne (pc := 27) (tgt := 55) hC dX10_cut_27 rfl (fun hc8 => ?_) (fun hc8 => ?_)
    · have h := h.1 hc8
      refine r_iconst (pc := 55) hC dX10_cut_55 (rng_lit rfl) ?_
      refine r_conv (w2 := (wI (wI (wI (wI (wA (wA w 30 (w.1 30)) 32 (w.1 32)) 0 0 m_thrown_6) 0 47 (w.1 0 47)) 0 48 (w.1 0 48)) 0 49 (w.1 0 49))) rfl ?_
      exact r_reti (pc := 56) (kd := 0) hC hQ dX10_cut_56 hr hk (by decide) (Or.inl rfl) ⟨(w.1 30), (w.1 32), m_thrown_6, (w.1 0 47), (w.1 0 48), (w.1 0 49), rfl, h⟩
    have h := h.2 hc8
    refine r_aload_n (pc := 30) hC 0 dX10_cut_30 rfl rfl ?_
    refine r_iload_n (pc := 31) hC 2 dX10_cut_31 rfl rfl ?_
    refine r_bipush (pc := 32) hC dX10_cut_32 ⟨rfl, rng_lit rfl⟩ ?_
    refine r_sipush (pc := 34) hC dX10_cut_34 ⟨rfl, rng_lit rfl⟩ ?_
    refine r_callSi (pc := 37) hC [aI a2, aI 10, aI 600] [aR 0] dX10_cut_37 ml_RX10_151 my_X10_in ms_X10_in rfl ⟨Nat.le_of_ble_eq_true rfl, Nat.le_of_ble_eq_true rfl⟩ ⟨Nat.le_of_ble_eq_true rfl, Nat.le_of_ble_eq_true rfl⟩ (Nat.le_of_ble_eq_true rfl) rfl (s_M_in l _ _ _ _ _ h) (fun r7 w1 hq => ?_)
    obtain ⟨e9, h⟩ := hq
    rw [e9]
    obtain ⟨J2, hJ2, h⟩ := h
    have S2 : ∀ (y8 : Int), J2 y8 → Wd p l e (rmD 4) s m args below meth c Q 0 0 5 D cA ad A LM (wI w 0 0 m_thrown_6) 48 [some (aR 0), some (aI a1), some (aI a2), some (aI a3), none] [aI y8, aR 0] := by
      intro y8 hj
      have h := hJ2 y8 hj
      refine r_iconst (pc := 48) hC dX10_cut_48 (rng_lit rfl) ?_
      refine r_callVi (pc := 49) hC [aI y8, aI 3] [] dX10_cut_49 ml_RX10_309 my_X10_throwsIf mi_X10_throwsIf lM_0 rfl rfl ⟨Nat.le_of_ble_eq_true rfl, Nat.le_of_ble_eq_true rfl⟩ ⟨Nat.le_of_ble_eq_true rfl, Nat.le_of_ble_eq_true rfl⟩ (Nat.le_of_ble_eq_true rfl) rfl (s_M_throwsIf l _ _ _ _ h) (fun r9 w1 hq => ?_)
      obtain ⟨m_thrown_10, e9, h⟩ := hq
      rw [e9]
      refine r_if_eq (pc := 52) (tgt := 57) hC dX10_cut_52 rfl (fun hc6 => ?_) (fun hc6 => ?_)
      · have h := h.1 hc6
        refine r_aload_n (pc := 57) hC 0 dX10_cut_57 rfl rfl ?_
        refine r_iload_n (pc := 58) hC 1 dX10_cut_58 rfl rfl ?_
        refine r_iload_n (pc := 59) hC 2 dX10_cut_59 rfl rfl ?_
        refine r_callVi (pc := 60) hC [aI a1, aI a2] [] dX10_cut_60 ml_RX10_343 my_X10_cuts mi_X10_cuts lM_0 rfl rfl ⟨Nat.le_of_ble_eq_true rfl, Nat.le_of_ble_eq_true rfl⟩ ⟨Nat.le_of_ble_eq_true rfl, Nat.le_of_ble_eq_true rfl⟩ (Nat.le_of_ble_eq_true rfl) rfl (s_M_cuts l _ _ _ _ h) (fun r11 w1 hq => ?_)
        obtain ⟨m_inWindow_12, m_window_13, m_cutFirst_14, m_cutLast_15, m_isWhole_16, e9, h⟩ := hq
        rw [e9]
        refine r_istore (ls2 := [some (aR 0), some (aI a1), some (aI a2), some (aI a3), some (aI r11)]) (pc := 63) hC dX10_cut_63 (by decide) rfl rfl ?_
        refine r_iload_n (pc := 65) hC 3 dX10_cut_65 rfl rfl ?_
        refine r_iconst (pc := 66) hC dX10_cut_66 (rng_lit rfl) ?_
        refine r_ic_ne (pc := 67) (tgt := 88) hC dX10_cut_67 rfl (fun hc5 => ?_) (fun hc5 => ?_)
        · have h := h.1 hc5
          refine r_iload (pc := 88) hC dX10_cut_88 rfl ?_
          refine r_if_ne (pc := 90) (tgt := 97) hC dX10_cut_90 rfl (fun hc2 => ?_) (fun hc2 => ?_)
          · have h := h.1 hc2
            refine r_iload_n (pc := 97) hC 3 dX10_cut_97 rfl rfl ?_
            refine r_if_ne (pc := 98) (tgt := 108) hC dX10_cut_98 rfl (fun hc1 => ?_) (fun hc1 => ?_)
            · have h := h.1 hc1
              refine r_aload_n (pc := 108) hC 0 dX10_cut_108 rfl rfl ?_
              refine r_get (kd := 0) (v := m_cutLast_15) (pc := 109) hC dX10_cut_109 fl_RX10_337 lM_0 rfl rfl ?_
              refine r_conv (w2 := (wI (wI (wI (wI (wA (wA w 30 m_inWindow_12) 32 m_window_13) 0 0 m_thrown_10) 0 47 m_cutFirst_14) 0 48 m_cutLast_15) 0 49 m_isWhole_16)) rfl ?_
              exact r_reti (pc := 112) (kd := 0) hC hQ dX10_cut_112 hr hk (by decide) (Or.inl rfl) ⟨m_inWindow_12, m_window_13, m_thrown_10, m_cutFirst_14, m_cutLast_15, m_isWhole_16, rfl, h⟩
            have h := h.2 hc1
            refine r_aload_n (pc := 101) hC 0 dX10_cut_101 rfl rfl ?_
            refine r_get (kd := 0) (v := m_cutFirst_14) (pc := 102) hC dX10_cut_102 fl_RX10_334 lM_0 rfl rfl ?_
            refine r_goto (tgt := 112) (pc := 105) hC dX10_cut_105 rfl ?_
            refine r_conv (w2 := (wI (wI (wI (wI (wA (wA w 30 m_inWindow_12) 32 m_window_13) 0 0 m_thrown_10) 0 47 m_cutFirst_14) 0 48 m_cutLast_15) 0 49 m_isWhole_16)) rfl ?_
            exact r_reti (pc := 112) (kd := 0) hC hQ dX10_cut_112 hr hk (by decide) (Or.inl rfl) ⟨m_inWindow_12, m_window_13, m_thrown_10, m_cutFirst_14, m_cutLast_15, m_isWhole_16, rfl, h⟩
          have h := h.2 hc2
          refine r_iconst (pc := 93) hC dX10_cut_93 (rng_lit rfl) ?_
          refine r_goto (tgt := 112) (pc := 94) hC dX10_cut_94 rfl ?_
          refine r_conv (w2 := (wI (wI (wI (wI (wA (wA w 30 m_inWindow_12) 32 m_window_13) 0 0 m_thrown_10) 0 47 m_cutFirst_14) 0 48 m_cutLast_15) 0 49 m_isWhole_16)) rfl ?_
          exact r_reti (pc := 112) (kd := 0) hC hQ dX10_cut_112 hr hk (by decide) (Or.inl rfl) ⟨m_inWindow_12, m_window_13, m_thrown_10, m_cutFirst_14, m_cutLast_15, m_isWhole_16, rfl, h⟩
        have h := h.2 hc5
        refine r_iload (pc := 70) hC dX10_cut_70 rfl ?_
        refine r_if_eq (pc := 72) (tgt := 86) hC dX10_cut_72 rfl (fun hc4 => ?_) (fun hc4 => ?_)
        · have h := h.1 hc4
          refine r_iconst (pc := 86) hC dX10_cut_86 (rng_lit rfl) ?_
          refine r_conv (w2 := (wI (wI (wI (wI (wA (wA w 30 m_inWindow_12) 32 m_window_13) 0 0 m_thrown_10) 0 47 m_cutFirst_14) 0 48 m_cutLast_15) 0 49 m_isWhole_16)) rfl ?_
          exact r_reti (pc := 87) (kd := 0) hC hQ dX10_cut_87 hr hk (by decide) (Or.inl rfl) ⟨m_inWindow_12, m_window_13, m_thrown_10, m_cutFirst_14, m_cutLast_15, m_isWhole_16, rfl, h⟩
        have h := h.2 hc4
        refine r_aload_n (pc := 75) hC 0 dX10_cut_75 rfl rfl ?_
        refine r_get (kd := 1) (v := m_isWhole_16) (pc := 76) hC dX10_cut_76 fl_RX10_331 lM_0 rfl rfl ?_
        refine r_if_eq (pc := 79) (tgt := 86) hC dX10_cut_79 rfl (fun hc3 => ?_) (fun hc3 => ?_)
        · have h := h.1 hc3
          refine r_iconst (pc := 86) hC dX10_cut_86 (rng_lit rfl) ?_
          refine r_conv (w2 := (wI (wI (wI (wI (wA (wA w 30 m_inWindow_12) 32 m_window_13) 0 0 m_thrown_10) 0 47 m_cutFirst_14) 0 48 m_cutLast_15) 0 49 m_isWhole_16)) rfl ?_
          exact r_reti (pc := 87) (kd := 0) hC hQ dX10_cut_87 hr hk (by decide) (Or.inl rfl) ⟨m_inWindow_12, m_window_13, m_thrown_10, m_cutFirst_14, m_cutLast_15, m_isWhole_16, rfl, h⟩
        have h := h.2 hc3
        refine r_iconst (pc := 82) hC dX10_cut_82 (rng_lit rfl) ?_
        refine r_goto (tgt := 87) (pc := 83) hC dX10_cut_83 rfl ?_
        refine r_conv (w2 := (wI (wI (wI (wI (wA (wA w 30 m_inWindow_12) 32 m_window_13) 0 0 m_thrown_10) 0 47 m_cutFirst_14) 0 48 m_cutLast_15) 0 49 m_isWhole_16)) rfl ?_
        exact r_reti (pc := 87) (kd := 0) hC hQ dX10_cut_87 hr hk (by decide) (Or.inl rfl) ⟨m_inWindow_12, m_window_13, m_thrown_10, m_cutFirst_14, m_cutLast_15, m_isWhole_16, rfl, h⟩
      have h := h.2 hc6
      refine r_iconst (pc := 55) hC dX10_cut_55 (rng_lit rfl) ?_
      refine r_conv (w2 := (wI (wI (wI (wI (wA (wA w 30 (w.1 30)) 32 (w.1 32)) 0 0 m_thrown_10) 0 47 (w.1 0 47)) 0 48 (w.1 0 48)) 0 49 (w.1 0 49))) rfl ?_
      exact r_reti (pc := 56) (kd := 0) hC hQ dX10_cut_56 hr hk (by decide) (Or.inl rfl) ⟨(w.1 30), (w.1 32), m_thrown_10, (w.1 0 47), (w.1 0 48), (w.1 0 49), rfl, h⟩
    refine r_if_ne (pc := 40) (tgt := 47) hC dX10_cut_40 rfl (fun hc7 => ?_) (fun hc7 => ?_)
    · have h := h.1 hc7
      refine r_iconst (pc := 47) hC dX10_cut_47 (rng_lit rfl) ?_
      exact r_to [true, true, true, true, false] rfl rfl (S2 0 h)
    have h := h.2 hc7
    refine r_iconst (pc := 43) hC dX10_cut_43 (rng_lit rfl) ?_
    refine r_goto (tgt := 48) (pc := 44) hC dX10_cut_44 rfl ?_
    exact r_to [true, true, true, true, false] rfl rfl (S2 1 h)
  refine r_if_ne (pc := 15) (tgt := 22) hC dX10_cut_15 rfl (fun hc9 => ?_) (fun hc9 => ?_)
  · have h := h.1 hc9
    refine r_iconst (pc := 22) hC dX10_cut_22 (rng_lit rfl) ?_
    exact r_to [true, true, true, true, false] rfl rfl (S1 0 h)
  have h := h.2 hc9
  refine r_iconst (pc := 18) hC dX10_cut_18 (rng_lit rfl) ?_
  refine r_goto (tgt := 23) (pc := 19) hC dX10_cut_19 rfl ?_
  exact r_to [true, true, true, true, false] rfl rfl (S1 1 h)
def wp_M_tell (m_thrown : Int) (m_areLikeLaid : Int) (m_budget : Int) (m_mostOf : Int) (m_limit : Int) (m_chosen : Int) (a1 : Int) (a2 : Int) (Q : Int → Int → Int → Int → Int → Int → Int → Prop) : Prop := wp_M_in a1 0 2 (fun (r1 : Int) => jn1 (fun (J1 : Int → Prop) => (¬ r1 = 0 → J1 0) ∧ (r1 = 0 → J1 1)) (fun (y2 : Int) => wp_M_throwsIf 0 y2 1 (fun (r3 : Int) (m_thrown_4 : Int) => (r3 = 0 → jn1 (fun (J2 : Int → Prop) => (¬ a1 = 0 → (¬ a1 = 1 → wp_M_in a2 0 100 (fun (r12 : Int) => (¬ r12 = 0 → J2 0) ∧ (r12 = 0 → J2 1))) ∧ (a1 = 1 → wp_M_in a2 1 6 (fun (r13 : Int) => (¬ r13 = 0 → J2 0) ∧ (r13 = 0 → J2 1)))) ∧ (a1 = 0 → wp_M_in a2 20 700 (fun (r14 : Int) => (¬ r14 = 0 → J2 0) ∧ (r14 = 0 → J2 1)))) (fun (y5 : Int) => wp_M_throwsIf m_thrown_4 y5 2 (fun (r6 : Int) (m_thrown_7 : Int) => (r6 = 0 → jn1 (fun (J3 : Int → Prop) => (¬ a1 = 0 → (¬ a1 = 1 → J3 m_limit) ∧ (a1 = 1 → J3 m_mostOf)) ∧ (a1 = 0 → J3 m_budget)) (fun (y8 : Int) => jn1 (fun (J4 : Int → Prop) => (¬ a1 = 0 → J4 m_budget) ∧ (a1 = 0 → J4 a2)) (fun (y9 : Int) => jn1 (fun (J5 : Int → Prop) => (¬ a1 = 1 → J5 m_mostOf) ∧ (a1 = 1 → J5 a2)) (fun (y10 : Int) => jn1 (fun (J6 : Int → Prop) => (¬ a1 = 2 → J6 m_limit) ∧ (a1 = 2 → J6 a2)) (fun (y11 : Int) => Q y8 m_thrown_7 0 y9 y10 y11 0))))) ∧ (¬ r6 = 0 → Q 0 m_thrown_7 m_areLikeLaid m_budget m_mostOf m_limit m_chosen)))) ∧ (¬ r3 = 0 → Q 0 m_thrown_4 m_areLikeLaid m_budget m_mostOf m_limit m_chosen))))
set_option maxHeartbeats 4000000 in
set_option maxRecDepth 20000 in
theorem s_M_tell (l : Launch) (w : St) (a1 : Int) (a2 : Int) (P : Int → Int → Int → Int → Int → Int → Int → Prop) (h : wp_M_tell (w.1 0 0) (w.1 0 43) (w.1 0 50) (w.1 0 51) (w.1 0 52) (w.1 0 53) a1 a2 P) : Cn l yX10_tell cX10_tell 4 (some .int) 1 LM w [aR 0, aI a1, aI a2] (okI (fun r w1 => ∃ (o0 : Int) (o1 : Int) (o2 : Int) (o3 : Int) (o4 : Int) (o5 : Int), w1 = (wI (wI (wI (wI (wI (wI w 0 0 o0) 0 43 o1) 0 50 o2) 0 51 o3) 0 52 o4) 0 53 o5) ∧ P r o0 o1 o2 o3 o4 o5)) := by
  unfold wp_M_tell at h
  refine Cn.of2 [some (aR 0), some (aI a1), some (aI a2), none] (by decide) (Nat.le_of_ble_eq_true rfl) rfl (fun p e s m args below meth c D cA ad A Q hQ hC hr hk => ?_)
  refine r_aload_n (pc := 0) hC 0 dX10_tell_0 rfl rfl ?_
  refine r_iconst (pc := 1) hC dX10_tell_1 (rng_lit rfl) ?_
  refine r_put (kd := 0) (pc := 2) hC dX10_tell_2 pl_RX10_142 lM_0 rfl (by decide) (Or.inl rfl) ?_
  refine r_aload_n (pc := 5) hC 0 dX10_tell_5 rfl rfl ?_
  refine r_iload_n (pc := 6) hC 1 dX10_tell_6 rfl rfl ?_
  refine r_iconst (pc := 7) hC dX10_tell_7 (rng_lit rfl) ?_
  refine r_iconst (pc := 8) hC dX10_tell_8 (rng_lit rfl) ?_
  refine r_callSi (pc := 9) hC [aI a1, aI 0, aI 2] [aR 0] dX10_tell_9 ml_RX10_151 my_X10_in ms_X10_in rfl ⟨Nat.le_of_ble_eq_true rfl, Nat.le_of_ble_eq_true rfl⟩ ⟨Nat.le_of_ble_eq_true rfl, Nat.le_of_ble_eq_true rfl⟩ (Nat.le_of_ble_eq_true rfl) rfl (s_M_in l _ _ _ _ _ h) (fun r1 w1 hq => ?_)
  obtain ⟨e9, h⟩ := hq
  rw [e9]
  obtain ⟨J1, hJ1, h⟩ := h
  have S1 : ∀ (y2 : Int), J1 y2 → Wd p l e (rmD 1) s m args below meth c Q 0 0 4 D cA ad A LM (wI w 0 0 0) 20 [some (aR 0), some (aI a1), some (aI a2), none] [aI y2, aR 0] := by
    intro y2 hj
    have h := hJ1 y2 hj
    refine r_iconst (pc := 20) hC dX10_tell_20 (rng_lit rfl) ?_
    refine r_callVi (pc := 21) hC [aI y2, aI 1] [] dX10_tell_21 ml_RX10_309 my_X10_throwsIf mi_X10_throwsIf lM_0 rfl rfl ⟨Nat.le_of_ble_eq_true rfl, Nat.le_of_ble_eq_true rfl⟩ ⟨Nat.le_of_ble_eq_true rfl, Nat.le_of_ble_eq_true rfl⟩ (Nat.le_of_ble_eq_true rfl) rfl (s_M_throwsIf l _ _ _ _ h) (fun r3 w1 hq => ?_)
    obtain ⟨m_thrown_4, e9, h⟩ := hq
    rw [e9]
    refine r_if_eq (pc := 24) (tgt := 29) hC dX10_tell_24 rfl (fun hc12 => ?_) (fun hc12 => ?_)
    · have h := h.1 hc12
      refine r_aload_n (pc := 29) hC 0 dX10_tell_29 rfl rfl ?_
      refine r_iload_n (pc := 30) hC 1 dX10_tell_30 rfl rfl ?_
      obtain ⟨J2, hJ2, h⟩ := h
      have S2 : ∀ (y5 : Int), J2 y5 → Wd p l e (rmD 1) s m args below meth c Q 0 0 4 D cA ad A LM (wI w 0 0 m_thrown_4) 92 [some (aR 0), some (aI a1), some (aI a2), none] [aI y5, aR 0] := by
        intro y5 hj
        have h := hJ2 y5 hj
        refine r_iconst (pc := 92) hC dX10_tell_92 (rng_lit rfl) ?_
        refine r_callVi (pc := 93) hC [aI y5, aI 2] [] dX10_tell_93 ml_RX10_309 my_X10_throwsIf mi_X10_throwsIf lM_0 rfl rfl ⟨Nat.le_of_ble_eq_true rfl, Nat.le_of_ble_eq_true rfl⟩ ⟨Nat.le_of_ble_eq_true rfl, Nat.le_of_ble_eq_true rfl⟩ (Nat.le_of_ble_eq_true rfl) rfl (s_M_throwsIf l _ _ _ _ h) (fun r6 w1 hq => ?_)
        obtain ⟨m_thrown_7, e9, h⟩ := hq
        rw [e9]
        refine r_if_eq (pc := 96) (tgt := 101) hC dX10_tell_96 rfl (fun hc6 => ?_) (fun hc6 => ?_)
        · have h := h.1 hc6
          refine r_iload_n (pc := 101) hC 1 dX10_tell_101 rfl rfl ?_
          obtain ⟨J3, hJ3, h⟩ := h
          have S3 : ∀ (y8 : Int), J3 y8 → Wd p l e (rmD 1) s m args below meth c Q 0 0 4 D cA ad A LM (wI w 0 0 m_thrown_7) 128 [some (aR 0), some (aI a1), some (aI a2), none] [aI y8] := by
            intro y8 hj
            have h := hJ3 y8 hj
            refine r_istore_n (ls2 := [some (aR 0), some (aI a1), some (aI a2), some (aI y8)]) (pc := 128) hC 3 dX10_tell_128 rfl (by decide) rfl rfl ?_
            refine r_aload_n (pc := 129) hC 0 dX10_tell_129 rfl rfl ?_
            refine r_iload_n (pc := 130) hC 1 dX10_tell_130 rfl rfl ?_
            obtain ⟨J4, hJ4, h⟩ := h
            have S4 : ∀ (y9 : Int), J4 y9 → Wd p l e (rmD 1) s m args below meth c Q 0 0 4 D cA ad A LM (wI w 0 0 m_thrown_7) 142 [some (aR 0), some (aI a1), some (aI a2), some (aI y8)] [aI y9, aR 0] := by
              intro y9 hj
              have h := hJ4 y9 hj
              refine r_put (kd := 0) (pc := 142) hC dX10_tell_142 pl_RX10_112 lM_0 rfl (by decide) (Or.inl rfl) ?_
              refine r_aload_n (pc := 145) hC 0 dX10_tell_145 rfl rfl ?_
              refine r_iload_n (pc := 146) hC 1 dX10_tell_146 rfl rfl ?_
              refine r_iconst (pc := 147) hC dX10_tell_147 (rng_lit rfl) ?_
              obtain ⟨J5, hJ5, h⟩ := h
              have S5 : ∀ (y10 : Int), J5 y10 → Wd p l e (rmD 1) s m args below meth c Q 0 0 4 D cA ad A LM (wI (wI w 0 0 m_thrown_7) 0 50 y9) 159 [some (aR 0), some (aI a1), some (aI a2), some (aI y8)] [aI y10, aR 0] := by
                intro y10 hj
                have h := hJ5 y10 hj
                refine r_put (kd := 0) (pc := 159) hC dX10_tell_159 pl_RX10_115 lM_0 rfl (by decide) (Or.inl rfl) ?_
                refine r_aload_n (pc := 162) hC 0 dX10_tell_162 rfl rfl ?_
                refine r_iload_n (pc := 163) hC 1 dX10_tell_163 rfl rfl ?_
                refine r_iconst (pc := 164) hC dX10_tell_164 (rng_lit rfl) ?_
                obtain ⟨J6, hJ6, h⟩ := h
                have S6 : ∀ (y11 : Int), J6 y11 → Wd p l e (rmD 1) s m args below meth c Q 0 0 4 D cA ad A LM (wI (wI (wI w 0 0 m_thrown_7) 0 50 y9) 0 51 y10) 176 [some (aR 0), none, none, some (aI y8)] [aI y11, aR 0] := by
                  intro y11 hj
                  have h := hJ6 y11 hj
                  refine r_put (kd := 0) (pc := 176) hC dX10_tell_176 pl_RX10_118 lM_0 rfl (by decide) (Or.inl rfl) ?_
                  refine r_aload_n (pc := 179) hC 0 dX10_tell_179 rfl rfl ?_
                  refine r_iconst (pc := 180) hC dX10_tell_180 (rng_lit rfl) ?_
                  refine r_put (kd := 1) (pc := 181) hC dX10_tell_181 pl_RX10_287 lM_0 rfl (by decide) (Or.inr okK1_0) ?_
                  refine r_aload_n (pc := 184) hC 0 dX10_tell_184 rfl rfl ?_
                  refine r_iconst (pc := 185) hC dX10_tell_185 (rng_lit rfl) ?_
                  refine r_put (kd := 0) (pc := 186) hC dX10_tell_186 pl_RX10_221 lM_0 rfl (by decide) (Or.inl rfl) ?_
                  refine r_iload_n (pc := 189) hC 3 dX10_tell_189 rfl rfl ?_
                  refine r_conv (w2 := (wI (wI (wI (wI (wI (wI w 0 0 m_thrown_7) 0 43 0) 0 50 y9) 0 51 y10) 0 52 y11) 0 53 0)) rfl ?_
                  exact r_reti (pc := 190) (kd := 0) hC hQ dX10_tell_190 hr hk (by decide) (Or.inl rfl) ⟨m_thrown_7, 0, y9, y10, y11, 0, rfl, h⟩
                refine r_ic_ne (pc := 165) (tgt := 172) hC dX10_tell_165 rfl (fun hc1 => ?_) (fun hc1 => ?_)
                · have h := h.1 hc1
                  refine r_aload_n (pc := 172) hC 0 dX10_tell_172 rfl rfl ?_
                  refine r_get (kd := 0) (v := (w.1 0 52)) (pc := 173) hC dX10_tell_173 fl_RX10_118 lM_0 rfl rfl ?_
                  exact r_to [true, false, false, true] rfl rfl (S6 (w.1 0 52) h)
                have h := h.2 hc1
                refine r_iload_n (pc := 168) hC 2 dX10_tell_168 rfl rfl ?_
                refine r_goto (tgt := 176) (pc := 169) hC dX10_tell_169 rfl ?_
                exact r_to [true, false, false, true] rfl rfl (S6 a2 h)
              refine r_ic_ne (pc := 148) (tgt := 155) hC dX10_tell_148 rfl (fun hc2 => ?_) (fun hc2 => ?_)
              · have h := h.1 hc2
                refine r_aload_n (pc := 155) hC 0 dX10_tell_155 rfl rfl ?_
                refine r_get (kd := 0) (v := (w.1 0 51)) (pc := 156) hC dX10_tell_156 fl_RX10_115 lM_0 rfl rfl ?_
                exact r_to [true, true, true, true] rfl rfl (S5 (w.1 0 51) h)
              have h := h.2 hc2
              refine r_iload_n (pc := 151) hC 2 dX10_tell_151 rfl rfl ?_
              refine r_goto (tgt := 159) (pc := 152) hC dX10_tell_152 rfl ?_
              exact r_to [true, true, true, true] rfl rfl (S5 a2 h)
            refine r_if_ne (pc := 131) (tgt := 138) hC dX10_tell_131 rfl (fun hc3 => ?_) (fun hc3 => ?_)
            · have h := h.1 hc3
              refine r_aload_n (pc := 138) hC 0 dX10_tell_138 rfl rfl ?_
              refine r_get (kd := 0) (v := (w.1 0 50)) (pc := 139) hC dX10_tell_139 fl_RX10_112 lM_0 rfl rfl ?_
              exact r_to [true, true, true, true] rfl rfl (S4 (w.1 0 50) h)
            have h := h.2 hc3
            refine r_iload_n (pc := 134) hC 2 dX10_tell_134 rfl rfl ?_
            refine r_goto (tgt := 142) (pc := 135) hC dX10_tell_135 rfl ?_
            exact r_to [true, true, true, true] rfl rfl (S4 a2 h)
          refine r_if_ne (pc := 102) (tgt := 112) hC dX10_tell_102 rfl (fun hc5 => ?_) (fun hc5 => ?_)
          · have h := h.1 hc5
            refine r_iload_n (pc := 112) hC 1 dX10_tell_112 rfl rfl ?_
            refine r_iconst (pc := 113) hC dX10_tell_113 (rng_lit rfl) ?_
            refine r_ic_ne (pc := 114) (tgt := 124) hC dX10_tell_114 rfl (fun hc4 => ?_) (fun hc4 => ?_)
            · have h := h.1 hc4
              refine r_aload_n (pc := 124) hC 0 dX10_tell_124 rfl rfl ?_
              refine r_get (kd := 0) (v := (w.1 0 52)) (pc := 125) hC dX10_tell_125 fl_RX10_118 lM_0 rfl rfl ?_
              exact r_to [true, true, true, false] rfl rfl (S3 (w.1 0 52) h)
            have h := h.2 hc4
            refine r_aload_n (pc := 117) hC 0 dX10_tell_117 rfl rfl ?_
            refine r_get (kd := 0) (v := (w.1 0 51)) (pc := 118) hC dX10_tell_118 fl_RX10_115 lM_0 rfl rfl ?_
            refine r_goto (tgt := 128) (pc := 121) hC dX10_tell_121 rfl ?_
            exact r_to [true, true, true, false] rfl rfl (S3 (w.1 0 51) h)
          have h := h.2 hc5
          refine r_aload_n (pc := 105) hC 0 dX10_tell_105 rfl rfl ?_
          refine r_get (kd := 0) (v := (w.1 0 50)) (pc := 106) hC dX10_tell_106 fl_RX10_112 lM_0 rfl rfl ?_
          refine r_goto (tgt := 128) (pc := 109) hC dX10_tell_109 rfl ?_
          exact r_to [true, true, true, false] rfl rfl (S3 (w.1 0 50) h)
        have h := h.2 hc6
        refine r_iconst (pc := 99) hC dX10_tell_99 (rng_lit rfl) ?_
        refine r_conv (w2 := (wI (wI (wI (wI (wI (wI w 0 0 m_thrown_7) 0 43 (w.1 0 43)) 0 50 (w.1 0 50)) 0 51 (w.1 0 51)) 0 52 (w.1 0 52)) 0 53 (w.1 0 53))) rfl ?_
        exact r_reti (pc := 100) (kd := 0) hC hQ dX10_tell_100 hr hk (by decide) (Or.inl rfl) ⟨m_thrown_7, (w.1 0 43), (w.1 0 50), (w.1 0 51), (w.1 0 52), (w.1 0 53), rfl, h⟩
      refine r_if_ne (pc := 31) (tgt := 54) hC dX10_tell_31 rfl (fun hc11 => ?_) (fun hc11 => ?_)
      · have h := h.1 hc11
        refine r_iload_n (pc := 54) hC 1 dX10_tell_54 rfl rfl ?_
        refine r_iconst (pc := 55) hC dX10_tell_55 (rng_lit rfl) ?_
        refine r_ic_ne (pc := 56) (tgt := 77) hC dX10_tell_56 rfl (fun hc9 => ?_) (fun hc9 => ?_)
        · have h := h.1 hc9
          refine r_iload_n (pc := 77) hC 2 dX10_tell_77 rfl rfl ?_
          refine r_iconst (pc := 78) hC dX10_tell_78 (rng_lit rfl) ?_
          refine r_bipush (pc := 79) hC dX10_tell_79 ⟨rfl, rng_lit rfl⟩ ?_
          refine r_callSi (pc := 81) hC [aI a2, aI 0, aI 100] [aR 0] dX10_tell_81 ml_RX10_151 my_X10_in ms_X10_in rfl ⟨Nat.le_of_ble_eq_true rfl, Nat.le_of_ble_eq_true rfl⟩ ⟨Nat.le_of_ble_eq_true rfl, Nat.le_of_ble_eq_true rfl⟩ (Nat.le_of_ble_eq_true rfl) rfl (s_M_in l _ _ _ _ _ h) (fun r12 w1 hq => ?_)
          obtain ⟨e9, h⟩ := hq
          rw [e9]
          refine r_if_ne (pc := 84) (tgt := 91) hC dX10_tell_84 rfl (fun hc7 => ?_) (fun hc7 => ?_)
          · have h := h.1 hc7
            refine r_iconst (pc := 91) hC dX10_tell_91 (rng_lit rfl) ?_
            exact r_to [true, true, true, false] rfl rfl (S2 0 h)
          have h := h.2 hc7
          refine r_iconst (pc := 87) hC dX10_tell_87 (rng_lit rfl) ?_
          refine r_goto (tgt := 92) (pc := 88) hC dX10_tell_88 rfl ?_
          exact r_to [true, true, true, false] rfl rfl (S2 1 h)
        have h := h.2 hc9
        refine r_iload_n (pc := 59) hC 2 dX10_tell_59 rfl rfl ?_
        refine r_iconst (pc := 60) hC dX10_tell_60 (rng_lit rfl) ?_
        refine r_bipush (pc := 61) hC dX10_tell_61 ⟨rfl, rng_lit rfl⟩ ?_
        refine r_callSi (pc := 63) hC [aI a2, aI 1, aI 6] [aR 0] dX10_tell_63 ml_RX10_151 my_X10_in ms_X10_in rfl ⟨Nat.le_of_ble_eq_true rfl, Nat.le_of_ble_eq_true rfl⟩ ⟨Nat.le_of_ble_eq_true rfl, Nat.le_of_ble_eq_true rfl⟩ (Nat.le_of_ble_eq_true rfl) rfl (s_M_in l _ _ _ _ _ h) (fun r13 w1 hq => ?_)
        obtain ⟨e9, h⟩ := hq
        rw [e9]
        refine r_if_ne (pc := 66) (tgt := 73) hC dX10_tell_66 rfl (fun hc8 => ?_) (fun hc8 => ?_)
        · have h := h.1 hc8
          refine r_iconst (pc := 73) hC dX10_tell_73 (rng_lit rfl) ?_
          refine r_goto (tgt := 92) (pc := 74) hC dX10_tell_74 rfl ?_
          exact r_to [true, true, true, false] rfl rfl (S2 0 h)
        have h := h.2 hc8
        refine r_iconst (pc := 69) hC dX10_tell_69 (rng_lit rfl) ?_
        refine r_goto (tgt := 92) (pc := 70) hC dX10_tell_70 rfl ?_
        exact r_to [true, true, true, false] rfl rfl (S2 1 h)
      have h := h.2 hc11
      refine r_iload_n (pc := 34) hC 2 dX10_tell_34 rfl rfl ?_
      refine r_bipush (pc := 35) hC dX10_tell_35 ⟨rfl, rng_lit rfl⟩ ?_
      refine r_sipush (pc := 37) hC dX10_tell_37 ⟨rfl, rng_lit rfl⟩ ?_
      refine r_callSi (pc := 40) hC [aI a2, aI 20, aI 700] [aR 0] dX10_tell_40 ml_RX10_151 my_X10_in ms_X10_in rfl ⟨Nat.le_of_ble_eq_true rfl, Nat.le_of_ble_eq_true rfl⟩ ⟨Nat.le_of_ble_eq_true rfl, Nat.le_of_ble_eq_true rfl⟩ (Nat.le_of_ble_eq_true rfl) rfl (s_M_in l _ _ _ _ _ h) (fun r14 w1 hq => ?_)
      obtain ⟨e9, h⟩ := hq
      rw [e9]
      refine r_if_ne (pc := 43) (tgt := 50) hC dX10_tell_43 rfl (fun hc10 => ?_) (fun hc10 => ?_)
      · have h := h.1 hc10
        refine r_iconst (pc := 50) hC dX10_tell_50 (rng_lit rfl) ?_
        refine r_goto (tgt := 92) (pc := 51) hC dX10_tell_51 rfl ?_
        exact r_to [true, true, true, false] rfl rfl (S2 0 h)
      have h := h.2 hc10
      refine r_iconst (pc := 46) hC dX10_tell_46 (rng_lit rfl) ?_
      refine r_goto (tgt := 92) (pc := 47) hC dX10_tell_47 rfl ?_
      exact r_to [true, true, true, false] rfl rfl (S2 1 h)
    have h := h.2 hc12
    refine r_iconst (pc := 27) hC dX10_tell_27 (rng_lit rfl) ?_
    refine r_conv (w2 := (wI (wI (wI (wI (wI (wI w 0 0 m_thrown_4) 0 43 (w.1 0 43)) 0 50 (w.1 0 50)) 0 51 (w.1 0 51)) 0 52 (w.1 0 52)) 0 53 (w.1 0 53))) rfl ?_
    exact r_reti (pc := 28) (kd := 0) hC hQ dX10_tell_28 hr hk (by decide) (Or.inl rfl) ⟨m_thrown_4, (w.1 0 43), (w.1 0 50), (w.1 0 51), (w.1 0 52), (w.1 0 53), rfl, h⟩
  refine r_if_ne (pc := 12) (tgt := 19) hC dX10_tell_12 rfl (fun hc13 => ?_) (fun hc13 => ?_)
  · have h := h.1 hc13
    refine r_iconst (pc := 19) hC dX10_tell_19 (rng_lit rfl) ?_
    exact r_to [true, true, true, false] rfl rfl (S1 0 h)
  have h := h.2 hc13
  refine r_iconst (pc := 15) hC dX10_tell_15 (rng_lit rfl) ?_
  refine r_goto (tgt := 20) (pc := 16) hC dX10_tell_16 rfl ?_
  exact r_to [true, true, true, false] rfl rfl (S1 1 h)
def wp_M_hasLike (m_hasWord : (Nat → Int)) (a1 : Int) (a2 : Int) (Q : Int → Prop) : Prop := (rng (100 * a1)) ∧ ((rng ((100 * a1) + a2)) ∧ ((0 ≤ ((100 * a1) + a2) ∧ ((100 * a1) + a2) < 1400) ∧ ((0 ≤ (m_hasWord (Int.toNat ((100 * a1) + a2))) ∧ (m_hasWord (Int.toNat ((100 * a1) + a2))) ≤ 1) ∧ (Q (m_hasWord (Int.toNat ((100 * a1) + a2)))))))
set_option maxHeartbeats 4000000 in
set_option maxRecDepth 20000 in
theorem s_M_hasLike (l : Launch) (w : St) (a1 : Int) (a2 : Int) (P : Int → Prop) (h : wp_M_hasLike (w.1 11) a1 a2 P) : Cn l yX10_hasLike cX10_hasLike 3 (some .boolean) 0 LM w [aR 0, aI a1, aI a2] (okI (fun r w1 => w1 = w ∧ P r)) := by
  unfold wp_M_hasLike at h
  refine Cn.of2 [some (aR 0), some (aI a1), some (aI a2)] (by decide) (Nat.le_of_ble_eq_true rfl) rfl (fun p e s m args below meth c D cA ad A Q hQ hC hr hk => ?_)
  refine r_aload_n (pc := 0) hC 0 dX10_hasLike_0 rfl rfl ?_
  refine r_getr (r := 11) (pc := 1) hC dX10_hasLike_1 fl_RX10_41 lM_0 rfl ?_
  refine r_bipush (pc := 4) hC dX10_hasLike_4 ⟨rfl, rng_lit rfl⟩ ?_
  refine r_iload_n (pc := 6) hC 1 dX10_hasLike_6 rfl rfl ?_
  refine r_imul (pc := 7) hC dX10_hasLike_7 h.1 ?_
  have h := h.2
  refine r_iload_n (pc := 8) hC 2 dX10_hasLike_8 rfl rfl ?_
  refine r_iadd (pc := 9) hC dX10_hasLike_9 h.1 ?_
  have h := h.2
  refine r_zald (v := ((w.1 11) (Int.toNat ((100 * a1) + a2)))) (pc := 10) hC dX10_hasLike_10 lM_11 h.1.1 h.1.2 rfl ?_
  have h := h.2
  exact r_reti (pc := 11) (kd := 1) hC hQ dX10_hasLike_11 hr hk (by decide) (Or.inr h.1) ⟨rfl, h.2⟩
def wp_M_commonOf (m_likeOf : (Nat → Int)) (m_hasWord : (Nat → Int)) (m_words : Int) (a1 : Int) (a2 : Int) (Q : Int → Prop) : Prop := (¬ a1 = a2 → lpw3 (fun (x1 : Int) (x2 : Int) (x3 : Int) (k1 : Int → Int → Int → Prop) => (m_words ≤ x3 → (¬ x2 = 0 → (rng (100 * x1)) ∧ ((x2 ≠ 0 ∧ rng (Int.tdiv (100 * x1) x2)) ∧ (Q (Int.tdiv (100 * x1) x2)))) ∧ (x2 = 0 → Q 0)) ∧ (¬ m_words ≤ x3 → (0 ≤ x3 ∧ x3 < 100) ∧ (jn2 (fun (J2 : Int → Int → Prop) => ((m_likeOf (Int.toNat x3)) = x3 → wp_M_hasLike m_hasWord a1 x3 (fun (r6 : Int) => wp_M_hasLike m_hasWord a2 x3 (fun (r7 : Int) => jn1 (fun (J3 : Int → Prop) => jn0 (fun (J6 : Prop) => (r6 = 0 → J6) ∧ (¬ r6 = 0 → (r7 = 0 → J6) ∧ (¬ r7 = 0 → J3 1))) (J3 0)) (fun (y8 : Int) => (rng (x1 + y8)) ∧ (jn1 (fun (J4 : Int → Prop) => jn0 (fun (J5 : Prop) => (¬ r6 = 0 → J5) ∧ (r6 = 0 → (r7 = 0 → J4 0) ∧ (¬ r7 = 0 → J5))) (J4 1)) (fun (y9 : Int) => (rng (x2 + y9)) ∧ (J2 (x1 + y8) (x2 + y9)))))))) ∧ (¬ (m_likeOf (Int.toNat x3)) = x3 → J2 x1 x2)) (fun (x4 : Int) (x5 : Int) => (rng (x3 + 1)) ∧ (k1 x4 x5 (x3 + 1)))))) 0 0 0) ∧ (a1 = a2 → Q 100)
set_option maxHeartbeats 4000000 in
set_option maxRecDepth 20000 in
theorem s_M_commonOf (l : Launch) (w : St) (a1 : Int) (a2 : Int) (P : Int → Prop) (h : wp_M_commonOf (w.1 8) (w.1 11) (w.1 0 12) a1 a2 P) : Cn l yX10_commonOf cX10_commonOf 8 (some .int) 1 LM w [aR 0, aI a1, aI a2] (okI (fun r w1 => w1 = w ∧ P r)) := by
  unfold wp_M_commonOf at h
  refine Cn.of2 [some (aR 0), some (aI a1), some (aI a2), none, none, none, none, none] (by decide) (Nat.le_of_ble_eq_true rfl) rfl (fun p e s m args below meth c D cA ad A Q hQ hC hr hk => ?_)
  refine r_iload_n (pc := 0) hC 1 dX10_commonOf_0 rfl rfl ?_
  refine r_iload_n (pc := 1) hC 2 dX10_commonOf_1 rfl rfl ?_
  refine r_ic_ne (pc := 2) (tgt := 8) hC dX10_commonOf_2 rfl (fun hc8 => ?_) (fun hc8 => ?_)
  · have h := h.1 hc8
    refine r_iconst (pc := 8) hC dX10_commonOf_8 (rng_lit rfl) ?_
    refine r_istore_n (ls2 := [some (aR 0), some (aI a1), some (aI a2), some (aI 0), none, none, none, none]) (pc := 9) hC 3 dX10_commonOf_9 rfl (by decide) rfl rfl ?_
    refine r_iconst (pc := 10) hC dX10_commonOf_10 (rng_lit rfl) ?_
    refine r_istore (ls2 := [some (aR 0), some (aI a1), some (aI a2), some (aI 0), some (aI 0), none, none, none]) (pc := 11) hC dX10_commonOf_11 (by decide) rfl rfl ?_
    refine r_iconst (pc := 13) hC dX10_commonOf_13 (rng_lit rfl) ?_
    refine r_istore (ls2 := [some (aR 0), some (aI a1), some (aI a2), some (aI 0), some (aI 0), some (aI 0), none, none]) (pc := 14) hC dX10_commonOf_14 (by decide) rfl rfl ?_
    obtain ⟨I1, μ1, hI1, hB1⟩ := h
    have S1 : ∀ (nn : Nat) (x1 : Int) (x2 : Int) (x3 : Int), μ1 x1 x2 x3 < nn → I1 x1 x2 x3 → Wd p l e (rmD 1) s m args below meth c Q 0 0 8 D cA ad A LM w 16 [some (aR 0), some (aI a1), some (aI a2), some (aI x1), some (aI x2), some (aI x3), none, none] [] := by
      intro nn
      induction nn with
      | zero => intro x1 x2 x3 hn; exact absurd hn (Nat.not_lt_zero _)
      | succ nn ih1 =>
        intro x1 x2 x3 hn1 hi
        have h := hB1 x1 x2 x3 hi
        refine r_iload (pc := 16) hC dX10_commonOf_16 rfl ?_
        refine r_aload_n (pc := 18) hC 0 dX10_commonOf_18 rfl rfl ?_
        refine r_get (kd := 0) (v := (w.1 0 12)) (pc := 19) hC dX10_commonOf_19 fl_RX10_179 lM_0 rfl rfl ?_
        refine r_ic_ge (pc := 22) (tgt := 102) hC dX10_commonOf_22 rfl (fun hc7 => ?_) (fun hc7 => ?_)
        · have h := h.1 hc7
          refine r_iload (pc := 102) hC dX10_commonOf_102 rfl ?_
          refine r_if_ne (pc := 104) (tgt := 111) hC dX10_commonOf_104 rfl (fun hc1 => ?_) (fun hc1 => ?_)
          · have h := h.1 hc1
            refine r_bipush (pc := 111) hC dX10_commonOf_111 ⟨rfl, rng_lit rfl⟩ ?_
            refine r_iload_n (pc := 113) hC 3 dX10_commonOf_113 rfl rfl ?_
            refine r_imul (pc := 114) hC dX10_commonOf_114 h.1 ?_
            have h := h.2
            refine r_iload (pc := 115) hC dX10_commonOf_115 rfl ?_
            refine r_idiv (pc := 117) hC dX10_commonOf_117 h.1.1 h.1.2 ?_
            have h := h.2
            exact r_reti (pc := 118) (kd := 0) hC hQ dX10_commonOf_118 hr hk (by decide) (Or.inl rfl) ⟨rfl, h⟩
          have h := h.2 hc1
          refine r_iconst (pc := 107) hC dX10_commonOf_107 (rng_lit rfl) ?_
          refine r_goto (tgt := 118) (pc := 108) hC dX10_commonOf_108 rfl ?_
          exact r_reti (pc := 118) (kd := 0) hC hQ dX10_commonOf_118 hr hk (by decide) (Or.inl rfl) ⟨rfl, h⟩
        have h := h.2 hc7
        refine r_aload_n (pc := 25) hC 0 dX10_commonOf_25 rfl rfl ?_
        refine r_getr (r := 8) (pc := 26) hC dX10_commonOf_26 fl_RX10_32 lM_0 rfl ?_
        refine r_iload (pc := 29) hC dX10_commonOf_29 rfl ?_
        refine r_iald (v := ((w.1 8) (Int.toNat x3))) (pc := 31) hC dX10_commonOf_31 lM_8 h.1.1 h.1.2 rfl ?_
        have h := h.2
        refine r_iload (pc := 32) hC dX10_commonOf_32 rfl ?_
        obtain ⟨J2, hJ2, h⟩ := h
        have S2 : ∀ (x4 : Int) (x5 : Int), J2 x4 x5 → Wd p l e (rmD 1) s m args below meth c Q 0 0 8 D cA ad A LM w 96 [some (aR 0), some (aI a1), some (aI a2), some (aI x4), some (aI x5), some (aI x3), none, none] [] := by
          intro x4 x5 hj
          have h := hJ2 x4 x5 hj
          refine r_iinc (ls2 := [some (aR 0), some (aI a1), some (aI a2), some (aI x4), some (aI x5), some (aI (x3 + 1)), none, none]) (pc := 96) hC dX10_commonOf_96 rfl (by decide) rfl h.1 rfl ?_
          have h := h.2
          refine r_goto (tgt := 16) (pc := 99) hC dX10_commonOf_99 rfl ?_
          exact r_to [true, true, true, true, true, true, false, false] rfl rfl (ih1 x4 x5 (x3 + 1) (Nat.lt_of_lt_of_le h.2 (Nat.le_of_lt_succ hn1)) h.1)
        refine r_ic_eq (pc := 34) (tgt := 40) hC dX10_commonOf_34 rfl (fun hc6 => ?_) (fun hc6 => ?_)
        · have h := h.1 hc6
          refine r_aload_n (pc := 40) hC 0 dX10_commonOf_40 rfl rfl ?_
          refine r_iload_n (pc := 41) hC 1 dX10_commonOf_41 rfl rfl ?_
          refine r_iload (pc := 42) hC dX10_commonOf_42 rfl ?_
          refine r_callVi (pc := 44) hC [aI a1, aI x3] [] dX10_commonOf_44 ml_RX10_346 my_X10_hasLike mi_X10_hasLike lM_0 rfl rfl ⟨Nat.le_of_ble_eq_true rfl, Nat.le_of_ble_eq_true rfl⟩ ⟨Nat.le_of_ble_eq_true rfl, Nat.le_of_ble_eq_true rfl⟩ (Nat.le_of_ble_eq_true rfl) rfl (s_M_hasLike l _ _ _ _ h) (fun r6 w1 hq => ?_)
          obtain ⟨e9, h⟩ := hq
          rw [e9]
          refine r_istore (ls2 := [some (aR 0), some (aI a1), some (aI a2), some (aI x1), some (aI x2), some (aI x3), some (aI r6), none]) (pc := 47) hC dX10_commonOf_47 (by decide) rfl rfl ?_
          refine r_aload_n (pc := 49) hC 0 dX10_commonOf_49 rfl rfl ?_
          refine r_iload_n (pc := 50) hC 2 dX10_commonOf_50 rfl rfl ?_
          refine r_iload (pc := 51) hC dX10_commonOf_51 rfl ?_
          refine r_callVi (pc := 53) hC [aI a2, aI x3] [] dX10_commonOf_53 ml_RX10_346 my_X10_hasLike mi_X10_hasLike lM_0 rfl rfl ⟨Nat.le_of_ble_eq_true rfl, Nat.le_of_ble_eq_true rfl⟩ ⟨Nat.le_of_ble_eq_true rfl, Nat.le_of_ble_eq_true rfl⟩ (Nat.le_of_ble_eq_true rfl) rfl (s_M_hasLike l _ _ _ _ h) (fun r7 w1 hq => ?_)
          obtain ⟨e9, h⟩ := hq
          rw [e9]
          refine r_istore (ls2 := [some (aR 0), some (aI a1), some (aI a2), some (aI x1), some (aI x2), some (aI x3), some (aI r6), some (aI r7)]) (pc := 56) hC dX10_commonOf_56 (by decide) rfl rfl ?_
          refine r_iload_n (pc := 58) hC 3 dX10_commonOf_58 rfl rfl ?_
          refine r_iload (pc := 59) hC dX10_commonOf_59 rfl ?_
          obtain ⟨J3, hJ3, h⟩ := h
          have S3 : ∀ (y8 : Int), J3 y8 → Wd p l e (rmD 1) s m args below meth c Q 0 0 8 D cA ad A LM w 74 [some (aR 0), some (aI a1), some (aI a2), none, some (aI x2), some (aI x3), some (aI r6), some (aI r7)] [aI y8, aI x1] := by
            intro y8 hj
            have h := hJ3 y8 hj
            refine r_iadd (pc := 74) hC dX10_commonOf_74 h.1 ?_
            have h := h.2
            refine r_istore_n (ls2 := [some (aR 0), some (aI a1), some (aI a2), some (aI (x1 + y8)), some (aI x2), some (aI x3), some (aI r6), some (aI r7)]) (pc := 75) hC 3 dX10_commonOf_75 rfl (by decide) rfl rfl ?_
            refine r_iload (pc := 76) hC dX10_commonOf_76 rfl ?_
            refine r_iload (pc := 78) hC dX10_commonOf_78 rfl ?_
            obtain ⟨J4, hJ4, h⟩ := h
            have S4 : ∀ (y9 : Int), J4 y9 → Wd p l e (rmD 1) s m args below meth c Q 0 0 8 D cA ad A LM w 93 [some (aR 0), some (aI a1), some (aI a2), some (aI (x1 + y8)), none, some (aI x3), none, none] [aI y9, aI x2] := by
              intro y9 hj
              have h := hJ4 y9 hj
              refine r_iadd (pc := 93) hC dX10_commonOf_93 h.1 ?_
              have h := h.2
              refine r_istore (ls2 := [some (aR 0), some (aI a1), some (aI a2), some (aI (x1 + y8)), some (aI (x2 + y9)), some (aI x3), none, none]) (pc := 94) hC dX10_commonOf_94 (by decide) rfl rfl ?_
              exact r_to [true, true, true, true, true, true, false, false] rfl rfl (S2 (x1 + y8) (x2 + y9) h)
            obtain ⟨J5, hJ5, h⟩ := h
            have S5 : J5 → Wd p l e (rmD 1) s m args below meth c Q 0 0 8 D cA ad A LM w 88 [some (aR 0), some (aI a1), some (aI a2), some (aI (x1 + y8)), none, some (aI x3), none, none] [aI x2] := by
              intro hj
              have h := hJ5 hj
              refine r_iconst (pc := 88) hC dX10_commonOf_88 (rng_lit rfl) ?_
              refine r_goto (tgt := 93) (pc := 89) hC dX10_commonOf_89 rfl ?_
              exact r_to [true, true, true, true, false, true, false, false] rfl rfl (S4 1 h)
            refine r_if_ne (pc := 80) (tgt := 88) hC dX10_commonOf_80 rfl (fun hc3 => ?_) (fun hc3 => ?_)
            · have h := h.1 hc3
              exact r_to [true, true, true, true, false, true, false, false] rfl rfl (S5 h)
            have h := h.2 hc3
            refine r_iload (pc := 83) hC dX10_commonOf_83 rfl ?_
            refine r_if_eq (pc := 85) (tgt := 92) hC dX10_commonOf_85 rfl (fun hc2 => ?_) (fun hc2 => ?_)
            · have h := h.1 hc2
              refine r_iconst (pc := 92) hC dX10_commonOf_92 (rng_lit rfl) ?_
              exact r_to [true, true, true, true, false, true, false, false] rfl rfl (S4 0 h)
            have h := h.2 hc2
            exact r_to [true, true, true, true, false, true, false, false] rfl rfl (S5 h)
          obtain ⟨J6, hJ6, h⟩ := h
          have S6 : J6 → Wd p l e (rmD 1) s m args below meth c Q 0 0 8 D cA ad A LM w 73 [some (aR 0), some (aI a1), some (aI a2), none, some (aI x2), some (aI x3), some (aI r6), some (aI r7)] [aI x1] := by
            intro hj
            have h := hJ6 hj
            refine r_iconst (pc := 73) hC dX10_commonOf_73 (rng_lit rfl) ?_
            exact r_to [true, true, true, false, true, true, true, true] rfl rfl (S3 0 h)
          refine r_if_eq (pc := 61) (tgt := 73) hC dX10_commonOf_61 rfl (fun hc5 => ?_) (fun hc5 => ?_)
          · have h := h.1 hc5
            exact r_to [true, true, true, false, true, true, true, true] rfl rfl (S6 h)
          have h := h.2 hc5
          refine r_iload (pc := 64) hC dX10_commonOf_64 rfl ?_
          refine r_if_eq (pc := 66) (tgt := 73) hC dX10_commonOf_66 rfl (fun hc4 => ?_) (fun hc4 => ?_)
          · have h := h.1 hc4
            exact r_to [true, true, true, false, true, true, true, true] rfl rfl (S6 h)
          have h := h.2 hc4
          refine r_iconst (pc := 69) hC dX10_commonOf_69 (rng_lit rfl) ?_
          refine r_goto (tgt := 74) (pc := 70) hC dX10_commonOf_70 rfl ?_
          exact r_to [true, true, true, false, true, true, true, true] rfl rfl (S3 1 h)
        have h := h.2 hc6
        refine r_goto (tgt := 96) (pc := 37) hC dX10_commonOf_37 rfl ?_
        exact r_to [true, true, true, true, true, true, false, false] rfl rfl (S2 x1 x2 h)
    exact r_to [true, true, true, true, true, true, false, false] rfl rfl (S1 _ 0 0 0 (Nat.lt_succ_self _) hI1)
  have h := h.2 hc8
  refine r_bipush (pc := 5) hC dX10_commonOf_5 ⟨rfl, rng_lit rfl⟩ ?_
  exact r_reti (pc := 7) (kd := 0) hC hQ dX10_commonOf_7 hr hk (by decide) (Or.inl rfl) ⟨rfl, h⟩
def wp_M_laysLike (m_sentenceOf : (Nat → Int)) (m_likeOf : (Nat → Int)) (m_from : (Nat → Int)) (m_to : (Nat → Int)) (m_hasWord : (Nat → Int)) (m_weight : (Nat → Int)) (m_matchItem : (Nat → Int)) (m_matchFirst : (Nat → Int)) (m_worth : (Nat → Int)) (m_length : (Nat → Int)) (m_inSentence : (Nat → Int)) (m_tooLike : (Nat → Int)) (m_words : Int) (m_sentences : Int) (m_items : Int) (m_matches : Int) (m_areLaid : Int) (m_areLikeLaid : Int) (m_limit : Int) (Q : (Nat → Int) → (Nat → Int) → (Nat → Int) → (Nat → Int) → Int → Int → Prop) : Prop := wp_M_laysSets m_sentenceOf m_from m_to m_weight m_matchItem m_matchFirst m_worth m_length m_inSentence m_sentences m_items m_matches m_areLaid (fun (m_worth_1 : (Nat → Int)) (m_length_2 : (Nat → Int)) (m_inSentence_3 : (Nat → Int)) (m_areLaid_4 : Int) => (m_areLikeLaid = 0 → lpw2 (fun (m_tooLike_5 : (Nat → Int)) (x6 : Int) (k1 : (Nat → Int) → Int → Prop) => (m_sentences ≤ x6 → Q m_worth_1 m_length_2 m_inSentence_3 m_tooLike_5 m_areLaid_4 1) ∧ (¬ m_sentences ≤ x6 → (0 ≤ x6 ∧ x6 < 14) ∧ (lpw2 (fun (m_tooLike_7 : (Nat → Int)) (x8 : Int) (k2 : (Nat → Int) → Int → Prop) => (m_sentences ≤ x8 → (rng (x6 + 1)) ∧ (k1 m_tooLike_7 (x6 + 1))) ∧ (¬ m_sentences ≤ x8 → jn1 (fun (J3 : (Nat → Int) → Prop) => (x6 = x8 → J3 m_tooLike_7) ∧ (¬ x6 = x8 → wp_M_commonOf m_likeOf m_hasWord m_words x6 x8 (fun (r10 : Int) => (r10 ≤ m_limit → J3 m_tooLike_7) ∧ (¬ r10 ≤ m_limit → (0 ≤ x6 ∧ x6 < 14) ∧ ((0 ≤ x6 ∧ x6 < 14) ∧ (J3 (uI m_tooLike_7 x6 (iOr (m_tooLike_7 (Int.toNat x6)) (iShl 1 x8))))))))) (fun (m_tooLike_9 : (Nat → Int)) => (rng (x8 + 1)) ∧ (k2 m_tooLike_9 (x8 + 1))))) (uI m_tooLike_5 x6 0) 0))) m_tooLike 0) ∧ (¬ m_areLikeLaid = 0 → Q m_worth_1 m_length_2 m_inSentence_3 m_tooLike m_areLaid_4 m_areLikeLaid))
set_option maxHeartbeats 4000000 in
set_option maxRecDepth 20000 in
theorem s_M_laysLike (l : Launch) (w : St) (P : (Nat → Int) → (Nat → Int) → (Nat → Int) → (Nat → Int) → Int → Int → Prop) (h : wp_M_laysLike (w.1 7) (w.1 8) (w.1 9) (w.1 10) (w.1 11) (w.1 12) (w.1 24) (w.1 25) (w.1 28) (w.1 29) (w.1 31) (w.1 33) (w.1 0 12) (w.1 0 16) (w.1 0 29) (w.1 0 39) (w.1 0 42) (w.1 0 43) (w.1 0 52) P) : Cn l yX10_laysLike cX10_laysLike 3 none 2 LM w [aR 0] (okV (fun w1 => ∃ (o0 : (Nat → Int)) (o1 : (Nat → Int)) (o2 : (Nat → Int)) (o3 : (Nat → Int)) (o4 : Int) (o5 : Int), w1 = (wI (wI (wA (wA (wA (wA w 28 o0) 29 o1) 31 o2) 33 o3) 0 42 o4) 0 43 o5) ∧ P o0 o1 o2 o3 o4 o5)) := by
  unfold wp_M_laysLike at h
  refine Cn.of2 [some (aR 0), none, none] (by decide) (Nat.le_of_ble_eq_true rfl) rfl (fun p e s m args below meth c D cA ad A Q hQ hC hr hk => ?_)
  refine r_aload_n (pc := 0) hC 0 dX10_laysLike_0 rfl rfl ?_
  refine r_callVv (pc := 1) hC [] [] dX10_laysLike_1 ml_RX10_349 my_X10_laysSets mi_X10_laysSets lM_0 rfl rfl ⟨Nat.le_of_ble_eq_true rfl, Nat.le_of_ble_eq_true rfl⟩ ⟨Nat.le_of_ble_eq_true rfl, Nat.le_of_ble_eq_true rfl⟩ (Nat.le_of_ble_eq_true rfl) rfl (s_M_laysSets l _ _ h) (fun w1 hq => ?_)
  obtain ⟨m_worth_1, m_length_2, m_inSentence_3, m_areLaid_4, e9, h⟩ := hq
  rw [e9]
  refine r_aload_n (pc := 4) hC 0 dX10_laysLike_4 rfl rfl ?_
  refine r_get (kd := 1) (v := (w.1 0 43)) (pc := 5) hC dX10_laysLike_5 fl_RX10_287 lM_0 rfl rfl ?_
  refine r_if_eq (pc := 8) (tgt := 12) hC dX10_laysLike_8 rfl (fun hc5 => ?_) (fun hc5 => ?_)
  · have h := h.1 hc5
    refine r_aload_n (pc := 12) hC 0 dX10_laysLike_12 rfl rfl ?_
    refine r_iconst (pc := 13) hC dX10_laysLike_13 (rng_lit rfl) ?_
    refine r_put (kd := 1) (pc := 14) hC dX10_laysLike_14 pl_RX10_287 lM_0 rfl (by decide) (Or.inr okK1_1) ?_
    refine r_iconst (pc := 17) hC dX10_laysLike_17 (rng_lit rfl) ?_
    refine r_istore_n (ls2 := [some (aR 0), some (aI 0), none]) (pc := 18) hC 1 dX10_laysLike_18 rfl (by decide) rfl rfl ?_
    obtain ⟨I1, μ1, hI1, hB1⟩ := h
    have S1 : ∀ (nn : Nat) (m_tooLike_5 : (Nat → Int)) (x6 : Int), μ1 m_tooLike_5 x6 < nn → I1 m_tooLike_5 x6 → Wd p l e (rmD 2) s m args below meth c Q 0 0 3 D cA ad A LM (wI (wI (wA (wA (wA (wA w 28 m_worth_1) 29 m_length_2) 31 m_inSentence_3) 33 m_tooLike_5) 0 42 m_areLaid_4) 0 43 1) 19 [some (aR 0), some (aI x6), none] [] := by
      intro nn
      induction nn with
      | zero => intro m_tooLike_5 x6 hn; exact absurd hn (Nat.not_lt_zero _)
      | succ nn ih1 =>
        intro m_tooLike_5 x6 hn1 hi
        have h := hB1 m_tooLike_5 x6 hi
        refine r_iload_n (pc := 19) hC 1 dX10_laysLike_19 rfl rfl ?_
        refine r_aload_n (pc := 20) hC 0 dX10_laysLike_20 rfl rfl ?_
        refine r_get (kd := 0) (v := (w.1 0 16)) (pc := 21) hC dX10_laysLike_21 fl_RX10_203 lM_0 rfl rfl ?_
        refine r_ic_ge (pc := 24) (tgt := 86) hC dX10_laysLike_24 rfl (fun hc4 => ?_) (fun hc4 => ?_)
        · have h := h.1 hc4
          refine r_conv (w2 := (wI (wI (wA (wA (wA (wA w 28 m_worth_1) 29 m_length_2) 31 m_inSentence_3) 33 m_tooLike_5) 0 42 m_areLaid_4) 0 43 1)) rfl ?_
          exact r_retv (pc := 86) hC hQ dX10_laysLike_86 hr hk ⟨m_worth_1, m_length_2, m_inSentence_3, m_tooLike_5, m_areLaid_4, 1, rfl, h⟩
        have h := h.2 hc4
        refine r_aload_n (pc := 27) hC 0 dX10_laysLike_27 rfl rfl ?_
        refine r_getr (r := 33) (pc := 28) hC dX10_laysLike_28 fl_RX10_121 lM_0 rfl ?_
        refine r_iload_n (pc := 31) hC 1 dX10_laysLike_31 rfl rfl ?_
        refine r_iconst (pc := 32) hC dX10_laysLike_32 (rng_lit rfl) ?_
        refine r_iast (pc := 33) hC dX10_laysLike_33 lM_33 h.1.1 h.1.2 ?_
        have h := h.2
        refine r_iconst (pc := 34) hC dX10_laysLike_34 (rng_lit rfl) ?_
        refine r_istore_n (ls2 := [some (aR 0), some (aI x6), some (aI 0)]) (pc := 35) hC 2 dX10_laysLike_35 rfl (by decide) rfl rfl ?_
        obtain ⟨I2, μ2, hI2, hB2⟩ := h
        have S2 : ∀ (nn : Nat) (m_tooLike_7 : (Nat → Int)) (x8 : Int), μ2 m_tooLike_7 x8 < nn → I2 m_tooLike_7 x8 → Wd p l e (rmD 2) s m args below meth c Q 0 0 3 D cA ad A LM (wI (wI (wA (wA (wA (wA w 28 m_worth_1) 29 m_length_2) 31 m_inSentence_3) 33 m_tooLike_7) 0 42 m_areLaid_4) 0 43 1) 36 [some (aR 0), some (aI x6), some (aI x8)] [] := by
          intro nn
          induction nn with
          | zero => intro m_tooLike_7 x8 hn; exact absurd hn (Nat.not_lt_zero _)
          | succ nn ih2 =>
            intro m_tooLike_7 x8 hn2 hi
            have h := hB2 m_tooLike_7 x8 hi
            refine r_iload_n (pc := 36) hC 2 dX10_laysLike_36 rfl rfl ?_
            refine r_aload_n (pc := 37) hC 0 dX10_laysLike_37 rfl rfl ?_
            refine r_get (kd := 0) (v := (w.1 0 16)) (pc := 38) hC dX10_laysLike_38 fl_RX10_203 lM_0 rfl rfl ?_
            refine r_ic_ge (pc := 41) (tgt := 80) hC dX10_laysLike_41 rfl (fun hc3 => ?_) (fun hc3 => ?_)
            · have h := h.1 hc3
              refine r_iinc (ls2 := [some (aR 0), some (aI (x6 + 1)), some (aI x8)]) (pc := 80) hC dX10_laysLike_80 rfl (by decide) rfl h.1 rfl ?_
              have h := h.2
              refine r_goto (tgt := 19) (pc := 83) hC dX10_laysLike_83 rfl ?_
              exact r_to [true, true, false] rfl rfl (ih1 m_tooLike_7 (x6 + 1) (Nat.lt_of_lt_of_le h.2 (Nat.le_of_lt_succ hn1)) h.1)
            have h := h.2 hc3
            refine r_iload_n (pc := 44) hC 1 dX10_laysLike_44 rfl rfl ?_
            refine r_iload_n (pc := 45) hC 2 dX10_laysLike_45 rfl rfl ?_
            obtain ⟨J3, hJ3, h⟩ := h
            have S3 : ∀ (m_tooLike_9 : (Nat → Int)), J3 m_tooLike_9 → Wd p l e (rmD 2) s m args below meth c Q 0 0 3 D cA ad A LM (wI (wI (wA (wA (wA (wA w 28 m_worth_1) 29 m_length_2) 31 m_inSentence_3) 33 m_tooLike_9) 0 42 m_areLaid_4) 0 43 1) 74 [some (aR 0), some (aI x6), some (aI x8)] [] := by
              intro m_tooLike_9 hj
              have h := hJ3 m_tooLike_9 hj
              refine r_iinc (ls2 := [some (aR 0), some (aI x6), some (aI (x8 + 1))]) (pc := 74) hC dX10_laysLike_74 rfl (by decide) rfl h.1 rfl ?_
              have h := h.2
              refine r_goto (tgt := 36) (pc := 77) hC dX10_laysLike_77 rfl ?_
              exact r_to [true, true, true] rfl rfl (ih2 m_tooLike_9 (x8 + 1) (Nat.lt_of_lt_of_le h.2 (Nat.le_of_lt_succ hn2)) h.1)
            refine r_ic_eq (pc := 46) (tgt := 74) hC dX10_laysLike_46 rfl (fun hc2 => ?_) (fun hc2 => ?_)
            · have h := h.1 hc2
              exact r_to [true, true, true] rfl rfl (S3 m_tooLike_7 h)
            have h := h.2 hc2
            refine r_aload_n (pc := 49) hC 0 dX10_laysLike_49 rfl rfl ?_
            refine r_iload_n (pc := 50) hC 1 dX10_laysLike_50 rfl rfl ?_
            refine r_iload_n (pc := 51) hC 2 dX10_laysLike_51 rfl rfl ?_
            refine r_callVi (pc := 52) hC [aI x6, aI x8] [] dX10_laysLike_52 ml_RX10_352 my_X10_commonOf mi_X10_commonOf lM_0 rfl rfl ⟨Nat.le_of_ble_eq_true rfl, Nat.le_of_ble_eq_true rfl⟩ ⟨Nat.le_of_ble_eq_true rfl, Nat.le_of_ble_eq_true rfl⟩ (Nat.le_of_ble_eq_true rfl) rfl (s_M_commonOf l _ _ _ _ h) (fun r10 w1 hq => ?_)
            obtain ⟨e9, h⟩ := hq
            rw [e9]
            refine r_aload_n (pc := 55) hC 0 dX10_laysLike_55 rfl rfl ?_
            refine r_get (kd := 0) (v := (w.1 0 52)) (pc := 56) hC dX10_laysLike_56 fl_RX10_118 lM_0 rfl rfl ?_
            refine r_ic_le (pc := 59) (tgt := 74) hC dX10_laysLike_59 rfl (fun hc1 => ?_) (fun hc1 => ?_)
            · have h := h.1 hc1
              exact r_to [true, true, true] rfl rfl (S3 m_tooLike_7 h)
            have h := h.2 hc1
            refine r_aload_n (pc := 62) hC 0 dX10_laysLike_62 rfl rfl ?_
            refine r_getr (r := 33) (pc := 63) hC dX10_laysLike_63 fl_RX10_121 lM_0 rfl ?_
            refine r_iload_n (pc := 66) hC 1 dX10_laysLike_66 rfl rfl ?_
            refine r_dup2 (pc := 67) hC dX10_laysLike_67 rfl rfl ?_
            refine r_iald (v := (m_tooLike_7 (Int.toNat x6))) (pc := 68) hC dX10_laysLike_68 lM_33 h.1.1 h.1.2 rfl ?_
            have h := h.2
            refine r_iconst (pc := 69) hC dX10_laysLike_69 (rng_lit rfl) ?_
            refine r_iload_n (pc := 70) hC 2 dX10_laysLike_70 rfl rfl ?_
            refine r_ishl (pc := 71) hC dX10_laysLike_71 ?_
            refine r_ior (pc := 72) hC dX10_laysLike_72 ?_
            refine r_iast (pc := 73) hC dX10_laysLike_73 lM_33 h.1.1 h.1.2 ?_
            have h := h.2
            exact r_to [true, true, true] rfl rfl (S3 (uI m_tooLike_7 x6 (iOr (m_tooLike_7 (Int.toNat x6)) (iShl 1 x8))) h)
        exact r_to [true, true, true] rfl rfl (S2 _ (uI m_tooLike_5 x6 0) 0 (Nat.lt_succ_self _) hI2)
    exact r_to [true, true, false] rfl rfl (S1 _ (w.1 33) 0 (Nat.lt_succ_self _) hI1)
  have h := h.2 hc5
  refine r_conv (w2 := (wI (wI (wA (wA (wA (wA w 28 m_worth_1) 29 m_length_2) 31 m_inSentence_3) 33 (w.1 33)) 0 42 m_areLaid_4) 0 43 (w.1 0 43))) rfl ?_
  exact r_retv (pc := 11) hC hQ dX10_laysLike_11 hr hk ⟨m_worth_1, m_length_2, m_inSentence_3, (w.1 33), m_areLaid_4, (w.1 0 43), rfl, h⟩
def wp_M_areUnlike (m_tooLike : (Nat → Int)) (m_sentences : Int) (a1 : Int) (Q : Int → Prop) : Prop := lpw1 (fun (x1 : Int) (k1 : Int → Prop) => (m_sentences ≤ x1 → Q 1) ∧ (¬ m_sentences ≤ x1 → wp_M_holds a1 x1 (fun (r2 : Int) => jn0 (fun (J2 : Prop) => (r2 = 0 → J2) ∧ (¬ r2 = 0 → (0 ≤ x1 ∧ x1 < 14) ∧ (((iAnd (m_tooLike (Int.toNat x1)) a1) = 0 → J2) ∧ (¬ (iAnd (m_tooLike (Int.toNat x1)) a1) = 0 → Q 0)))) ((rng (x1 + 1)) ∧ (k1 (x1 + 1)))))) 0
set_option maxHeartbeats 4000000 in
set_option maxRecDepth 20000 in
theorem s_M_areUnlike (l : Launch) (w : St) (a1 : Int) (P : Int → Prop) (h : wp_M_areUnlike (w.1 33) (w.1 0 16) a1 P) : Cn l yX10_areUnlike cX10_areUnlike 3 (some .boolean) 1 LM w [aR 0, aI a1] (okI (fun r w1 => w1 = w ∧ P r)) := by
  unfold wp_M_areUnlike at h
  refine Cn.of2 [some (aR 0), some (aI a1), none] (by decide) (Nat.le_of_ble_eq_true rfl) rfl (fun p e s m args below meth c D cA ad A Q hQ hC hr hk => ?_)
  refine r_iconst (pc := 0) hC dX10_areUnlike_0 (rng_lit rfl) ?_
  refine r_istore_n (ls2 := [some (aR 0), some (aI a1), some (aI 0)]) (pc := 1) hC 2 dX10_areUnlike_1 rfl (by decide) rfl rfl ?_
  obtain ⟨I1, μ1, hI1, hB1⟩ := h
  have S1 : ∀ (nn : Nat) (x1 : Int), μ1 x1 < nn → I1 x1 → Wd p l e (rmD 1) s m args below meth c Q 0 0 3 D cA ad A LM w 2 [some (aR 0), some (aI a1), some (aI x1)] [] := by
    intro nn
    induction nn with
    | zero => intro x1 hn; exact absurd hn (Nat.not_lt_zero _)
    | succ nn ih1 =>
      intro x1 hn1 hi
      have h := hB1 x1 hi
      refine r_iload_n (pc := 2) hC 2 dX10_areUnlike_2 rfl rfl ?_
      refine r_aload_n (pc := 3) hC 0 dX10_areUnlike_3 rfl rfl ?_
      refine r_get (kd := 0) (v := (w.1 0 16)) (pc := 4) hC dX10_areUnlike_4 fl_RX10_203 lM_0 rfl rfl ?_
      refine r_ic_ge (pc := 7) (tgt := 37) hC dX10_areUnlike_7 rfl (fun hc3 => ?_) (fun hc3 => ?_)
      · have h := h.1 hc3
        refine r_iconst (pc := 37) hC dX10_areUnlike_37 (rng_lit rfl) ?_
        exact r_reti (pc := 38) (kd := 1) hC hQ dX10_areUnlike_38 hr hk (by decide) (Or.inr okK1_1) ⟨rfl, h⟩
      have h := h.2 hc3
      refine r_iload_n (pc := 10) hC 1 dX10_areUnlike_10 rfl rfl ?_
      refine r_iload_n (pc := 11) hC 2 dX10_areUnlike_11 rfl rfl ?_
      refine r_callSi (pc := 12) hC [aI a1, aI x1] [] dX10_areUnlike_12 ml_RX10_294 my_X10_holds ms_X10_holds rfl ⟨Nat.le_of_ble_eq_true rfl, Nat.le_of_ble_eq_true rfl⟩ ⟨Nat.le_of_ble_eq_true rfl, Nat.le_of_ble_eq_true rfl⟩ (Nat.le_of_ble_eq_true rfl) rfl (s_M_holds l _ _ _ _ h) (fun r2 w1 hq => ?_)
      obtain ⟨e9, h⟩ := hq
      rw [e9]
      obtain ⟨J2, hJ2, h⟩ := h
      have S2 : J2 → Wd p l e (rmD 1) s m args below meth c Q 0 0 3 D cA ad A LM w 31 [some (aR 0), some (aI a1), some (aI x1)] [] := by
        intro hj
        have h := hJ2 hj
        refine r_iinc (ls2 := [some (aR 0), some (aI a1), some (aI (x1 + 1))]) (pc := 31) hC dX10_areUnlike_31 rfl (by decide) rfl h.1 rfl ?_
        have h := h.2
        refine r_goto (tgt := 2) (pc := 34) hC dX10_areUnlike_34 rfl ?_
        exact r_to [true, true, true] rfl rfl (ih1 (x1 + 1) (Nat.lt_of_lt_of_le h.2 (Nat.le_of_lt_succ hn1)) h.1)
      refine r_if_eq (pc := 15) (tgt := 31) hC dX10_areUnlike_15 rfl (fun hc2 => ?_) (fun hc2 => ?_)
      · have h := h.1 hc2
        exact r_to [true, true, true] rfl rfl (S2 h)
      have h := h.2 hc2
      refine r_aload_n (pc := 18) hC 0 dX10_areUnlike_18 rfl rfl ?_
      refine r_getr (r := 33) (pc := 19) hC dX10_areUnlike_19 fl_RX10_121 lM_0 rfl ?_
      refine r_iload_n (pc := 22) hC 2 dX10_areUnlike_22 rfl rfl ?_
      refine r_iald (v := ((w.1 33) (Int.toNat x1))) (pc := 23) hC dX10_areUnlike_23 lM_33 h.1.1 h.1.2 rfl ?_
      have h := h.2
      refine r_iload_n (pc := 24) hC 1 dX10_areUnlike_24 rfl rfl ?_
      refine r_iand (pc := 25) hC dX10_areUnlike_25 ?_
      refine r_if_eq (pc := 26) (tgt := 31) hC dX10_areUnlike_26 rfl (fun hc1 => ?_) (fun hc1 => ?_)
      · have h := h.1 hc1
        exact r_to [true, true, true] rfl rfl (S2 h)
      have h := h.2 hc1
      refine r_iconst (pc := 29) hC dX10_areUnlike_29 (rng_lit rfl) ?_
      exact r_reti (pc := 30) (kd := 1) hC hQ dX10_areUnlike_30 hr hk (by decide) (Or.inr okK1_0) ⟨rfl, h⟩
  exact r_to [true, true, true] rfl rfl (S1 _ 0 (Nat.lt_succ_self _) hI1)
def wp_M_mayBe (m_length : (Nat → Int)) (m_tooLike : (Nat → Int)) (m_sentences : Int) (m_mostOf : Int) (a1 : Int) (a2 : Int) (Q : Int → Prop) : Prop := (0 ≤ a1 ∧ a1 < 16384) ∧ ((a2 < (m_length (Int.toNat a1)) → Q 0) ∧ (¬ a2 < (m_length (Int.toNat a1)) → wp_M_bits a1 (fun (r1 : Int) => (m_mostOf < r1 → Q 0) ∧ (¬ m_mostOf < r1 → wp_M_areUnlike m_tooLike m_sentences a1 (fun (r2 : Int) => (r2 = 0 → Q 0) ∧ (¬ r2 = 0 → Q 1))))))
set_option maxHeartbeats 4000000 in
set_option maxRecDepth 20000 in
theorem s_M_mayBe (l : Launch) (w : St) (a1 : Int) (a2 : Int) (P : Int → Prop) (h : wp_M_mayBe (w.1 29) (w.1 33) (w.1 0 16) (w.1 0 51) a1 a2 P) : Cn l yX10_mayBe cX10_mayBe 3 (some .boolean) 2 LM w [aR 0, aI a1, aI a2] (okI (fun r w1 => w1 = w ∧ P r)) := by
  unfold wp_M_mayBe at h
  refine Cn.of2 [some (aR 0), some (aI a1), some (aI a2)] (by decide) (Nat.le_of_ble_eq_true rfl) rfl (fun p e s m args below meth c D cA ad A Q hQ hC hr hk => ?_)
  refine r_aload_n (pc := 0) hC 0 dX10_mayBe_0 rfl rfl ?_
  refine r_getr (r := 29) (pc := 1) hC dX10_mayBe_1 fl_RX10_100 lM_0 rfl ?_
  refine r_iload_n (pc := 4) hC 1 dX10_mayBe_4 rfl rfl ?_
  refine r_iald (v := ((w.1 29) (Int.toNat a1))) (pc := 5) hC dX10_mayBe_5 lM_29 h.1.1 h.1.2 rfl ?_
  have h := h.2
  refine r_iload_n (pc := 6) hC 2 dX10_mayBe_6 rfl rfl ?_
  refine r_ic_gt (pc := 7) (tgt := 33) hC dX10_mayBe_7 rfl (fun hc3 => ?_) (fun hc3 => ?_)
  · have h := h.1 hc3
    refine r_iconst (pc := 33) hC dX10_mayBe_33 (rng_lit rfl) ?_
    exact r_reti (pc := 34) (kd := 1) hC hQ dX10_mayBe_34 hr hk (by decide) (Or.inr okK1_0) ⟨rfl, h⟩
  have h := h.2 hc3
  refine r_iload_n (pc := 10) hC 1 dX10_mayBe_10 rfl rfl ?_
  refine r_callSi (pc := 11) hC [aI a1] [] dX10_mayBe_11 ml_RX10_319 my_X10_bits ms_X10_bits rfl ⟨Nat.le_of_ble_eq_true rfl, Nat.le_of_ble_eq_true rfl⟩ ⟨Nat.le_of_ble_eq_true rfl, Nat.le_of_ble_eq_true rfl⟩ (Nat.le_of_ble_eq_true rfl) rfl (s_M_bits l _ _ _ h) (fun r1 w1 hq => ?_)
  obtain ⟨e9, h⟩ := hq
  rw [e9]
  refine r_aload_n (pc := 14) hC 0 dX10_mayBe_14 rfl rfl ?_
  refine r_get (kd := 0) (v := (w.1 0 51)) (pc := 15) hC dX10_mayBe_15 fl_RX10_115 lM_0 rfl rfl ?_
  refine r_ic_gt (pc := 18) (tgt := 33) hC dX10_mayBe_18 rfl (fun hc2 => ?_) (fun hc2 => ?_)
  · have h := h.1 hc2
    refine r_iconst (pc := 33) hC dX10_mayBe_33 (rng_lit rfl) ?_
    exact r_reti (pc := 34) (kd := 1) hC hQ dX10_mayBe_34 hr hk (by decide) (Or.inr okK1_0) ⟨rfl, h⟩
  have h := h.2 hc2
  refine r_aload_n (pc := 21) hC 0 dX10_mayBe_21 rfl rfl ?_
  refine r_iload_n (pc := 22) hC 1 dX10_mayBe_22 rfl rfl ?_
  refine r_callVi (pc := 23) hC [aI a1] [] dX10_mayBe_23 ml_RX10_355 my_X10_areUnlike mi_X10_areUnlike lM_0 rfl rfl ⟨Nat.le_of_ble_eq_true rfl, Nat.le_of_ble_eq_true rfl⟩ ⟨Nat.le_of_ble_eq_true rfl, Nat.le_of_ble_eq_true rfl⟩ (Nat.le_of_ble_eq_true rfl) rfl (s_M_areUnlike l _ _ _ h) (fun r2 w1 hq => ?_)
  obtain ⟨e9, h⟩ := hq
  rw [e9]
  refine r_if_eq (pc := 26) (tgt := 33) hC dX10_mayBe_26 rfl (fun hc1 => ?_) (fun hc1 => ?_)
  · have h := h.1 hc1
    refine r_iconst (pc := 33) hC dX10_mayBe_33 (rng_lit rfl) ?_
    exact r_reti (pc := 34) (kd := 1) hC hQ dX10_mayBe_34 hr hk (by decide) (Or.inr okK1_0) ⟨rfl, h⟩
  have h := h.2 hc1
  refine r_iconst (pc := 29) hC dX10_mayBe_29 (rng_lit rfl) ?_
  refine r_goto (tgt := 34) (pc := 30) hC dX10_mayBe_30 rfl ?_
  exact r_reti (pc := 34) (kd := 1) hC hQ dX10_mayBe_34 hr hk (by decide) (Or.inr okK1_1) ⟨rfl, h⟩
def wp_M_may (m_length : (Nat → Int)) (m_tooLike : (Nat → Int)) (m_sentences : Int) (m_budget : Int) (m_mostOf : Int) (a1 : Int) (Q : Int → Prop) : Prop := wp_M_mayBe m_length m_tooLike m_sentences m_mostOf a1 m_budget (fun (r1 : Int) => (0 ≤ r1 ∧ r1 ≤ 1) ∧ (Q r1))
set_option maxHeartbeats 4000000 in
set_option maxRecDepth 20000 in
theorem s_M_may (l : Launch) (w : St) (a1 : Int) (P : Int → Prop) (h : wp_M_may (w.1 29) (w.1 33) (w.1 0 16) (w.1 0 50) (w.1 0 51) a1 P) : Cn l yX10_may cX10_may 2 (some .boolean) 3 LM w [aR 0, aI a1] (okI (fun r w1 => w1 = w ∧ P r)) := by
  unfold wp_M_may at h
  refine Cn.of2 [some (aR 0), some (aI a1)] (by decide) (Nat.le_of_ble_eq_true rfl) rfl (fun p e s m args below meth c D cA ad A Q hQ hC hr hk => ?_)
  refine r_aload_n (pc := 0) hC 0 dX10_may_0 rfl rfl ?_
  refine r_iload_n (pc := 1) hC 1 dX10_may_1 rfl rfl ?_
  refine r_aload_n (pc := 2) hC 0 dX10_may_2 rfl rfl ?_
  refine r_get (kd := 0) (v := (w.1 0 50)) (pc := 3) hC dX10_may_3 fl_RX10_112 lM_0 rfl rfl ?_
  refine r_callVi (pc := 6) hC [aI a1, aI (w.1 0 50)] [] dX10_may_6 ml_RX10_358 my_X10_mayBe mi_X10_mayBe lM_0 rfl rfl ⟨Nat.le_of_ble_eq_true rfl, Nat.le_of_ble_eq_true rfl⟩ ⟨Nat.le_of_ble_eq_true rfl, Nat.le_of_ble_eq_true rfl⟩ (Nat.le_of_ble_eq_true rfl) rfl (s_M_mayBe l _ _ _ _ h) (fun r1 w1 hq => ?_)
  obtain ⟨e9, h⟩ := hq
  rw [e9]
  exact r_reti (pc := 9) (kd := 1) hC hQ dX10_may_9 hr hk (by decide) (Or.inr h.1) ⟨rfl, h.2⟩
