def wp_M_nextStep (m_from : (Nat → Int)) (m_to : (Nat → Int)) (m_worth : (Nat → Int)) (m_length : (Nat → Int)) (m_tooLike : (Nat → Int)) (m_sentences : Int) (m_budget : Int) (m_mostOf : Int) (a1 : Int) (Q : Int → Prop) : Prop := lpw2 (fun (x1 : Int) (x2 : Int) (k1 : Int → Int → Prop) => (m_sentences ≤ x2 → Q x1) ∧ (¬ m_sentences ≤ x2 → wp_M_holds a1 x2 (fun (r3 : Int) => jn1 (fun (J2 : Int → Prop) => (¬ r3 = 0 → J2 x1) ∧ (r3 = 0 → wp_M_may m_length m_tooLike m_sentences m_budget m_mostOf (iOr a1 (iShl 1 x2)) (fun (r5 : Int) => (¬ r5 = 0 → (0 ≤ (iOr a1 (iShl 1 x2)) ∧ (iOr a1 (iShl 1 x2)) < 16384) ∧ ((0 ≤ a1 ∧ a1 < 16384) ∧ ((rng ((m_worth (Int.toNat (iOr a1 (iShl 1 x2)))) - (m_worth (Int.toNat a1)))) ∧ ((0 ≤ x2 ∧ x2 < 14) ∧ ((0 ≤ x2 ∧ x2 < 14) ∧ ((rng ((m_to (Int.toNat x2)) - (m_from (Int.toNat x2)))) ∧ ((rng (((m_to (Int.toNat x2)) - (m_from (Int.toNat x2))) + 4)) ∧ ((0 < ((m_worth (Int.toNat (iOr a1 (iShl 1 x2)))) - (m_worth (Int.toNat a1))) → jn0 (fun (J3 : Prop) => (x1 = (-1) → J3) ∧ (¬ x1 = (-1) → (0 ≤ (iOr a1 (iShl 1 x1)) ∧ (iOr a1 (iShl 1 x1)) < 16384) ∧ ((0 ≤ a1 ∧ a1 < 16384) ∧ ((rng ((m_worth (Int.toNat (iOr a1 (iShl 1 x1)))) - (m_worth (Int.toNat a1)))) ∧ ((0 ≤ x1 ∧ x1 < 14) ∧ ((0 ≤ x1 ∧ x1 < 14) ∧ ((rng ((m_to (Int.toNat x1)) - (m_from (Int.toNat x1)))) ∧ ((rng (((m_to (Int.toNat x1)) - (m_from (Int.toNat x1))) + 4)) ∧ ((rng (((m_worth (Int.toNat (iOr a1 (iShl 1 x2)))) - (m_worth (Int.toNat a1))) * (((m_to (Int.toNat x1)) - (m_from (Int.toNat x1))) + 4))) ∧ ((rng (((m_worth (Int.toNat (iOr a1 (iShl 1 x1)))) - (m_worth (Int.toNat a1))) * (((m_to (Int.toNat x2)) - (m_from (Int.toNat x2))) + 4))) ∧ ((rng ((((m_worth (Int.toNat (iOr a1 (iShl 1 x2)))) - (m_worth (Int.toNat a1))) * (((m_to (Int.toNat x1)) - (m_from (Int.toNat x1))) + 4)) - (((m_worth (Int.toNat (iOr a1 (iShl 1 x1)))) - (m_worth (Int.toNat a1))) * (((m_to (Int.toNat x2)) - (m_from (Int.toNat x2))) + 4)))) ∧ ((((((m_worth (Int.toNat (iOr a1 (iShl 1 x2)))) - (m_worth (Int.toNat a1))) * (((m_to (Int.toNat x1)) - (m_from (Int.toNat x1))) + 4)) - (((m_worth (Int.toNat (iOr a1 (iShl 1 x1)))) - (m_worth (Int.toNat a1))) * (((m_to (Int.toNat x2)) - (m_from (Int.toNat x2))) + 4))) < 0 → J2 x1) ∧ (¬ ((((m_worth (Int.toNat (iOr a1 (iShl 1 x2)))) - (m_worth (Int.toNat a1))) * (((m_to (Int.toNat x1)) - (m_from (Int.toNat x1))) + 4)) - (((m_worth (Int.toNat (iOr a1 (iShl 1 x1)))) - (m_worth (Int.toNat a1))) * (((m_to (Int.toNat x2)) - (m_from (Int.toNat x2))) + 4))) < 0 → (¬ ((((m_worth (Int.toNat (iOr a1 (iShl 1 x2)))) - (m_worth (Int.toNat a1))) * (((m_to (Int.toNat x1)) - (m_from (Int.toNat x1))) + 4)) - (((m_worth (Int.toNat (iOr a1 (iShl 1 x1)))) - (m_worth (Int.toNat a1))) * (((m_to (Int.toNat x2)) - (m_from (Int.toNat x2))) + 4))) = 0 → J3) ∧ (((((m_worth (Int.toNat (iOr a1 (iShl 1 x2)))) - (m_worth (Int.toNat a1))) * (((m_to (Int.toNat x1)) - (m_from (Int.toNat x1))) + 4)) - (((m_worth (Int.toNat (iOr a1 (iShl 1 x1)))) - (m_worth (Int.toNat a1))) * (((m_to (Int.toNat x2)) - (m_from (Int.toNat x2))) + 4))) = 0 → (((m_worth (Int.toNat (iOr a1 (iShl 1 x1)))) - (m_worth (Int.toNat a1))) < ((m_worth (Int.toNat (iOr a1 (iShl 1 x2)))) - (m_worth (Int.toNat a1))) → J3) ∧ (¬ ((m_worth (Int.toNat (iOr a1 (iShl 1 x1)))) - (m_worth (Int.toNat a1))) < ((m_worth (Int.toNat (iOr a1 (iShl 1 x2)))) - (m_worth (Int.toNat a1))) → J2 x1))))))))))))))) (J2 x2)) ∧ (¬ 0 < ((m_worth (Int.toNat (iOr a1 (iShl 1 x2)))) - (m_worth (Int.toNat a1))) → J2 x1))))))))) ∧ (r5 = 0 → J2 x1)))) (fun (x4 : Int) => (rng (x2 + 1)) ∧ (k1 x4 (x2 + 1)))))) (-1) 0
set_option maxHeartbeats 4000000 in
set_option maxRecDepth 20000 in
theorem s_M_nextStep (l : Launch) (w : St) (a1 : Int) (P : Int → Prop) (h : wp_M_nextStep (w.1 9) (w.1 10) (w.1 28) (w.1 29) (w.1 33) (w.1 0 16) (w.1 0 50) (w.1 0 51) a1 P) : Cn l yX10_nextStep cX10_nextStep 8 (some .int) 4 LM w [aR 0, aI a1] (okI (fun r w1 => w1 = w ∧ P r)) := by
  unfold wp_M_nextStep at h
  refine Cn.of2 [some (aR 0), some (aI a1), none, none, none, none, none, none] (by decide) (Nat.le_of_ble_eq_true rfl) rfl (fun p e s m args below meth c D cA ad A Q hQ hC hr hk => ?_)
  refine r_iconst (pc := 0) hC dX10_nextStep_0 (rng_lit rfl) ?_
  refine r_istore_n (ls2 := [some (aR 0), some (aI a1), some (aI (-1)), none, none, none, none, none]) (pc := 1) hC 2 dX10_nextStep_1 rfl (by decide) rfl rfl ?_
  refine r_iconst (pc := 2) hC dX10_nextStep_2 (rng_lit rfl) ?_
  refine r_istore_n (ls2 := [some (aR 0), some (aI a1), some (aI (-1)), some (aI 0), none, none, none, none]) (pc := 3) hC 3 dX10_nextStep_3 rfl (by decide) rfl rfl ?_
  obtain ⟨I1, μ1, hI1, hB1⟩ := h
  have S1 : ∀ (nn : Nat) (x1 : Int) (x2 : Int), μ1 x1 x2 < nn → I1 x1 x2 → Wd p l e (rmD 4) s m args below meth c Q 0 0 8 D cA ad A LM w 4 [some (aR 0), some (aI a1), some (aI x1), some (aI x2), none, none, none, none] [] := by
    intro nn
    induction nn with
    | zero => intro x1 x2 hn; exact absurd hn (Nat.not_lt_zero _)
    | succ nn ih1 =>
      intro x1 x2 hn1 hi
      have h := hB1 x1 x2 hi
      refine r_iload_n (pc := 4) hC 3 dX10_nextStep_4 rfl rfl ?_
      refine r_aload_n (pc := 5) hC 0 dX10_nextStep_5 rfl rfl ?_
      refine r_get (kd := 0) (v := (w.1 0 16)) (pc := 6) hC dX10_nextStep_6 fl_RX10_203 lM_0 rfl rfl ?_
      refine r_ic_ge (pc := 9) (tgt := 157) hC dX10_nextStep_9 rfl (fun hc8 => ?_) (fun hc8 => ?_)
      · have h := h.1 hc8
        refine r_iload_n (pc := 157) hC 2 dX10_nextStep_157 rfl rfl ?_
        exact r_reti (pc := 158) (kd := 0) hC hQ dX10_nextStep_158 hr hk (by decide) (Or.inl rfl) ⟨rfl, h⟩
      have h := h.2 hc8
      refine r_iload_n (pc := 12) hC 1 dX10_nextStep_12 rfl rfl ?_
      refine r_iload_n (pc := 13) hC 3 dX10_nextStep_13 rfl rfl ?_
      refine r_callSi (pc := 14) hC [aI a1, aI x2] [] dX10_nextStep_14 ml_RX10_294 my_X10_holds ms_X10_holds rfl ⟨Nat.le_of_ble_eq_true rfl, Nat.le_of_ble_eq_true rfl⟩ ⟨Nat.le_of_ble_eq_true rfl, Nat.le_of_ble_eq_true rfl⟩ (Nat.le_of_ble_eq_true rfl) rfl (s_M_holds l _ _ _ _ h) (fun r3 w1 hq => ?_)
      obtain ⟨e9, h⟩ := hq
      rw [e9]
      obtain ⟨J2, hJ2, h⟩ := h
      have S2 : ∀ (x4 : Int), J2 x4 → Wd p l e (rmD 4) s m args below meth c Q 0 0 8 D cA ad A LM w 151 [some (aR 0), some (aI a1), some (aI x4), some (aI x2), none, none, none, none] [] := by
        intro x4 hj
        have h := hJ2 x4 hj
        refine r_iinc (ls2 := [some (aR 0), some (aI a1), some (aI x4), some (aI (x2 + 1)), none, none, none, none]) (pc := 151) hC dX10_nextStep_151 rfl (by decide) rfl h.1 rfl ?_
        have h := h.2
        refine r_goto (tgt := 4) (pc := 154) hC dX10_nextStep_154 rfl ?_
        exact r_to [true, true, true, true, false, false, false, false] rfl rfl (ih1 x4 (x2 + 1) (Nat.lt_of_lt_of_le h.2 (Nat.le_of_lt_succ hn1)) h.1)
      refine r_if_ne (pc := 17) (tgt := 151) hC dX10_nextStep_17 rfl (fun hc7 => ?_) (fun hc7 => ?_)
      · have h := h.1 hc7
        exact r_to [true, true, true, true, false, false, false, false] rfl rfl (S2 x1 h)
      have h := h.2 hc7
      refine r_aload_n (pc := 20) hC 0 dX10_nextStep_20 rfl rfl ?_
      refine r_iload_n (pc := 21) hC 1 dX10_nextStep_21 rfl rfl ?_
      refine r_iconst (pc := 22) hC dX10_nextStep_22 (rng_lit rfl) ?_
      refine r_iload_n (pc := 23) hC 3 dX10_nextStep_23 rfl rfl ?_
      refine r_ishl (pc := 24) hC dX10_nextStep_24 ?_
      refine r_ior (pc := 25) hC dX10_nextStep_25 ?_
      refine r_callVi (pc := 26) hC [aI (iOr a1 (iShl 1 x2))] [] dX10_nextStep_26 ml_RX10_361 my_X10_may mi_X10_may lM_0 rfl rfl ⟨Nat.le_of_ble_eq_true rfl, Nat.le_of_ble_eq_true rfl⟩ ⟨Nat.le_of_ble_eq_true rfl, Nat.le_of_ble_eq_true rfl⟩ (Nat.le_of_ble_eq_true rfl) rfl (s_M_may l _ _ _ h) (fun r5 w1 hq => ?_)
      obtain ⟨e9, h⟩ := hq
      rw [e9]
      refine r_if_ne (pc := 29) (tgt := 35) hC dX10_nextStep_29 rfl (fun hc6 => ?_) (fun hc6 => ?_)
      · have h := h.1 hc6
        refine r_aload_n (pc := 35) hC 0 dX10_nextStep_35 rfl rfl ?_
        refine r_getr (r := 28) (pc := 36) hC dX10_nextStep_36 fl_RX10_97 lM_0 rfl ?_
        refine r_iload_n (pc := 39) hC 1 dX10_nextStep_39 rfl rfl ?_
        refine r_iconst (pc := 40) hC dX10_nextStep_40 (rng_lit rfl) ?_
        refine r_iload_n (pc := 41) hC 3 dX10_nextStep_41 rfl rfl ?_
        refine r_ishl (pc := 42) hC dX10_nextStep_42 ?_
        refine r_ior (pc := 43) hC dX10_nextStep_43 ?_
        refine r_iald (v := ((w.1 28) (Int.toNat (iOr a1 (iShl 1 x2))))) (pc := 44) hC dX10_nextStep_44 lM_28 h.1.1 h.1.2 rfl ?_
        have h := h.2
        refine r_aload_n (pc := 45) hC 0 dX10_nextStep_45 rfl rfl ?_
        refine r_getr (r := 28) (pc := 46) hC dX10_nextStep_46 fl_RX10_97 lM_0 rfl ?_
        refine r_iload_n (pc := 49) hC 1 dX10_nextStep_49 rfl rfl ?_
        refine r_iald (v := ((w.1 28) (Int.toNat a1))) (pc := 50) hC dX10_nextStep_50 lM_28 h.1.1 h.1.2 rfl ?_
        have h := h.2
        refine r_isub (pc := 51) hC dX10_nextStep_51 h.1 ?_
        have h := h.2
        refine r_istore (ls2 := [some (aR 0), some (aI a1), some (aI x1), some (aI x2), some (aI (((w.1 28) (Int.toNat (iOr a1 (iShl 1 x2)))) - ((w.1 28) (Int.toNat a1)))), none, none, none]) (pc := 52) hC dX10_nextStep_52 (by decide) rfl rfl ?_
        refine r_aload_n (pc := 54) hC 0 dX10_nextStep_54 rfl rfl ?_
        refine r_getr (r := 10) (pc := 55) hC dX10_nextStep_55 fl_RX10_38 lM_0 rfl ?_
        refine r_iload_n (pc := 58) hC 3 dX10_nextStep_58 rfl rfl ?_
        refine r_iald (v := ((w.1 10) (Int.toNat x2))) (pc := 59) hC dX10_nextStep_59 lM_10 h.1.1 h.1.2 rfl ?_
        have h := h.2
        refine r_aload_n (pc := 60) hC 0 dX10_nextStep_60 rfl rfl ?_
        refine r_getr (r := 9) (pc := 61) hC dX10_nextStep_61 fl_RX10_35 lM_0 rfl ?_
        refine r_iload_n (pc := 64) hC 3 dX10_nextStep_64 rfl rfl ?_
        refine r_iald (v := ((w.1 9) (Int.toNat x2))) (pc := 65) hC dX10_nextStep_65 lM_9 h.1.1 h.1.2 rfl ?_
        have h := h.2
        refine r_isub (pc := 66) hC dX10_nextStep_66 h.1 ?_
        have h := h.2
        refine r_iconst (pc := 67) hC dX10_nextStep_67 (rng_lit rfl) ?_
        refine r_iadd (pc := 68) hC dX10_nextStep_68 h.1 ?_
        have h := h.2
        refine r_istore (ls2 := [some (aR 0), some (aI a1), some (aI x1), some (aI x2), some (aI (((w.1 28) (Int.toNat (iOr a1 (iShl 1 x2)))) - ((w.1 28) (Int.toNat a1)))), some (aI ((((w.1 10) (Int.toNat x2)) - ((w.1 9) (Int.toNat x2))) + 4)), none, none]) (pc := 69) hC dX10_nextStep_69 (by decide) rfl rfl ?_
        refine r_iload (pc := 71) hC dX10_nextStep_71 rfl ?_
        refine r_if_gt (pc := 73) (tgt := 79) hC dX10_nextStep_73 rfl (fun hc5 => ?_) (fun hc5 => ?_)
        · have h := h.1 hc5
          refine r_iload_n (pc := 79) hC 2 dX10_nextStep_79 rfl rfl ?_
          refine r_iconst (pc := 80) hC dX10_nextStep_80 (rng_lit rfl) ?_
          obtain ⟨J3, hJ3, h⟩ := h
          have S3 : J3 → Wd p l e (rmD 4) s m args below meth c Q 0 0 8 D cA ad A LM w 149 [some (aR 0), some (aI a1), none, some (aI x2), none, none, none, none] [] := by
            intro hj
            have h := hJ3 hj
            refine r_iload_n (pc := 149) hC 3 dX10_nextStep_149 rfl rfl ?_
            refine r_istore_n (ls2 := [some (aR 0), some (aI a1), some (aI x2), some (aI x2), none, none, none, none]) (pc := 150) hC 2 dX10_nextStep_150 rfl (by decide) rfl rfl ?_
            exact r_to [true, true, true, true, false, false, false, false] rfl rfl (S2 x2 h)
          refine r_ic_eq (pc := 81) (tgt := 149) hC dX10_nextStep_81 rfl (fun hc4 => ?_) (fun hc4 => ?_)
          · have h := h.1 hc4
            exact r_to [true, true, false, true, false, false, false, false] rfl rfl (S3 h)
          have h := h.2 hc4
          refine r_aload_n (pc := 84) hC 0 dX10_nextStep_84 rfl rfl ?_
          refine r_getr (r := 28) (pc := 85) hC dX10_nextStep_85 fl_RX10_97 lM_0 rfl ?_
          refine r_iload_n (pc := 88) hC 1 dX10_nextStep_88 rfl rfl ?_
          refine r_iconst (pc := 89) hC dX10_nextStep_89 (rng_lit rfl) ?_
          refine r_iload_n (pc := 90) hC 2 dX10_nextStep_90 rfl rfl ?_
          refine r_ishl (pc := 91) hC dX10_nextStep_91 ?_
          refine r_ior (pc := 92) hC dX10_nextStep_92 ?_
          refine r_iald (v := ((w.1 28) (Int.toNat (iOr a1 (iShl 1 x1))))) (pc := 93) hC dX10_nextStep_93 lM_28 h.1.1 h.1.2 rfl ?_
          have h := h.2
          refine r_aload_n (pc := 94) hC 0 dX10_nextStep_94 rfl rfl ?_
          refine r_getr (r := 28) (pc := 95) hC dX10_nextStep_95 fl_RX10_97 lM_0 rfl ?_
          refine r_iload_n (pc := 98) hC 1 dX10_nextStep_98 rfl rfl ?_
          refine r_iald (v := ((w.1 28) (Int.toNat a1))) (pc := 99) hC dX10_nextStep_99 lM_28 h.1.1 h.1.2 rfl ?_
          have h := h.2
          refine r_isub (pc := 100) hC dX10_nextStep_100 h.1 ?_
          have h := h.2
          refine r_istore (ls2 := [some (aR 0), some (aI a1), some (aI x1), some (aI x2), some (aI (((w.1 28) (Int.toNat (iOr a1 (iShl 1 x2)))) - ((w.1 28) (Int.toNat a1)))), some (aI ((((w.1 10) (Int.toNat x2)) - ((w.1 9) (Int.toNat x2))) + 4)), some (aI (((w.1 28) (Int.toNat (iOr a1 (iShl 1 x1)))) - ((w.1 28) (Int.toNat a1)))), none]) (pc := 101) hC dX10_nextStep_101 (by decide) rfl rfl ?_
          refine r_iload (pc := 103) hC dX10_nextStep_103 rfl ?_
          refine r_aload_n (pc := 105) hC 0 dX10_nextStep_105 rfl rfl ?_
          refine r_getr (r := 10) (pc := 106) hC dX10_nextStep_106 fl_RX10_38 lM_0 rfl ?_
          refine r_iload_n (pc := 109) hC 2 dX10_nextStep_109 rfl rfl ?_
          refine r_iald (v := ((w.1 10) (Int.toNat x1))) (pc := 110) hC dX10_nextStep_110 lM_10 h.1.1 h.1.2 rfl ?_
          have h := h.2
          refine r_aload_n (pc := 111) hC 0 dX10_nextStep_111 rfl rfl ?_
          refine r_getr (r := 9) (pc := 112) hC dX10_nextStep_112 fl_RX10_35 lM_0 rfl ?_
          refine r_iload_n (pc := 115) hC 2 dX10_nextStep_115 rfl rfl ?_
          refine r_iald (v := ((w.1 9) (Int.toNat x1))) (pc := 116) hC dX10_nextStep_116 lM_9 h.1.1 h.1.2 rfl ?_
          have h := h.2
          refine r_isub (pc := 117) hC dX10_nextStep_117 h.1 ?_
          have h := h.2
          refine r_iconst (pc := 118) hC dX10_nextStep_118 (rng_lit rfl) ?_
          refine r_iadd (pc := 119) hC dX10_nextStep_119 h.1 ?_
          have h := h.2
          refine r_imul (pc := 120) hC dX10_nextStep_120 h.1 ?_
          have h := h.2
          refine r_iload (pc := 121) hC dX10_nextStep_121 rfl ?_
          refine r_iload (pc := 123) hC dX10_nextStep_123 rfl ?_
          refine r_imul (pc := 125) hC dX10_nextStep_125 h.1 ?_
          have h := h.2
          refine r_isub (pc := 126) hC dX10_nextStep_126 h.1 ?_
          have h := h.2
          refine r_istore (ls2 := [some (aR 0), some (aI a1), some (aI x1), some (aI x2), some (aI (((w.1 28) (Int.toNat (iOr a1 (iShl 1 x2)))) - ((w.1 28) (Int.toNat a1)))), some (aI ((((w.1 10) (Int.toNat x2)) - ((w.1 9) (Int.toNat x2))) + 4)), some (aI (((w.1 28) (Int.toNat (iOr a1 (iShl 1 x1)))) - ((w.1 28) (Int.toNat a1)))), some (aI (((((w.1 28) (Int.toNat (iOr a1 (iShl 1 x2)))) - ((w.1 28) (Int.toNat a1))) * ((((w.1 10) (Int.toNat x1)) - ((w.1 9) (Int.toNat x1))) + 4)) - ((((w.1 28) (Int.toNat (iOr a1 (iShl 1 x1)))) - ((w.1 28) (Int.toNat a1))) * ((((w.1 10) (Int.toNat x2)) - ((w.1 9) (Int.toNat x2))) + 4))))]) (pc := 127) hC dX10_nextStep_127 (by decide) rfl rfl ?_
          refine r_iload (pc := 129) hC dX10_nextStep_129 rfl ?_
          refine r_if_lt (pc := 131) (tgt := 151) hC dX10_nextStep_131 rfl (fun hc3 => ?_) (fun hc3 => ?_)
          · have h := h.1 hc3
            exact r_to [true, true, true, true, false, false, false, false] rfl rfl (S2 x1 h)
          have h := h.2 hc3
          refine r_iload (pc := 134) hC dX10_nextStep_134 rfl ?_
          refine r_if_ne (pc := 136) (tgt := 149) hC dX10_nextStep_136 rfl (fun hc2 => ?_) (fun hc2 => ?_)
          · have h := h.1 hc2
            exact r_to [true, true, false, true, false, false, false, false] rfl rfl (S3 h)
          have h := h.2 hc2
          refine r_iload (pc := 139) hC dX10_nextStep_139 rfl ?_
          refine r_iload (pc := 141) hC dX10_nextStep_141 rfl ?_
          refine r_ic_gt (pc := 143) (tgt := 149) hC dX10_nextStep_143 rfl (fun hc1 => ?_) (fun hc1 => ?_)
          · have h := h.1 hc1
            exact r_to [true, true, false, true, false, false, false, false] rfl rfl (S3 h)
          have h := h.2 hc1
          refine r_goto (tgt := 151) (pc := 146) hC dX10_nextStep_146 rfl ?_
          exact r_to [true, true, true, true, false, false, false, false] rfl rfl (S2 x1 h)
        have h := h.2 hc5
        refine r_goto (tgt := 151) (pc := 76) hC dX10_nextStep_76 rfl ?_
        exact r_to [true, true, true, true, false, false, false, false] rfl rfl (S2 x1 h)
      have h := h.2 hc6
      refine r_goto (tgt := 151) (pc := 32) hC dX10_nextStep_32 rfl ?_
      exact r_to [true, true, true, true, false, false, false, false] rfl rfl (S2 x1 h)
  exact r_to [true, true, true, true, false, false, false, false] rfl rfl (S1 _ (-1) 0 (Nat.lt_succ_self _) hI1)
def wp_M_laysSteps (m_sentenceOf : (Nat → Int)) (m_likeOf : (Nat → Int)) (m_from : (Nat → Int)) (m_to : (Nat → Int)) (m_hasWord : (Nat → Int)) (m_weight : (Nat → Int)) (m_matchItem : (Nat → Int)) (m_matchFirst : (Nat → Int)) (m_worth : (Nat → Int)) (m_length : (Nat → Int)) (m_inSentence : (Nat → Int)) (m_tooLike : (Nat → Int)) (m_step : (Nat → Int)) (m_words : Int) (m_sentences : Int) (m_items : Int) (m_matches : Int) (m_areLaid : Int) (m_areLikeLaid : Int) (m_budget : Int) (m_mostOf : Int) (m_limit : Int) (m_steps : Int) (Q : Int → (Nat → Int) → (Nat → Int) → (Nat → Int) → (Nat → Int) → (Nat → Int) → Int → Int → Int → Prop) : Prop := wp_M_laysLike m_sentenceOf m_likeOf m_from m_to m_hasWord m_weight m_matchItem m_matchFirst m_worth m_length m_inSentence m_tooLike m_words m_sentences m_items m_matches m_areLaid m_areLikeLaid m_limit (fun (m_worth_1 : (Nat → Int)) (m_length_2 : (Nat → Int)) (m_inSentence_3 : (Nat → Int)) (m_tooLike_4 : (Nat → Int)) (m_areLaid_5 : Int) (m_areLikeLaid_6 : Int) => wp_M_nextStep m_from m_to m_worth_1 m_length_2 m_tooLike_4 m_sentences m_budget m_mostOf 0 (fun (r7 : Int) => lpw4 (fun (m_step_8 : (Nat → Int)) (m_steps_9 : Int) (x10 : Int) (x11 : Int) (k1 : (Nat → Int) → Int → Int → Int → Prop) => (x11 = (-1) → Q x10 m_worth_1 m_length_2 m_inSentence_3 m_tooLike_4 m_step_8 m_areLaid_5 m_areLikeLaid_6 m_steps_9) ∧ (¬ x11 = (-1) → (0 ≤ m_steps_9 ∧ m_steps_9 < 14) ∧ ((rng (m_steps_9 + 1)) ∧ (wp_M_nextStep m_from m_to m_worth_1 m_length_2 m_tooLike_4 m_sentences m_budget m_mostOf (iOr x10 (iShl 1 x11)) (fun (r12 : Int) => k1 (uI m_step_8 m_steps_9 x11) (m_steps_9 + 1) (iOr x10 (iShl 1 x11)) r12))))) m_step 0 0 r7))
set_option maxHeartbeats 4000000 in
set_option maxRecDepth 20000 in
theorem s_M_laysSteps (l : Launch) (w : St) (P : Int → (Nat → Int) → (Nat → Int) → (Nat → Int) → (Nat → Int) → (Nat → Int) → Int → Int → Int → Prop) (h : wp_M_laysSteps (w.1 7) (w.1 8) (w.1 9) (w.1 10) (w.1 11) (w.1 12) (w.1 24) (w.1 25) (w.1 28) (w.1 29) (w.1 31) (w.1 33) (w.1 34) (w.1 0 12) (w.1 0 16) (w.1 0 29) (w.1 0 39) (w.1 0 42) (w.1 0 43) (w.1 0 50) (w.1 0 51) (w.1 0 52) (w.1 0 56) P) : Cn l yX10_laysSteps cX10_laysSteps 3 (some .int) 5 LM w [aR 0] (okI (fun r w1 => ∃ (o0 : (Nat → Int)) (o1 : (Nat → Int)) (o2 : (Nat → Int)) (o3 : (Nat → Int)) (o4 : (Nat → Int)) (o5 : Int) (o6 : Int) (o7 : Int), w1 = (wI (wI (wI (wA (wA (wA (wA (wA w 28 o0) 29 o1) 31 o2) 33 o3) 34 o4) 0 42 o5) 0 43 o6) 0 56 o7) ∧ P r o0 o1 o2 o3 o4 o5 o6 o7)) := by
  unfold wp_M_laysSteps at h
  refine Cn.of2 [some (aR 0), none, none] (by decide) (Nat.le_of_ble_eq_true rfl) rfl (fun p e s m args below meth c D cA ad A Q hQ hC hr hk => ?_)
  refine r_aload_n (pc := 0) hC 0 dX10_laysSteps_0 rfl rfl ?_
  refine r_callVv (pc := 1) hC [] [] dX10_laysSteps_1 ml_RX10_364 my_X10_laysLike mi_X10_laysLike lM_0 rfl rfl ⟨Nat.le_of_ble_eq_true rfl, Nat.le_of_ble_eq_true rfl⟩ ⟨Nat.le_of_ble_eq_true rfl, Nat.le_of_ble_eq_true rfl⟩ (Nat.le_of_ble_eq_true rfl) rfl (s_M_laysLike l _ _ h) (fun w1 hq => ?_)
  obtain ⟨m_worth_1, m_length_2, m_inSentence_3, m_tooLike_4, m_areLaid_5, m_areLikeLaid_6, e9, h⟩ := hq
  rw [e9]
  refine r_aload_n (pc := 4) hC 0 dX10_laysSteps_4 rfl rfl ?_
  refine r_iconst (pc := 5) hC dX10_laysSteps_5 (rng_lit rfl) ?_
  refine r_put (kd := 0) (pc := 6) hC dX10_laysSteps_6 pl_RX10_367 lM_0 rfl (by decide) (Or.inl rfl) ?_
  refine r_iconst (pc := 9) hC dX10_laysSteps_9 (rng_lit rfl) ?_
  refine r_istore_n (ls2 := [some (aR 0), some (aI 0), none]) (pc := 10) hC 1 dX10_laysSteps_10 rfl (by decide) rfl rfl ?_
  refine r_aload_n (pc := 11) hC 0 dX10_laysSteps_11 rfl rfl ?_
  refine r_iconst (pc := 12) hC dX10_laysSteps_12 (rng_lit rfl) ?_
  refine r_callVi (pc := 13) hC [aI 0] [] dX10_laysSteps_13 ml_RX10_370 my_X10_nextStep mi_X10_nextStep lM_0 rfl rfl ⟨Nat.le_of_ble_eq_true rfl, Nat.le_of_ble_eq_true rfl⟩ ⟨Nat.le_of_ble_eq_true rfl, Nat.le_of_ble_eq_true rfl⟩ (Nat.le_of_ble_eq_true rfl) rfl (s_M_nextStep l _ _ _ h) (fun r7 w1 hq => ?_)
  obtain ⟨e9, h⟩ := hq
  rw [e9]
  refine r_istore_n (ls2 := [some (aR 0), some (aI 0), some (aI r7)]) (pc := 16) hC 2 dX10_laysSteps_16 rfl (by decide) rfl rfl ?_
  obtain ⟨I1, μ1, hI1, hB1⟩ := h
  have S1 : ∀ (nn : Nat) (m_step_8 : (Nat → Int)) (m_steps_9 : Int) (x10 : Int) (x11 : Int), μ1 m_step_8 m_steps_9 x10 x11 < nn → I1 m_step_8 m_steps_9 x10 x11 → Wd p l e (rmD 5) s m args below meth c Q 0 0 3 D cA ad A LM (wI (wI (wI (wA (wA (wA (wA (wA w 28 m_worth_1) 29 m_length_2) 31 m_inSentence_3) 33 m_tooLike_4) 34 m_step_8) 0 42 m_areLaid_5) 0 43 m_areLikeLaid_6) 0 56 m_steps_9) 17 [some (aR 0), some (aI x10), some (aI x11)] [] := by
    intro nn
    induction nn with
    | zero => intro m_step_8 m_steps_9 x10 x11 hn; exact absurd hn (Nat.not_lt_zero _)
    | succ nn ih1 =>
      intro m_step_8 m_steps_9 x10 x11 hn1 hi
      have h := hB1 m_step_8 m_steps_9 x10 x11 hi
      refine r_iload_n (pc := 17) hC 2 dX10_laysSteps_17 rfl rfl ?_
      refine r_iconst (pc := 18) hC dX10_laysSteps_18 (rng_lit rfl) ?_
      refine r_ic_eq (pc := 19) (tgt := 57) hC dX10_laysSteps_19 rfl (fun hc1 => ?_) (fun hc1 => ?_)
      · have h := h.1 hc1
        refine r_iload_n (pc := 57) hC 1 dX10_laysSteps_57 rfl rfl ?_
        refine r_conv (w2 := (wI (wI (wI (wA (wA (wA (wA (wA w 28 m_worth_1) 29 m_length_2) 31 m_inSentence_3) 33 m_tooLike_4) 34 m_step_8) 0 42 m_areLaid_5) 0 43 m_areLikeLaid_6) 0 56 m_steps_9)) rfl ?_
        exact r_reti (pc := 58) (kd := 0) hC hQ dX10_laysSteps_58 hr hk (by decide) (Or.inl rfl) ⟨m_worth_1, m_length_2, m_inSentence_3, m_tooLike_4, m_step_8, m_areLaid_5, m_areLikeLaid_6, m_steps_9, rfl, h⟩
      have h := h.2 hc1
      refine r_aload_n (pc := 22) hC 0 dX10_laysSteps_22 rfl rfl ?_
      refine r_getr (r := 34) (pc := 23) hC dX10_laysSteps_23 fl_RX10_124 lM_0 rfl ?_
      refine r_aload_n (pc := 26) hC 0 dX10_laysSteps_26 rfl rfl ?_
      refine r_get (kd := 0) (v := m_steps_9) (pc := 27) hC dX10_laysSteps_27 fl_RX10_367 lM_0 rfl rfl ?_
      refine r_iload_n (pc := 30) hC 2 dX10_laysSteps_30 rfl rfl ?_
      refine r_iast (pc := 31) hC dX10_laysSteps_31 lM_34 h.1.1 h.1.2 ?_
      have h := h.2
      refine r_aload_n (pc := 32) hC 0 dX10_laysSteps_32 rfl rfl ?_
      refine r_dup (pc := 33) hC dX10_laysSteps_33 rfl ?_
      refine r_get (kd := 0) (v := m_steps_9) (pc := 34) hC dX10_laysSteps_34 fl_RX10_367 lM_0 rfl rfl ?_
      refine r_iconst (pc := 37) hC dX10_laysSteps_37 (rng_lit rfl) ?_
      refine r_iadd (pc := 38) hC dX10_laysSteps_38 h.1 ?_
      have h := h.2
      refine r_put (kd := 0) (pc := 39) hC dX10_laysSteps_39 pl_RX10_367 lM_0 rfl (by decide) (Or.inl rfl) ?_
      refine r_iload_n (pc := 42) hC 1 dX10_laysSteps_42 rfl rfl ?_
      refine r_iconst (pc := 43) hC dX10_laysSteps_43 (rng_lit rfl) ?_
      refine r_iload_n (pc := 44) hC 2 dX10_laysSteps_44 rfl rfl ?_
      refine r_ishl (pc := 45) hC dX10_laysSteps_45 ?_
      refine r_ior (pc := 46) hC dX10_laysSteps_46 ?_
      refine r_istore_n (ls2 := [some (aR 0), some (aI (iOr x10 (iShl 1 x11))), some (aI x11)]) (pc := 47) hC 1 dX10_laysSteps_47 rfl (by decide) rfl rfl ?_
      refine r_aload_n (pc := 48) hC 0 dX10_laysSteps_48 rfl rfl ?_
      refine r_iload_n (pc := 49) hC 1 dX10_laysSteps_49 rfl rfl ?_
      refine r_callVi (pc := 50) hC [aI (iOr x10 (iShl 1 x11))] [] dX10_laysSteps_50 ml_RX10_370 my_X10_nextStep mi_X10_nextStep lM_0 rfl rfl ⟨Nat.le_of_ble_eq_true rfl, Nat.le_of_ble_eq_true rfl⟩ ⟨Nat.le_of_ble_eq_true rfl, Nat.le_of_ble_eq_true rfl⟩ (Nat.le_of_ble_eq_true rfl) rfl (s_M_nextStep l _ _ _ h) (fun r12 w1 hq => ?_)
      obtain ⟨e9, h⟩ := hq
      rw [e9]
      refine r_istore_n (ls2 := [some (aR 0), some (aI (iOr x10 (iShl 1 x11))), some (aI r12)]) (pc := 53) hC 2 dX10_laysSteps_53 rfl (by decide) rfl rfl ?_
      refine r_goto (tgt := 17) (pc := 54) hC dX10_laysSteps_54 rfl ?_
      exact r_to [true, true, true] rfl rfl (ih1 (uI m_step_8 m_steps_9 x11) (m_steps_9 + 1) (iOr x10 (iShl 1 x11)) r12 (Nat.lt_of_lt_of_le h.2 (Nat.le_of_lt_succ hn1)) h.1)
  exact r_to [true, true, true] rfl rfl (S1 _ (w.1 34) 0 0 r7 (Nat.lt_succ_self _) hI1)
def wp_M_greedy (m_sentenceOf : (Nat → Int)) (m_likeOf : (Nat → Int)) (m_from : (Nat → Int)) (m_to : (Nat → Int)) (m_hasWord : (Nat → Int)) (m_weight : (Nat → Int)) (m_matchItem : (Nat → Int)) (m_matchFirst : (Nat → Int)) (m_worth : (Nat → Int)) (m_length : (Nat → Int)) (m_inSentence : (Nat → Int)) (m_tooLike : (Nat → Int)) (m_step : (Nat → Int)) (m_words : Int) (m_sentences : Int) (m_items : Int) (m_matches : Int) (m_areLaid : Int) (m_areLikeLaid : Int) (m_budget : Int) (m_mostOf : Int) (m_limit : Int) (m_steps : Int) (Q : Int → (Nat → Int) → (Nat → Int) → (Nat → Int) → (Nat → Int) → (Nat → Int) → Int → Int → Int → Prop) : Prop := wp_M_laysSteps m_sentenceOf m_likeOf m_from m_to m_hasWord m_weight m_matchItem m_matchFirst m_worth m_length m_inSentence m_tooLike m_step m_words m_sentences m_items m_matches m_areLaid m_areLikeLaid m_budget m_mostOf m_limit m_steps (fun (r1 : Int) (m_worth_2 : (Nat → Int)) (m_length_3 : (Nat → Int)) (m_inSentence_4 : (Nat → Int)) (m_tooLike_5 : (Nat → Int)) (m_step_6 : (Nat → Int)) (m_areLaid_7 : Int) (m_areLikeLaid_8 : Int) (m_steps_9 : Int) => lpw2 (fun (x10 : Int) (x11 : Int) (k1 : Int → Int → Prop) => (m_sentences ≤ x11 → (x10 = (-1) → Q r1 m_worth_2 m_length_3 m_inSentence_4 m_tooLike_5 m_step_6 m_areLaid_7 m_areLikeLaid_8 m_steps_9) ∧ (¬ x10 = (-1) → (0 ≤ (iShl 1 x10) ∧ (iShl 1 x10) < 16384) ∧ ((0 ≤ r1 ∧ r1 < 16384) ∧ (((m_worth_2 (Int.toNat (iShl 1 x10))) ≤ (m_worth_2 (Int.toNat r1)) → Q r1 m_worth_2 m_length_3 m_inSentence_4 m_tooLike_5 m_step_6 m_areLaid_7 m_areLikeLaid_8 m_steps_9) ∧ (¬ (m_worth_2 (Int.toNat (iShl 1 x10))) ≤ (m_worth_2 (Int.toNat r1)) → Q (iShl 1 x10) m_worth_2 m_length_3 m_inSentence_4 m_tooLike_5 m_step_6 m_areLaid_7 m_areLikeLaid_8 m_steps_9))))) ∧ (¬ m_sentences ≤ x11 → wp_M_may m_length_3 m_tooLike_5 m_sentences m_budget m_mostOf (iShl 1 x11) (fun (r12 : Int) => jn1 (fun (J2 : Int → Prop) => (r12 = 0 → J2 x10) ∧ (¬ r12 = 0 → jn0 (fun (J3 : Prop) => (x10 = (-1) → J3) ∧ (¬ x10 = (-1) → (0 ≤ (iShl 1 x11) ∧ (iShl 1 x11) < 16384) ∧ ((0 ≤ (iShl 1 x10) ∧ (iShl 1 x10) < 16384) ∧ (((m_worth_2 (Int.toNat (iShl 1 x11))) ≤ (m_worth_2 (Int.toNat (iShl 1 x10))) → J2 x10) ∧ (¬ (m_worth_2 (Int.toNat (iShl 1 x11))) ≤ (m_worth_2 (Int.toNat (iShl 1 x10))) → J3))))) (J2 x11))) (fun (x13 : Int) => (rng (x11 + 1)) ∧ (k1 x13 (x11 + 1)))))) (-1) 0)
set_option maxHeartbeats 4000000 in
set_option maxRecDepth 20000 in
theorem s_M_greedy (l : Launch) (w : St) (P : Int → (Nat → Int) → (Nat → Int) → (Nat → Int) → (Nat → Int) → (Nat → Int) → Int → Int → Int → Prop) (h : wp_M_greedy (w.1 7) (w.1 8) (w.1 9) (w.1 10) (w.1 11) (w.1 12) (w.1 24) (w.1 25) (w.1 28) (w.1 29) (w.1 31) (w.1 33) (w.1 34) (w.1 0 12) (w.1 0 16) (w.1 0 29) (w.1 0 39) (w.1 0 42) (w.1 0 43) (w.1 0 50) (w.1 0 51) (w.1 0 52) (w.1 0 56) P) : Cn l yX10_greedy cX10_greedy 4 (some .int) 6 LM w [aR 0] (okI (fun r w1 => ∃ (o0 : (Nat → Int)) (o1 : (Nat → Int)) (o2 : (Nat → Int)) (o3 : (Nat → Int)) (o4 : (Nat → Int)) (o5 : Int) (o6 : Int) (o7 : Int), w1 = (wI (wI (wI (wA (wA (wA (wA (wA w 28 o0) 29 o1) 31 o2) 33 o3) 34 o4) 0 42 o5) 0 43 o6) 0 56 o7) ∧ P r o0 o1 o2 o3 o4 o5 o6 o7)) := by
  unfold wp_M_greedy at h
  refine Cn.of2 [some (aR 0), none, none, none] (by decide) (Nat.le_of_ble_eq_true rfl) rfl (fun p e s m args below meth c D cA ad A Q hQ hC hr hk => ?_)
  refine r_aload_n (pc := 0) hC 0 dX10_greedy_0 rfl rfl ?_
  refine r_callVi (pc := 1) hC [] [] dX10_greedy_1 ml_RX10_373 my_X10_laysSteps mi_X10_laysSteps lM_0 rfl rfl ⟨Nat.le_of_ble_eq_true rfl, Nat.le_of_ble_eq_true rfl⟩ ⟨Nat.le_of_ble_eq_true rfl, Nat.le_of_ble_eq_true rfl⟩ (Nat.le_of_ble_eq_true rfl) rfl (s_M_laysSteps l _ _ h) (fun r1 w1 hq => ?_)
  obtain ⟨m_worth_2, m_length_3, m_inSentence_4, m_tooLike_5, m_step_6, m_areLaid_7, m_areLikeLaid_8, m_steps_9, e9, h⟩ := hq
  rw [e9]
  refine r_istore_n (ls2 := [some (aR 0), some (aI r1), none, none]) (pc := 4) hC 1 dX10_greedy_4 rfl (by decide) rfl rfl ?_
  refine r_iconst (pc := 5) hC dX10_greedy_5 (rng_lit rfl) ?_
  refine r_istore_n (ls2 := [some (aR 0), some (aI r1), some (aI (-1)), none]) (pc := 6) hC 2 dX10_greedy_6 rfl (by decide) rfl rfl ?_
  refine r_iconst (pc := 7) hC dX10_greedy_7 (rng_lit rfl) ?_
  refine r_istore_n (ls2 := [some (aR 0), some (aI r1), some (aI (-1)), some (aI 0)]) (pc := 8) hC 3 dX10_greedy_8 rfl (by decide) rfl rfl ?_
  obtain ⟨I1, μ1, hI1, hB1⟩ := h
  have S1 : ∀ (nn : Nat) (x10 : Int) (x11 : Int), μ1 x10 x11 < nn → I1 x10 x11 → Wd p l e (rmD 6) s m args below meth c Q 0 0 4 D cA ad A LM (wI (wI (wI (wA (wA (wA (wA (wA w 28 m_worth_2) 29 m_length_3) 31 m_inSentence_4) 33 m_tooLike_5) 34 m_step_6) 0 42 m_areLaid_7) 0 43 m_areLikeLaid_8) 0 56 m_steps_9) 9 [some (aR 0), some (aI r1), some (aI x10), some (aI x11)] [] := by
    intro nn
    induction nn with
    | zero => intro x10 x11 hn; exact absurd hn (Nat.not_lt_zero _)
    | succ nn ih1 =>
      intro x10 x11 hn1 hi
      have h := hB1 x10 x11 hi
      refine r_iload_n (pc := 9) hC 3 dX10_greedy_9 rfl rfl ?_
      refine r_aload_n (pc := 10) hC 0 dX10_greedy_10 rfl rfl ?_
      refine r_get (kd := 0) (v := (w.1 0 16)) (pc := 11) hC dX10_greedy_11 fl_RX10_203 lM_0 rfl rfl ?_
      refine r_ic_ge (pc := 14) (tgt := 59) hC dX10_greedy_14 rfl (fun hc6 => ?_) (fun hc6 => ?_)
      · have h := h.1 hc6
        refine r_iload_n (pc := 59) hC 2 dX10_greedy_59 rfl rfl ?_
        refine r_iconst (pc := 60) hC dX10_greedy_60 (rng_lit rfl) ?_
        refine r_ic_eq (pc := 61) (tgt := 87) hC dX10_greedy_61 rfl (fun hc2 => ?_) (fun hc2 => ?_)
        · have h := h.1 hc2
          refine r_iload_n (pc := 87) hC 1 dX10_greedy_87 rfl rfl ?_
          refine r_conv (w2 := (wI (wI (wI (wA (wA (wA (wA (wA w 28 m_worth_2) 29 m_length_3) 31 m_inSentence_4) 33 m_tooLike_5) 34 m_step_6) 0 42 m_areLaid_7) 0 43 m_areLikeLaid_8) 0 56 m_steps_9)) rfl ?_
          exact r_reti (pc := 88) (kd := 0) hC hQ dX10_greedy_88 hr hk (by decide) (Or.inl rfl) ⟨m_worth_2, m_length_3, m_inSentence_4, m_tooLike_5, m_step_6, m_areLaid_7, m_areLikeLaid_8, m_steps_9, rfl, h⟩
        have h := h.2 hc2
        refine r_aload_n (pc := 64) hC 0 dX10_greedy_64 rfl rfl ?_
        refine r_getr (r := 28) (pc := 65) hC dX10_greedy_65 fl_RX10_97 lM_0 rfl ?_
        refine r_iconst (pc := 68) hC dX10_greedy_68 (rng_lit rfl) ?_
        refine r_iload_n (pc := 69) hC 2 dX10_greedy_69 rfl rfl ?_
        refine r_ishl (pc := 70) hC dX10_greedy_70 ?_
        refine r_iald (v := (m_worth_2 (Int.toNat (iShl 1 x10)))) (pc := 71) hC dX10_greedy_71 lM_28 h.1.1 h.1.2 rfl ?_
        have h := h.2
        refine r_aload_n (pc := 72) hC 0 dX10_greedy_72 rfl rfl ?_
        refine r_getr (r := 28) (pc := 73) hC dX10_greedy_73 fl_RX10_97 lM_0 rfl ?_
        refine r_iload_n (pc := 76) hC 1 dX10_greedy_76 rfl rfl ?_
        refine r_iald (v := (m_worth_2 (Int.toNat r1))) (pc := 77) hC dX10_greedy_77 lM_28 h.1.1 h.1.2 rfl ?_
        have h := h.2
        refine r_ic_le (pc := 78) (tgt := 87) hC dX10_greedy_78 rfl (fun hc1 => ?_) (fun hc1 => ?_)
        · have h := h.1 hc1
          refine r_iload_n (pc := 87) hC 1 dX10_greedy_87 rfl rfl ?_
          refine r_conv (w2 := (wI (wI (wI (wA (wA (wA (wA (wA w 28 m_worth_2) 29 m_length_3) 31 m_inSentence_4) 33 m_tooLike_5) 34 m_step_6) 0 42 m_areLaid_7) 0 43 m_areLikeLaid_8) 0 56 m_steps_9)) rfl ?_
          exact r_reti (pc := 88) (kd := 0) hC hQ dX10_greedy_88 hr hk (by decide) (Or.inl rfl) ⟨m_worth_2, m_length_3, m_inSentence_4, m_tooLike_5, m_step_6, m_areLaid_7, m_areLikeLaid_8, m_steps_9, rfl, h⟩
        have h := h.2 hc1
        refine r_iconst (pc := 81) hC dX10_greedy_81 (rng_lit rfl) ?_
        refine r_iload_n (pc := 82) hC 2 dX10_greedy_82 rfl rfl ?_
        refine r_ishl (pc := 83) hC dX10_greedy_83 ?_
        refine r_goto (tgt := 88) (pc := 84) hC dX10_greedy_84 rfl ?_
        refine r_conv (w2 := (wI (wI (wI (wA (wA (wA (wA (wA w 28 m_worth_2) 29 m_length_3) 31 m_inSentence_4) 33 m_tooLike_5) 34 m_step_6) 0 42 m_areLaid_7) 0 43 m_areLikeLaid_8) 0 56 m_steps_9)) rfl ?_
        exact r_reti (pc := 88) (kd := 0) hC hQ dX10_greedy_88 hr hk (by decide) (Or.inl rfl) ⟨m_worth_2, m_length_3, m_inSentence_4, m_tooLike_5, m_step_6, m_areLaid_7, m_areLikeLaid_8, m_steps_9, rfl, h⟩
      have h := h.2 hc6
      refine r_aload_n (pc := 17) hC 0 dX10_greedy_17 rfl rfl ?_
      refine r_iconst (pc := 18) hC dX10_greedy_18 (rng_lit rfl) ?_
      refine r_iload_n (pc := 19) hC 3 dX10_greedy_19 rfl rfl ?_
      refine r_ishl (pc := 20) hC dX10_greedy_20 ?_
      refine r_callVi (pc := 21) hC [aI (iShl 1 x11)] [] dX10_greedy_21 ml_RX10_361 my_X10_may mi_X10_may lM_0 rfl rfl ⟨Nat.le_of_ble_eq_true rfl, Nat.le_of_ble_eq_true rfl⟩ ⟨Nat.le_of_ble_eq_true rfl, Nat.le_of_ble_eq_true rfl⟩ (Nat.le_of_ble_eq_true rfl) rfl (s_M_may l _ _ _ h) (fun r12 w1 hq => ?_)
      obtain ⟨e9, h⟩ := hq
      rw [e9]
      obtain ⟨J2, hJ2, h⟩ := h
      have S2 : ∀ (x13 : Int), J2 x13 → Wd p l e (rmD 6) s m args below meth c Q 0 0 4 D cA ad A LM (wI (wI (wI (wA (wA (wA (wA (wA w 28 m_worth_2) 29 m_length_3) 31 m_inSentence_4) 33 m_tooLike_5) 34 m_step_6) 0 42 m_areLaid_7) 0 43 m_areLikeLaid_8) 0 56 m_steps_9) 53 [some (aR 0), some (aI r1), some (aI x13), some (aI x11)] [] := by
        intro x13 hj
        have h := hJ2 x13 hj
        refine r_iinc (ls2 := [some (aR 0), some (aI r1), some (aI x13), some (aI (x11 + 1))]) (pc := 53) hC dX10_greedy_53 rfl (by decide) rfl h.1 rfl ?_
        have h := h.2
        refine r_goto (tgt := 9) (pc := 56) hC dX10_greedy_56 rfl ?_
        exact r_to [true, true, true, true] rfl rfl (ih1 x13 (x11 + 1) (Nat.lt_of_lt_of_le h.2 (Nat.le_of_lt_succ hn1)) h.1)
      refine r_if_eq (pc := 24) (tgt := 53) hC dX10_greedy_24 rfl (fun hc5 => ?_) (fun hc5 => ?_)
      · have h := h.1 hc5
        exact r_to [true, true, true, true] rfl rfl (S2 x10 h)
      have h := h.2 hc5
      refine r_iload_n (pc := 27) hC 2 dX10_greedy_27 rfl rfl ?_
      refine r_iconst (pc := 28) hC dX10_greedy_28 (rng_lit rfl) ?_
      obtain ⟨J3, hJ3, h⟩ := h
      have S3 : J3 → Wd p l e (rmD 6) s m args below meth c Q 0 0 4 D cA ad A LM (wI (wI (wI (wA (wA (wA (wA (wA w 28 m_worth_2) 29 m_length_3) 31 m_inSentence_4) 33 m_tooLike_5) 34 m_step_6) 0 42 m_areLaid_7) 0 43 m_areLikeLaid_8) 0 56 m_steps_9) 51 [some (aR 0), some (aI r1), none, some (aI x11)] [] := by
        intro hj
        have h := hJ3 hj
        refine r_iload_n (pc := 51) hC 3 dX10_greedy_51 rfl rfl ?_
        refine r_istore_n (ls2 := [some (aR 0), some (aI r1), some (aI x11), some (aI x11)]) (pc := 52) hC 2 dX10_greedy_52 rfl (by decide) rfl rfl ?_
        exact r_to [true, true, true, true] rfl rfl (S2 x11 h)
      refine r_ic_eq (pc := 29) (tgt := 51) hC dX10_greedy_29 rfl (fun hc4 => ?_) (fun hc4 => ?_)
      · have h := h.1 hc4
        exact r_to [true, true, false, true] rfl rfl (S3 h)
      have h := h.2 hc4
      refine r_aload_n (pc := 32) hC 0 dX10_greedy_32 rfl rfl ?_
      refine r_getr (r := 28) (pc := 33) hC dX10_greedy_33 fl_RX10_97 lM_0 rfl ?_
      refine r_iconst (pc := 36) hC dX10_greedy_36 (rng_lit rfl) ?_
      refine r_iload_n (pc := 37) hC 3 dX10_greedy_37 rfl rfl ?_
      refine r_ishl (pc := 38) hC dX10_greedy_38 ?_
      refine r_iald (v := (m_worth_2 (Int.toNat (iShl 1 x11)))) (pc := 39) hC dX10_greedy_39 lM_28 h.1.1 h.1.2 rfl ?_
      have h := h.2
      refine r_aload_n (pc := 40) hC 0 dX10_greedy_40 rfl rfl ?_
      refine r_getr (r := 28) (pc := 41) hC dX10_greedy_41 fl_RX10_97 lM_0 rfl ?_
      refine r_iconst (pc := 44) hC dX10_greedy_44 (rng_lit rfl) ?_
      refine r_iload_n (pc := 45) hC 2 dX10_greedy_45 rfl rfl ?_
      refine r_ishl (pc := 46) hC dX10_greedy_46 ?_
      refine r_iald (v := (m_worth_2 (Int.toNat (iShl 1 x10)))) (pc := 47) hC dX10_greedy_47 lM_28 h.1.1 h.1.2 rfl ?_
      have h := h.2
      refine r_ic_le (pc := 48) (tgt := 53) hC dX10_greedy_48 rfl (fun hc3 => ?_) (fun hc3 => ?_)
      · have h := h.1 hc3
        exact r_to [true, true, true, true] rfl rfl (S2 x10 h)
      have h := h.2 hc3
      exact r_to [true, true, false, true] rfl rfl (S3 h)
  exact r_to [true, true, true, true] rfl rfl (S1 _ (-1) 0 (Nat.lt_succ_self _) hI1)
def wp_M_bestBut (m_sentenceOf : (Nat → Int)) (m_likeOf : (Nat → Int)) (m_from : (Nat → Int)) (m_to : (Nat → Int)) (m_hasWord : (Nat → Int)) (m_weight : (Nat → Int)) (m_matchItem : (Nat → Int)) (m_matchFirst : (Nat → Int)) (m_worth : (Nat → Int)) (m_length : (Nat → Int)) (m_inSentence : (Nat → Int)) (m_tooLike : (Nat → Int)) (m_words : Int) (m_sentences : Int) (m_items : Int) (m_matches : Int) (m_areLaid : Int) (m_areLikeLaid : Int) (m_budget : Int) (m_mostOf : Int) (m_limit : Int) (a1 : Int) (Q : Int → (Nat → Int) → (Nat → Int) → (Nat → Int) → (Nat → Int) → Int → Int → Prop) : Prop := wp_M_laysLike m_sentenceOf m_likeOf m_from m_to m_hasWord m_weight m_matchItem m_matchFirst m_worth m_length m_inSentence m_tooLike m_words m_sentences m_items m_matches m_areLaid m_areLikeLaid m_limit (fun (m_worth_1 : (Nat → Int)) (m_length_2 : (Nat → Int)) (m_inSentence_3 : (Nat → Int)) (m_tooLike_4 : (Nat → Int)) (m_areLaid_5 : Int) (m_areLikeLaid_6 : Int) => lpw2 (fun (x7 : Int) (x8 : Int) (k1 : Int → Int → Prop) => ((iShl 1 m_sentences) ≤ x8 → Q x7 m_worth_1 m_length_2 m_inSentence_3 m_tooLike_4 m_areLaid_5 m_areLikeLaid_6) ∧ (¬ (iShl 1 m_sentences) ≤ x8 → jn1 (fun (J2 : Int → Prop) => (¬ (iAnd x8 a1) = 0 → J2 x7) ∧ ((iAnd x8 a1) = 0 → (0 ≤ x8 ∧ x8 < 16384) ∧ ((0 ≤ x7 ∧ x7 < 16384) ∧ (((m_worth_1 (Int.toNat x8)) < (m_worth_1 (Int.toNat x7)) → J2 x7) ∧ (¬ (m_worth_1 (Int.toNat x8)) < (m_worth_1 (Int.toNat x7)) → (0 ≤ x8 ∧ x8 < 16384) ∧ ((0 ≤ x7 ∧ x7 < 16384) ∧ (jn0 (fun (J3 : Prop) => (¬ (m_worth_1 (Int.toNat x8)) = (m_worth_1 (Int.toNat x7)) → J3) ∧ ((m_worth_1 (Int.toNat x8)) = (m_worth_1 (Int.toNat x7)) → (0 ≤ x8 ∧ x8 < 16384) ∧ ((0 ≤ x7 ∧ x7 < 16384) ∧ (((m_length_2 (Int.toNat x7)) ≤ (m_length_2 (Int.toNat x8)) → J2 x7) ∧ (¬ (m_length_2 (Int.toNat x7)) ≤ (m_length_2 (Int.toNat x8)) → J3))))) (wp_M_may m_length_2 m_tooLike_4 m_sentences m_budget m_mostOf x8 (fun (r10 : Int) => (¬ r10 = 0 → J2 x8) ∧ (r10 = 0 → J2 x7)))))))))) (fun (x9 : Int) => (rng (x8 + 1)) ∧ (k1 x9 (x8 + 1))))) 0 1)
set_option maxHeartbeats 4000000 in
set_option maxRecDepth 20000 in
theorem s_M_bestBut (l : Launch) (w : St) (a1 : Int) (P : Int → (Nat → Int) → (Nat → Int) → (Nat → Int) → (Nat → Int) → Int → Int → Prop) (h : wp_M_bestBut (w.1 7) (w.1 8) (w.1 9) (w.1 10) (w.1 11) (w.1 12) (w.1 24) (w.1 25) (w.1 28) (w.1 29) (w.1 31) (w.1 33) (w.1 0 12) (w.1 0 16) (w.1 0 29) (w.1 0 39) (w.1 0 42) (w.1 0 43) (w.1 0 50) (w.1 0 51) (w.1 0 52) a1 P) : Cn l yX10_bestBut cX10_bestBut 4 (some .int) 4 LM w [aR 0, aI a1] (okI (fun r w1 => ∃ (o0 : (Nat → Int)) (o1 : (Nat → Int)) (o2 : (Nat → Int)) (o3 : (Nat → Int)) (o4 : Int) (o5 : Int), w1 = (wI (wI (wA (wA (wA (wA w 28 o0) 29 o1) 31 o2) 33 o3) 0 42 o4) 0 43 o5) ∧ P r o0 o1 o2 o3 o4 o5)) := by
  unfold wp_M_bestBut at h
  refine Cn.of2 [some (aR 0), some (aI a1), none, none] (by decide) (Nat.le_of_ble_eq_true rfl) rfl (fun p e s m args below meth c D cA ad A Q hQ hC hr hk => ?_)
  refine r_aload_n (pc := 0) hC 0 dX10_bestBut_0 rfl rfl ?_
  refine r_callVv (pc := 1) hC [] [] dX10_bestBut_1 ml_RX10_364 my_X10_laysLike mi_X10_laysLike lM_0 rfl rfl ⟨Nat.le_of_ble_eq_true rfl, Nat.le_of_ble_eq_true rfl⟩ ⟨Nat.le_of_ble_eq_true rfl, Nat.le_of_ble_eq_true rfl⟩ (Nat.le_of_ble_eq_true rfl) rfl (s_M_laysLike l _ _ h) (fun w1 hq => ?_)
  obtain ⟨m_worth_1, m_length_2, m_inSentence_3, m_tooLike_4, m_areLaid_5, m_areLikeLaid_6, e9, h⟩ := hq
  rw [e9]
  refine r_iconst (pc := 4) hC dX10_bestBut_4 (rng_lit rfl) ?_
  refine r_istore_n (ls2 := [some (aR 0), some (aI a1), some (aI 0), none]) (pc := 5) hC 2 dX10_bestBut_5 rfl (by decide) rfl rfl ?_
  refine r_iconst (pc := 6) hC dX10_bestBut_6 (rng_lit rfl) ?_
  refine r_istore_n (ls2 := [some (aR 0), some (aI a1), some (aI 0), some (aI 1)]) (pc := 7) hC 3 dX10_bestBut_7 rfl (by decide) rfl rfl ?_
  obtain ⟨I1, μ1, hI1, hB1⟩ := h
  have S1 : ∀ (nn : Nat) (x7 : Int) (x8 : Int), μ1 x7 x8 < nn → I1 x7 x8 → Wd p l e (rmD 4) s m args below meth c Q 0 0 4 D cA ad A LM (wI (wI (wA (wA (wA (wA w 28 m_worth_1) 29 m_length_2) 31 m_inSentence_3) 33 m_tooLike_4) 0 42 m_areLaid_5) 0 43 m_areLikeLaid_6) 8 [some (aR 0), some (aI a1), some (aI x7), some (aI x8)] [] := by
    intro nn
    induction nn with
    | zero => intro x7 x8 hn; exact absurd hn (Nat.not_lt_zero _)
    | succ nn ih1 =>
      intro x7 x8 hn1 hi
      have h := hB1 x7 x8 hi
      refine r_iload_n (pc := 8) hC 3 dX10_bestBut_8 rfl rfl ?_
      refine r_iconst (pc := 9) hC dX10_bestBut_9 (rng_lit rfl) ?_
      refine r_aload_n (pc := 10) hC 0 dX10_bestBut_10 rfl rfl ?_
      refine r_get (kd := 0) (v := (w.1 0 16)) (pc := 11) hC dX10_bestBut_11 fl_RX10_203 lM_0 rfl rfl ?_
      refine r_ishl (pc := 14) hC dX10_bestBut_14 ?_
      refine r_ic_ge (pc := 15) (tgt := 88) hC dX10_bestBut_15 rfl (fun hc6 => ?_) (fun hc6 => ?_)
      · have h := h.1 hc6
        refine r_iload_n (pc := 88) hC 2 dX10_bestBut_88 rfl rfl ?_
        refine r_conv (w2 := (wI (wI (wA (wA (wA (wA w 28 m_worth_1) 29 m_length_2) 31 m_inSentence_3) 33 m_tooLike_4) 0 42 m_areLaid_5) 0 43 m_areLikeLaid_6)) rfl ?_
        exact r_reti (pc := 89) (kd := 0) hC hQ dX10_bestBut_89 hr hk (by decide) (Or.inl rfl) ⟨m_worth_1, m_length_2, m_inSentence_3, m_tooLike_4, m_areLaid_5, m_areLikeLaid_6, rfl, h⟩
      have h := h.2 hc6
      refine r_iload_n (pc := 18) hC 3 dX10_bestBut_18 rfl rfl ?_
      refine r_iload_n (pc := 19) hC 1 dX10_bestBut_19 rfl rfl ?_
      refine r_iand (pc := 20) hC dX10_bestBut_20 ?_
      obtain ⟨J2, hJ2, h⟩ := h
      have S2 : ∀ (x9 : Int), J2 x9 → Wd p l e (rmD 4) s m args below meth c Q 0 0 4 D cA ad A LM (wI (wI (wA (wA (wA (wA w 28 m_worth_1) 29 m_length_2) 31 m_inSentence_3) 33 m_tooLike_4) 0 42 m_areLaid_5) 0 43 m_areLikeLaid_6) 82 [some (aR 0), some (aI a1), some (aI x9), some (aI x8)] [] := by
        intro x9 hj
        have h := hJ2 x9 hj
        refine r_iinc (ls2 := [some (aR 0), some (aI a1), some (aI x9), some (aI (x8 + 1))]) (pc := 82) hC dX10_bestBut_82 rfl (by decide) rfl h.1 rfl ?_
        have h := h.2
        refine r_goto (tgt := 8) (pc := 85) hC dX10_bestBut_85 rfl ?_
        exact r_to [true, true, true, true] rfl rfl (ih1 x9 (x8 + 1) (Nat.lt_of_lt_of_le h.2 (Nat.le_of_lt_succ hn1)) h.1)
      refine r_if_ne (pc := 21) (tgt := 82) hC dX10_bestBut_21 rfl (fun hc5 => ?_) (fun hc5 => ?_)
      · have h := h.1 hc5
        exact r_to [true, true, true, true] rfl rfl (S2 x7 h)
      have h := h.2 hc5
      refine r_aload_n (pc := 24) hC 0 dX10_bestBut_24 rfl rfl ?_
      refine r_getr (r := 28) (pc := 25) hC dX10_bestBut_25 fl_RX10_97 lM_0 rfl ?_
      refine r_iload_n (pc := 28) hC 3 dX10_bestBut_28 rfl rfl ?_
      refine r_iald (v := (m_worth_1 (Int.toNat x8))) (pc := 29) hC dX10_bestBut_29 lM_28 h.1.1 h.1.2 rfl ?_
      have h := h.2
      refine r_aload_n (pc := 30) hC 0 dX10_bestBut_30 rfl rfl ?_
      refine r_getr (r := 28) (pc := 31) hC dX10_bestBut_31 fl_RX10_97 lM_0 rfl ?_
      refine r_iload_n (pc := 34) hC 2 dX10_bestBut_34 rfl rfl ?_
      refine r_iald (v := (m_worth_1 (Int.toNat x7))) (pc := 35) hC dX10_bestBut_35 lM_28 h.1.1 h.1.2 rfl ?_
      have h := h.2
      refine r_ic_lt (pc := 36) (tgt := 82) hC dX10_bestBut_36 rfl (fun hc4 => ?_) (fun hc4 => ?_)
      · have h := h.1 hc4
        exact r_to [true, true, true, true] rfl rfl (S2 x7 h)
      have h := h.2 hc4
      refine r_aload_n (pc := 39) hC 0 dX10_bestBut_39 rfl rfl ?_
      refine r_getr (r := 28) (pc := 40) hC dX10_bestBut_40 fl_RX10_97 lM_0 rfl ?_
      refine r_iload_n (pc := 43) hC 3 dX10_bestBut_43 rfl rfl ?_
      refine r_iald (v := (m_worth_1 (Int.toNat x8))) (pc := 44) hC dX10_bestBut_44 lM_28 h.1.1 h.1.2 rfl ?_
      have h := h.2
      refine r_aload_n (pc := 45) hC 0 dX10_bestBut_45 rfl rfl ?_
      refine r_getr (r := 28) (pc := 46) hC dX10_bestBut_46 fl_RX10_97 lM_0 rfl ?_
      refine r_iload_n (pc := 49) hC 2 dX10_bestBut_49 rfl rfl ?_
      refine r_iald (v := (m_worth_1 (Int.toNat x7))) (pc := 50) hC dX10_bestBut_50 lM_28 h.1.1 h.1.2 rfl ?_
      have h := h.2
      obtain ⟨J3, hJ3, h⟩ := h
      have S3 : J3 → Wd p l e (rmD 4) s m args below meth c Q 0 0 4 D cA ad A LM (wI (wI (wA (wA (wA (wA w 28 m_worth_1) 29 m_length_2) 31 m_inSentence_3) 33 m_tooLike_4) 0 42 m_areLaid_5) 0 43 m_areLikeLaid_6) 69 [some (aR 0), some (aI a1), some (aI x7), some (aI x8)] [] := by
        intro hj
        have h := hJ3 hj
        refine r_aload_n (pc := 69) hC 0 dX10_bestBut_69 rfl rfl ?_
        refine r_iload_n (pc := 70) hC 3 dX10_bestBut_70 rfl rfl ?_
        refine r_callVi (pc := 71) hC [aI x8] [] dX10_bestBut_71 ml_RX10_361 my_X10_may mi_X10_may lM_0 rfl rfl ⟨Nat.le_of_ble_eq_true rfl, Nat.le_of_ble_eq_true rfl⟩ ⟨Nat.le_of_ble_eq_true rfl, Nat.le_of_ble_eq_true rfl⟩ (Nat.le_of_ble_eq_true rfl) rfl (s_M_may l _ _ _ h) (fun r10 w1 hq => ?_)
        obtain ⟨e9, h⟩ := hq
        rw [e9]
        refine r_if_ne (pc := 74) (tgt := 80) hC dX10_bestBut_74 rfl (fun hc1 => ?_) (fun hc1 => ?_)
        · have h := h.1 hc1
          refine r_iload_n (pc := 80) hC 3 dX10_bestBut_80 rfl rfl ?_
          refine r_istore_n (ls2 := [some (aR 0), some (aI a1), some (aI x8), some (aI x8)]) (pc := 81) hC 2 dX10_bestBut_81 rfl (by decide) rfl rfl ?_
          exact r_to [true, true, true, true] rfl rfl (S2 x8 h)
        have h := h.2 hc1
        refine r_goto (tgt := 82) (pc := 77) hC dX10_bestBut_77 rfl ?_
        exact r_to [true, true, true, true] rfl rfl (S2 x7 h)
      refine r_ic_ne (pc := 51) (tgt := 69) hC dX10_bestBut_51 rfl (fun hc3 => ?_) (fun hc3 => ?_)
      · have h := h.1 hc3
        exact r_to [true, true, true, true] rfl rfl (S3 h)
      have h := h.2 hc3
      refine r_aload_n (pc := 54) hC 0 dX10_bestBut_54 rfl rfl ?_
      refine r_getr (r := 29) (pc := 55) hC dX10_bestBut_55 fl_RX10_100 lM_0 rfl ?_
      refine r_iload_n (pc := 58) hC 3 dX10_bestBut_58 rfl rfl ?_
      refine r_iald (v := (m_length_2 (Int.toNat x8))) (pc := 59) hC dX10_bestBut_59 lM_29 h.1.1 h.1.2 rfl ?_
      have h := h.2
      refine r_aload_n (pc := 60) hC 0 dX10_bestBut_60 rfl rfl ?_
      refine r_getr (r := 29) (pc := 61) hC dX10_bestBut_61 fl_RX10_100 lM_0 rfl ?_
      refine r_iload_n (pc := 64) hC 2 dX10_bestBut_64 rfl rfl ?_
      refine r_iald (v := (m_length_2 (Int.toNat x7))) (pc := 65) hC dX10_bestBut_65 lM_29 h.1.1 h.1.2 rfl ?_
      have h := h.2
      refine r_ic_ge (pc := 66) (tgt := 82) hC dX10_bestBut_66 rfl (fun hc2 => ?_) (fun hc2 => ?_)
      · have h := h.1 hc2
        exact r_to [true, true, true, true] rfl rfl (S2 x7 h)
      have h := h.2 hc2
      exact r_to [true, true, true, true] rfl rfl (S3 h)
  exact r_to [true, true, true, true] rfl rfl (S1 _ 0 1 (Nat.lt_succ_self _) hI1)
def wp_M_chooses (m_sentenceOf : (Nat → Int)) (m_likeOf : (Nat → Int)) (m_from : (Nat → Int)) (m_to : (Nat → Int)) (m_hasWord : (Nat → Int)) (m_weight : (Nat → Int)) (m_matchItem : (Nat → Int)) (m_matchFirst : (Nat → Int)) (m_worth : (Nat → Int)) (m_length : (Nat → Int)) (m_inSentence : (Nat → Int)) (m_tooLike : (Nat → Int)) (m_step : (Nat → Int)) (m_words : Int) (m_sentences : Int) (m_items : Int) (m_matches : Int) (m_areLaid : Int) (m_areLikeLaid : Int) (m_budget : Int) (m_mostOf : Int) (m_limit : Int) (m_steps : Int) (a1 : Int) (Q : Int → (Nat → Int) → (Nat → Int) → (Nat → Int) → (Nat → Int) → (Nat → Int) → Int → Int → Int → Prop) : Prop := (a1 = 0 → wp_M_greedy m_sentenceOf m_likeOf m_from m_to m_hasWord m_weight m_matchItem m_matchFirst m_worth m_length m_inSentence m_tooLike m_step m_words m_sentences m_items m_matches m_areLaid m_areLikeLaid m_budget m_mostOf m_limit m_steps (fun (r1 : Int) (m_worth_2 : (Nat → Int)) (m_length_3 : (Nat → Int)) (m_inSentence_4 : (Nat → Int)) (m_tooLike_5 : (Nat → Int)) (m_step_6 : (Nat → Int)) (m_areLaid_7 : Int) (m_areLikeLaid_8 : Int) (m_steps_9 : Int) => Q r1 m_worth_2 m_length_3 m_inSentence_4 m_tooLike_5 m_step_6 m_areLaid_7 m_areLikeLaid_8 m_steps_9)) ∧ (¬ a1 = 0 → wp_M_bestBut m_sentenceOf m_likeOf m_from m_to m_hasWord m_weight m_matchItem m_matchFirst m_worth m_length m_inSentence m_tooLike m_words m_sentences m_items m_matches m_areLaid m_areLikeLaid m_budget m_mostOf m_limit 0 (fun (r10 : Int) (m_worth_11 : (Nat → Int)) (m_length_12 : (Nat → Int)) (m_inSentence_13 : (Nat → Int)) (m_tooLike_14 : (Nat → Int)) (m_areLaid_15 : Int) (m_areLikeLaid_16 : Int) => Q r10 m_worth_11 m_length_12 m_inSentence_13 m_tooLike_14 m_step m_areLaid_15 m_areLikeLaid_16 m_steps))
set_option maxHeartbeats 4000000 in
set_option maxRecDepth 20000 in
theorem s_M_chooses (l : Launch) (w : St) (a1 : Int) (P : Int → (Nat → Int) → (Nat → Int) → (Nat → Int) → (Nat → Int) → (Nat → Int) → Int → Int → Int → Prop) (h : wp_M_chooses (w.1 7) (w.1 8) (w.1 9) (w.1 10) (w.1 11) (w.1 12) (w.1 24) (w.1 25) (w.1 28) (w.1 29) (w.1 31) (w.1 33) (w.1 34) (w.1 0 12) (w.1 0 16) (w.1 0 29) (w.1 0 39) (w.1 0 42) (w.1 0 43) (w.1 0 50) (w.1 0 51) (w.1 0 52) (w.1 0 56) a1 P) : Cn l yX10_chooses cX10_chooses 2 (some .int) 7 LM w [aR 0, aI a1] (okI (fun r w1 => ∃ (o0 : (Nat → Int)) (o1 : (Nat → Int)) (o2 : (Nat → Int)) (o3 : (Nat → Int)) (o4 : (Nat → Int)) (o5 : Int) (o6 : Int) (o7 : Int), w1 = (wI (wI (wI (wA (wA (wA (wA (wA w 28 o0) 29 o1) 31 o2) 33 o3) 34 o4) 0 42 o5) 0 43 o6) 0 56 o7) ∧ P r o0 o1 o2 o3 o4 o5 o6 o7)) := by
  unfold wp_M_chooses at h
  refine Cn.of2 [some (aR 0), some (aI a1)] (by decide) (Nat.le_of_ble_eq_true rfl) rfl (fun p e s m args below meth c D cA ad A Q hQ hC hr hk => ?_)
  refine r_iload_n (pc := 0) hC 1 dX10_chooses_0 rfl rfl ?_
  refine r_if_eq (pc := 1) (tgt := 12) hC dX10_chooses_1 rfl (fun hc1 => ?_) (fun hc1 => ?_)
  · have h := h.1 hc1
    refine r_aload_n (pc := 12) hC 0 dX10_chooses_12 rfl rfl ?_
    refine r_callVi (pc := 13) hC [] [] dX10_chooses_13 ml_RX10_379 my_X10_greedy mi_X10_greedy lM_0 rfl rfl ⟨Nat.le_of_ble_eq_true rfl, Nat.le_of_ble_eq_true rfl⟩ ⟨Nat.le_of_ble_eq_true rfl, Nat.le_of_ble_eq_true rfl⟩ (Nat.le_of_ble_eq_true rfl) rfl (s_M_greedy l _ _ h) (fun r1 w1 hq => ?_)
    obtain ⟨m_worth_2, m_length_3, m_inSentence_4, m_tooLike_5, m_step_6, m_areLaid_7, m_areLikeLaid_8, m_steps_9, e9, h⟩ := hq
    rw [e9]
    refine r_conv (w2 := (wI (wI (wI (wA (wA (wA (wA (wA w 28 m_worth_2) 29 m_length_3) 31 m_inSentence_4) 33 m_tooLike_5) 34 m_step_6) 0 42 m_areLaid_7) 0 43 m_areLikeLaid_8) 0 56 m_steps_9)) rfl ?_
    exact r_reti (pc := 16) (kd := 0) hC hQ dX10_chooses_16 hr hk (by decide) (Or.inl rfl) ⟨m_worth_2, m_length_3, m_inSentence_4, m_tooLike_5, m_step_6, m_areLaid_7, m_areLikeLaid_8, m_steps_9, rfl, h⟩
  have h := h.2 hc1
  refine r_aload_n (pc := 4) hC 0 dX10_chooses_4 rfl rfl ?_
  refine r_iconst (pc := 5) hC dX10_chooses_5 (rng_lit rfl) ?_
  refine r_callVi (pc := 6) hC [aI 0] [] dX10_chooses_6 ml_RX10_376 my_X10_bestBut mi_X10_bestBut lM_0 rfl rfl ⟨Nat.le_of_ble_eq_true rfl, Nat.le_of_ble_eq_true rfl⟩ ⟨Nat.le_of_ble_eq_true rfl, Nat.le_of_ble_eq_true rfl⟩ (Nat.le_of_ble_eq_true rfl) rfl (s_M_bestBut l _ _ _ h) (fun r10 w1 hq => ?_)
  obtain ⟨m_worth_11, m_length_12, m_inSentence_13, m_tooLike_14, m_areLaid_15, m_areLikeLaid_16, e9, h⟩ := hq
  rw [e9]
  refine r_goto (tgt := 16) (pc := 9) hC dX10_chooses_9 rfl ?_
  refine r_conv (w2 := (wI (wI (wI (wA (wA (wA (wA (wA w 28 m_worth_11) 29 m_length_12) 31 m_inSentence_13) 33 m_tooLike_14) 34 (w.1 34)) 0 42 m_areLaid_15) 0 43 m_areLikeLaid_16) 0 56 (w.1 0 56))) rfl ?_
  exact r_reti (pc := 16) (kd := 0) hC hQ dX10_chooses_16 hr hk (by decide) (Or.inl rfl) ⟨m_worth_11, m_length_12, m_inSentence_13, m_tooLike_14, (w.1 34), m_areLaid_15, m_areLikeLaid_16, (w.1 0 56), rfl, h⟩
def wp_M_set (m_sentenceOf : (Nat → Int)) (m_likeOf : (Nat → Int)) (m_from : (Nat → Int)) (m_to : (Nat → Int)) (m_hasWord : (Nat → Int)) (m_weight : (Nat → Int)) (m_matchItem : (Nat → Int)) (m_matchFirst : (Nat → Int)) (m_worth : (Nat → Int)) (m_length : (Nat → Int)) (m_inSentence : (Nat → Int)) (m_tooLike : (Nat → Int)) (m_thrown : Int) (m_words : Int) (m_sentences : Int) (m_items : Int) (m_matches : Int) (m_areLaid : Int) (m_areLikeLaid : Int) (m_budget : Int) (m_mostOf : Int) (m_limit : Int) (a1 : Int) (a2 : Int) (Q : Int → (Nat → Int) → (Nat → Int) → (Nat → Int) → (Nat → Int) → Int → Int → Int → Prop) : Prop := wp_M_in a2 0 3 (fun (r1 : Int) => jn1 (fun (J1 : Int → Prop) => (¬ r1 = 0 → J1 0) ∧ (r1 = 0 → J1 1)) (fun (y2 : Int) => wp_M_throwsIf 0 y2 1 (fun (r3 : Int) (m_thrown_4 : Int) => (¬ r3 = 0 → Q 0 m_worth m_length m_inSentence m_tooLike m_thrown_4 m_areLaid m_areLikeLaid) ∧ (r3 = 0 → jn1 (fun (J2 : Int → Prop) => jn0 (fun (J5 : Prop) => (a1 < 0 → J5) ∧ (¬ a1 < 0 → ((iShr a1 m_sentences) = 0 → J2 0) ∧ (¬ (iShr a1 m_sentences) = 0 → J5))) (J2 1)) (fun (y5 : Int) => wp_M_throwsIf m_thrown_4 y5 2 (fun (r6 : Int) (m_thrown_7 : Int) => (r6 = 0 → wp_M_laysLike m_sentenceOf m_likeOf m_from m_to m_hasWord m_weight m_matchItem m_matchFirst m_worth m_length m_inSentence m_tooLike m_words m_sentences m_items m_matches m_areLaid m_areLikeLaid m_limit (fun (m_worth_8 : (Nat → Int)) (m_length_9 : (Nat → Int)) (m_inSentence_10 : (Nat → Int)) (m_tooLike_11 : (Nat → Int)) (m_areLaid_12 : Int) (m_areLikeLaid_13 : Int) => lpw2 (fun (x14 : Int) (x15 : Int) (k3 : Int → Int → Prop) => (m_matches ≤ x15 → (¬ a2 = 0 → (¬ a2 = 1 → (¬ a2 = 2 → Q x14 m_worth_8 m_length_9 m_inSentence_10 m_tooLike_11 m_thrown_7 m_areLaid_12 m_areLikeLaid_13) ∧ (a2 = 2 → wp_M_may m_length_9 m_tooLike_11 m_sentences m_budget m_mostOf a1 (fun (r16 : Int) => (r16 = 0 → Q 0 m_worth_8 m_length_9 m_inSentence_10 m_tooLike_11 m_thrown_7 m_areLaid_12 m_areLikeLaid_13) ∧ (¬ r16 = 0 → Q 1 m_worth_8 m_length_9 m_inSentence_10 m_tooLike_11 m_thrown_7 m_areLaid_12 m_areLikeLaid_13)))) ∧ (a2 = 1 → (0 ≤ a1 ∧ a1 < 16384) ∧ (Q (m_length_9 (Int.toNat a1)) m_worth_8 m_length_9 m_inSentence_10 m_tooLike_11 m_thrown_7 m_areLaid_12 m_areLikeLaid_13))) ∧ (a2 = 0 → (0 ≤ a1 ∧ a1 < 16384) ∧ (Q (m_worth_8 (Int.toNat a1)) m_worth_8 m_length_9 m_inSentence_10 m_tooLike_11 m_thrown_7 m_areLaid_12 m_areLikeLaid_13))) ∧ (¬ m_matches ≤ x15 → (0 ≤ x15 ∧ x15 < 800) ∧ ((0 ≤ (m_matchFirst (Int.toNat x15)) ∧ (m_matchFirst (Int.toNat x15)) < 100) ∧ (wp_M_holds a1 (m_sentenceOf (Int.toNat (m_matchFirst (Int.toNat x15)))) (fun (r17 : Int) => jn1 (fun (J4 : Int → Prop) => (r17 = 0 → J4 0) ∧ (¬ r17 = 0 → (0 ≤ x15 ∧ x15 < 800) ∧ (J4 (iShl 1 (m_matchItem (Int.toNat x15)))))) (fun (y18 : Int) => (rng (x15 + 1)) ∧ (k3 (iOr x14 y18) (x15 + 1)))))))) 0 0)) ∧ (¬ r6 = 0 → Q 0 m_worth m_length m_inSentence m_tooLike m_thrown_7 m_areLaid m_areLikeLaid)))))))
set_option maxHeartbeats 4000000 in
set_option maxRecDepth 20000 in
theorem s_M_set (l : Launch) (w : St) (a1 : Int) (a2 : Int) (P : Int → (Nat → Int) → (Nat → Int) → (Nat → Int) → (Nat → Int) → Int → Int → Int → Prop) (h : wp_M_set (w.1 7) (w.1 8) (w.1 9) (w.1 10) (w.1 11) (w.1 12) (w.1 24) (w.1 25) (w.1 28) (w.1 29) (w.1 31) (w.1 33) (w.1 0 0) (w.1 0 12) (w.1 0 16) (w.1 0 29) (w.1 0 39) (w.1 0 42) (w.1 0 43) (w.1 0 50) (w.1 0 51) (w.1 0 52) a1 a2 P) : Cn l yX10_set cX10_set 5 (some .int) 4 LM w [aR 0, aI a1, aI a2] (okI (fun r w1 => ∃ (o0 : (Nat → Int)) (o1 : (Nat → Int)) (o2 : (Nat → Int)) (o3 : (Nat → Int)) (o4 : Int) (o5 : Int) (o6 : Int), w1 = (wI (wI (wI (wA (wA (wA (wA w 28 o0) 29 o1) 31 o2) 33 o3) 0 0 o4) 0 42 o5) 0 43 o6) ∧ P r o0 o1 o2 o3 o4 o5 o6)) := by
  unfold wp_M_set at h
  refine Cn.of2 [some (aR 0), some (aI a1), some (aI a2), none, none] (by decide) (Nat.le_of_ble_eq_true rfl) rfl (fun p e s m args below meth c D cA ad A Q hQ hC hr hk => ?_)
  refine r_aload_n (pc := 0) hC 0 dX10_set_0 rfl rfl ?_
  refine r_iconst (pc := 1) hC dX10_set_1 (rng_lit rfl) ?_
  refine r_put (kd := 0) (pc := 2) hC dX10_set_2 pl_RX10_142 lM_0 rfl (by decide) (Or.inl rfl) ?_
  refine r_aload_n (pc := 5) hC 0 dX10_set_5 rfl rfl ?_
  refine r_iload_n (pc := 6) hC 2 dX10_set_6 rfl rfl ?_
  refine r_iconst (pc := 7) hC dX10_set_7 (rng_lit rfl) ?_
  refine r_iconst (pc := 8) hC dX10_set_8 (rng_lit rfl) ?_
  refine r_callSi (pc := 9) hC [aI a2, aI 0, aI 3] [aR 0] dX10_set_9 ml_RX10_151 my_X10_in ms_X10_in rfl ⟨Nat.le_of_ble_eq_true rfl, Nat.le_of_ble_eq_true rfl⟩ ⟨Nat.le_of_ble_eq_true rfl, Nat.le_of_ble_eq_true rfl⟩ (Nat.le_of_ble_eq_true rfl) rfl (s_M_in l _ _ _ _ _ h) (fun r1 w1 hq => ?_)
  obtain ⟨e9, h⟩ := hq
  rw [e9]
  obtain ⟨J1, hJ1, h⟩ := h
  have S1 : ∀ (y2 : Int), J1 y2 → Wd p l e (rmD 4) s m args below meth c Q 0 0 5 D cA ad A LM (wI w 0 0 0) 20 [some (aR 0), some (aI a1), some (aI a2), none, none] [aI y2, aR 0] := by
    intro y2 hj
    have h := hJ1 y2 hj
    refine r_iconst (pc := 20) hC dX10_set_20 (rng_lit rfl) ?_
    refine r_callVi (pc := 21) hC [aI y2, aI 1] [] dX10_set_21 ml_RX10_309 my_X10_throwsIf mi_X10_throwsIf lM_0 rfl rfl ⟨Nat.le_of_ble_eq_true rfl, Nat.le_of_ble_eq_true rfl⟩ ⟨Nat.le_of_ble_eq_true rfl, Nat.le_of_ble_eq_true rfl⟩ (Nat.le_of_ble_eq_true rfl) rfl (s_M_throwsIf l _ _ _ _ h) (fun r3 w1 hq => ?_)
    obtain ⟨m_thrown_4, e9, h⟩ := hq
    rw [e9]
    refine r_if_ne (pc := 24) (tgt := 53) hC dX10_set_24 rfl (fun hc10 => ?_) (fun hc10 => ?_)
    · have h := h.1 hc10
      refine r_iconst (pc := 53) hC dX10_set_53 (rng_lit rfl) ?_
      refine r_conv (w2 := (wI (wI (wI (wA (wA (wA (wA w 28 (w.1 28)) 29 (w.1 29)) 31 (w.1 31)) 33 (w.1 33)) 0 0 m_thrown_4) 0 42 (w.1 0 42)) 0 43 (w.1 0 43))) rfl ?_
      exact r_reti (pc := 54) (kd := 0) hC hQ dX10_set_54 hr hk (by decide) (Or.inl rfl) ⟨(w.1 28), (w.1 29), (w.1 31), (w.1 33), m_thrown_4, (w.1 0 42), (w.1 0 43), rfl, h⟩
    have h := h.2 hc10
    refine r_aload_n (pc := 27) hC 0 dX10_set_27 rfl rfl ?_
    refine r_iload_n (pc := 28) hC 1 dX10_set_28 rfl rfl ?_
    obtain ⟨J2, hJ2, h⟩ := h
    have S2 : ∀ (y5 : Int), J2 y5 → Wd p l e (rmD 4) s m args below meth c Q 0 0 5 D cA ad A LM (wI w 0 0 m_thrown_4) 46 [some (aR 0), some (aI a1), some (aI a2), none, none] [aI y5, aR 0] := by
      intro y5 hj
      have h := hJ2 y5 hj
      refine r_iconst (pc := 46) hC dX10_set_46 (rng_lit rfl) ?_
      refine r_callVi (pc := 47) hC [aI y5, aI 2] [] dX10_set_47 ml_RX10_309 my_X10_throwsIf mi_X10_throwsIf lM_0 rfl rfl ⟨Nat.le_of_ble_eq_true rfl, Nat.le_of_ble_eq_true rfl⟩ ⟨Nat.le_of_ble_eq_true rfl, Nat.le_of_ble_eq_true rfl⟩ (Nat.le_of_ble_eq_true rfl) rfl (s_M_throwsIf l _ _ _ _ h) (fun r6 w1 hq => ?_)
      obtain ⟨m_thrown_7, e9, h⟩ := hq
      rw [e9]
      refine r_if_eq (pc := 50) (tgt := 55) hC dX10_set_50 rfl (fun hc7 => ?_) (fun hc7 => ?_)
      · have h := h.1 hc7
        refine r_aload_n (pc := 55) hC 0 dX10_set_55 rfl rfl ?_
        refine r_callVv (pc := 56) hC [] [] dX10_set_56 ml_RX10_364 my_X10_laysLike mi_X10_laysLike lM_0 rfl rfl ⟨Nat.le_of_ble_eq_true rfl, Nat.le_of_ble_eq_true rfl⟩ ⟨Nat.le_of_ble_eq_true rfl, Nat.le_of_ble_eq_true rfl⟩ (Nat.le_of_ble_eq_true rfl) rfl (s_M_laysLike l _ _ h) (fun w1 hq => ?_)
        obtain ⟨m_worth_8, m_length_9, m_inSentence_10, m_tooLike_11, m_areLaid_12, m_areLikeLaid_13, e9, h⟩ := hq
        rw [e9]
        refine r_iconst (pc := 59) hC dX10_set_59 (rng_lit rfl) ?_
        refine r_istore_n (ls2 := [some (aR 0), some (aI a1), some (aI a2), some (aI 0), none]) (pc := 60) hC 3 dX10_set_60 rfl (by decide) rfl rfl ?_
        refine r_iconst (pc := 61) hC dX10_set_61 (rng_lit rfl) ?_
        refine r_istore (ls2 := [some (aR 0), some (aI a1), some (aI a2), some (aI 0), some (aI 0)]) (pc := 62) hC dX10_set_62 (by decide) rfl rfl ?_
        obtain ⟨I3, μ3, hI3, hB3⟩ := h
        have S3 : ∀ (nn : Nat) (x14 : Int) (x15 : Int), μ3 x14 x15 < nn → I3 x14 x15 → Wd p l e (rmD 4) s m args below meth c Q 0 0 5 D cA ad A LM (wI (wI (wI (wA (wA (wA (wA w 28 m_worth_8) 29 m_length_9) 31 m_inSentence_10) 33 m_tooLike_11) 0 0 m_thrown_7) 0 42 m_areLaid_12) 0 43 m_areLikeLaid_13) 64 [some (aR 0), some (aI a1), some (aI a2), some (aI x14), some (aI x15)] [] := by
          intro nn
          induction nn with
          | zero => intro x14 x15 hn; exact absurd hn (Nat.not_lt_zero _)
          | succ nn ih3 =>
            intro x14 x15 hn3 hi
            have h := hB3 x14 x15 hi
            refine r_iload (pc := 64) hC dX10_set_64 rfl ?_
            refine r_aload_n (pc := 66) hC 0 dX10_set_66 rfl rfl ?_
            refine r_get (kd := 0) (v := (w.1 0 39)) (pc := 67) hC dX10_set_67 fl_RX10_277 lM_0 rfl rfl ?_
            refine r_ic_ge (pc := 70) (tgt := 114) hC dX10_set_70 rfl (fun hc6 => ?_) (fun hc6 => ?_)
            · have h := h.1 hc6
              refine r_iload_n (pc := 114) hC 2 dX10_set_114 rfl rfl ?_
              refine r_if_ne (pc := 115) (tgt := 127) hC dX10_set_115 rfl (fun hc4 => ?_) (fun hc4 => ?_)
              · have h := h.1 hc4
                refine r_iload_n (pc := 127) hC 2 dX10_set_127 rfl rfl ?_
                refine r_iconst (pc := 128) hC dX10_set_128 (rng_lit rfl) ?_
                refine r_ic_ne (pc := 129) (tgt := 141) hC dX10_set_129 rfl (fun hc3 => ?_) (fun hc3 => ?_)
                · have h := h.1 hc3
                  refine r_iload_n (pc := 141) hC 2 dX10_set_141 rfl rfl ?_
                  refine r_iconst (pc := 142) hC dX10_set_142 (rng_lit rfl) ?_
                  refine r_ic_ne (pc := 143) (tgt := 162) hC dX10_set_143 rfl (fun hc2 => ?_) (fun hc2 => ?_)
                  · have h := h.1 hc2
                    refine r_iload_n (pc := 162) hC 3 dX10_set_162 rfl rfl ?_
                    refine r_conv (w2 := (wI (wI (wI (wA (wA (wA (wA w 28 m_worth_8) 29 m_length_9) 31 m_inSentence_10) 33 m_tooLike_11) 0 0 m_thrown_7) 0 42 m_areLaid_12) 0 43 m_areLikeLaid_13)) rfl ?_
                    exact r_reti (pc := 163) (kd := 0) hC hQ dX10_set_163 hr hk (by decide) (Or.inl rfl) ⟨m_worth_8, m_length_9, m_inSentence_10, m_tooLike_11, m_thrown_7, m_areLaid_12, m_areLikeLaid_13, rfl, h⟩
                  have h := h.2 hc2
                  refine r_aload_n (pc := 146) hC 0 dX10_set_146 rfl rfl ?_
                  refine r_iload_n (pc := 147) hC 1 dX10_set_147 rfl rfl ?_
                  refine r_callVi (pc := 148) hC [aI a1] [] dX10_set_148 ml_RX10_361 my_X10_may mi_X10_may lM_0 rfl rfl ⟨Nat.le_of_ble_eq_true rfl, Nat.le_of_ble_eq_true rfl⟩ ⟨Nat.le_of_ble_eq_true rfl, Nat.le_of_ble_eq_true rfl⟩ (Nat.le_of_ble_eq_true rfl) rfl (s_M_may l _ _ _ h) (fun r16 w1 hq => ?_)
                  obtain ⟨e9, h⟩ := hq
                  rw [e9]
                  refine r_if_eq (pc := 151) (tgt := 158) hC dX10_set_151 rfl (fun hc1 => ?_) (fun hc1 => ?_)
                  · have h := h.1 hc1
                    refine r_iconst (pc := 158) hC dX10_set_158 (rng_lit rfl) ?_
                    refine r_goto (tgt := 163) (pc := 159) hC dX10_set_159 rfl ?_
                    refine r_conv (w2 := (wI (wI (wI (wA (wA (wA (wA w 28 m_worth_8) 29 m_length_9) 31 m_inSentence_10) 33 m_tooLike_11) 0 0 m_thrown_7) 0 42 m_areLaid_12) 0 43 m_areLikeLaid_13)) rfl ?_
                    exact r_reti (pc := 163) (kd := 0) hC hQ dX10_set_163 hr hk (by decide) (Or.inl rfl) ⟨m_worth_8, m_length_9, m_inSentence_10, m_tooLike_11, m_thrown_7, m_areLaid_12, m_areLikeLaid_13, rfl, h⟩
                  have h := h.2 hc1
                  refine r_iconst (pc := 154) hC dX10_set_154 (rng_lit rfl) ?_
                  refine r_goto (tgt := 163) (pc := 155) hC dX10_set_155 rfl ?_
                  refine r_conv (w2 := (wI (wI (wI (wA (wA (wA (wA w 28 m_worth_8) 29 m_length_9) 31 m_inSentence_10) 33 m_tooLike_11) 0 0 m_thrown_7) 0 42 m_areLaid_12) 0 43 m_areLikeLaid_13)) rfl ?_
                  exact r_reti (pc := 163) (kd := 0) hC hQ dX10_set_163 hr hk (by decide) (Or.inl rfl) ⟨m_worth_8, m_length_9, m_inSentence_10, m_tooLike_11, m_thrown_7, m_areLaid_12, m_areLikeLaid_13, rfl, h⟩
                have h := h.2 hc3
                refine r_aload_n (pc := 132) hC 0 dX10_set_132 rfl rfl ?_
                refine r_getr (r := 29) (pc := 133) hC dX10_set_133 fl_RX10_100 lM_0 rfl ?_
                refine r_iload_n (pc := 136) hC 1 dX10_set_136 rfl rfl ?_
                refine r_iald (v := (m_length_9 (Int.toNat a1))) (pc := 137) hC dX10_set_137 lM_29 h.1.1 h.1.2 rfl ?_
                have h := h.2
                refine r_goto (tgt := 163) (pc := 138) hC dX10_set_138 rfl ?_
                refine r_conv (w2 := (wI (wI (wI (wA (wA (wA (wA w 28 m_worth_8) 29 m_length_9) 31 m_inSentence_10) 33 m_tooLike_11) 0 0 m_thrown_7) 0 42 m_areLaid_12) 0 43 m_areLikeLaid_13)) rfl ?_
                exact r_reti (pc := 163) (kd := 0) hC hQ dX10_set_163 hr hk (by decide) (Or.inl rfl) ⟨m_worth_8, m_length_9, m_inSentence_10, m_tooLike_11, m_thrown_7, m_areLaid_12, m_areLikeLaid_13, rfl, h⟩
              have h := h.2 hc4
              refine r_aload_n (pc := 118) hC 0 dX10_set_118 rfl rfl ?_
              refine r_getr (r := 28) (pc := 119) hC dX10_set_119 fl_RX10_97 lM_0 rfl ?_
              refine r_iload_n (pc := 122) hC 1 dX10_set_122 rfl rfl ?_
              refine r_iald (v := (m_worth_8 (Int.toNat a1))) (pc := 123) hC dX10_set_123 lM_28 h.1.1 h.1.2 rfl ?_
              have h := h.2
              refine r_goto (tgt := 163) (pc := 124) hC dX10_set_124 rfl ?_
              refine r_conv (w2 := (wI (wI (wI (wA (wA (wA (wA w 28 m_worth_8) 29 m_length_9) 31 m_inSentence_10) 33 m_tooLike_11) 0 0 m_thrown_7) 0 42 m_areLaid_12) 0 43 m_areLikeLaid_13)) rfl ?_
              exact r_reti (pc := 163) (kd := 0) hC hQ dX10_set_163 hr hk (by decide) (Or.inl rfl) ⟨m_worth_8, m_length_9, m_inSentence_10, m_tooLike_11, m_thrown_7, m_areLaid_12, m_areLikeLaid_13, rfl, h⟩
            have h := h.2 hc6
            refine r_iload_n (pc := 73) hC 3 dX10_set_73 rfl rfl ?_
            refine r_iload_n (pc := 74) hC 1 dX10_set_74 rfl rfl ?_
            refine r_aload_n (pc := 75) hC 0 dX10_set_75 rfl rfl ?_
            refine r_getr (r := 7) (pc := 76) hC dX10_set_76 fl_RX10_29 lM_0 rfl ?_
            refine r_aload_n (pc := 79) hC 0 dX10_set_79 rfl rfl ?_
            refine r_getr (r := 25) (pc := 80) hC dX10_set_80 fl_RX10_88 lM_0 rfl ?_
            refine r_iload (pc := 83) hC dX10_set_83 rfl ?_
            refine r_iald (v := ((w.1 25) (Int.toNat x15))) (pc := 85) hC dX10_set_85 lM_25 h.1.1 h.1.2 rfl ?_
            have h := h.2
            refine r_iald (v := ((w.1 7) (Int.toNat ((w.1 25) (Int.toNat x15))))) (pc := 86) hC dX10_set_86 lM_7 h.1.1 h.1.2 rfl ?_
            have h := h.2
            refine r_callSi (pc := 87) hC [aI a1, aI ((w.1 7) (Int.toNat ((w.1 25) (Int.toNat x15))))] [aI x14] dX10_set_87 ml_RX10_294 my_X10_holds ms_X10_holds rfl ⟨Nat.le_of_ble_eq_true rfl, Nat.le_of_ble_eq_true rfl⟩ ⟨Nat.le_of_ble_eq_true rfl, Nat.le_of_ble_eq_true rfl⟩ (Nat.le_of_ble_eq_true rfl) rfl (s_M_holds l _ _ _ _ h) (fun r17 w1 hq => ?_)
            obtain ⟨e9, h⟩ := hq
            rw [e9]
            obtain ⟨J4, hJ4, h⟩ := h
            have S4 : ∀ (y18 : Int), J4 y18 → Wd p l e (rmD 4) s m args below meth c Q 0 0 5 D cA ad A LM (wI (wI (wI (wA (wA (wA (wA w 28 m_worth_8) 29 m_length_9) 31 m_inSentence_10) 33 m_tooLike_11) 0 0 m_thrown_7) 0 42 m_areLaid_12) 0 43 m_areLikeLaid_13) 106 [some (aR 0), some (aI a1), some (aI a2), none, some (aI x15)] [aI y18, aI x14] := by
              intro y18 hj
              have h := hJ4 y18 hj
              refine r_ior (pc := 106) hC dX10_set_106 ?_
              refine r_istore_n (ls2 := [some (aR 0), some (aI a1), some (aI a2), some (aI (iOr x14 y18)), some (aI x15)]) (pc := 107) hC 3 dX10_set_107 rfl (by decide) rfl rfl ?_
              refine r_iinc (ls2 := [some (aR 0), some (aI a1), some (aI a2), some (aI (iOr x14 y18)), some (aI (x15 + 1))]) (pc := 108) hC dX10_set_108 rfl (by decide) rfl h.1 rfl ?_
              have h := h.2
              refine r_goto (tgt := 64) (pc := 111) hC dX10_set_111 rfl ?_
              exact r_to [true, true, true, true, true] rfl rfl (ih3 (iOr x14 y18) (x15 + 1) (Nat.lt_of_lt_of_le h.2 (Nat.le_of_lt_succ hn3)) h.1)
            refine r_if_eq (pc := 90) (tgt := 105) hC dX10_set_90 rfl (fun hc5 => ?_) (fun hc5 => ?_)
            · have h := h.1 hc5
              refine r_iconst (pc := 105) hC dX10_set_105 (rng_lit rfl) ?_
              exact r_to [true, true, true, false, true] rfl rfl (S4 0 h)
            have h := h.2 hc5
            refine r_iconst (pc := 93) hC dX10_set_93 (rng_lit rfl) ?_
            refine r_aload_n (pc := 94) hC 0 dX10_set_94 rfl rfl ?_
            refine r_getr (r := 24) (pc := 95) hC dX10_set_95 fl_RX10_85 lM_0 rfl ?_
            refine r_iload (pc := 98) hC dX10_set_98 rfl ?_
            refine r_iald (v := ((w.1 24) (Int.toNat x15))) (pc := 100) hC dX10_set_100 lM_24 h.1.1 h.1.2 rfl ?_
            have h := h.2
            refine r_ishl (pc := 101) hC dX10_set_101 ?_
            refine r_goto (tgt := 106) (pc := 102) hC dX10_set_102 rfl ?_
            exact r_to [true, true, true, false, true] rfl rfl (S4 (iShl 1 ((w.1 24) (Int.toNat x15))) h)
        exact r_to [true, true, true, true, true] rfl rfl (S3 _ 0 0 (Nat.lt_succ_self _) hI3)
      have h := h.2 hc7
      refine r_iconst (pc := 53) hC dX10_set_53 (rng_lit rfl) ?_
      refine r_conv (w2 := (wI (wI (wI (wA (wA (wA (wA w 28 (w.1 28)) 29 (w.1 29)) 31 (w.1 31)) 33 (w.1 33)) 0 0 m_thrown_7) 0 42 (w.1 0 42)) 0 43 (w.1 0 43))) rfl ?_
      exact r_reti (pc := 54) (kd := 0) hC hQ dX10_set_54 hr hk (by decide) (Or.inl rfl) ⟨(w.1 28), (w.1 29), (w.1 31), (w.1 33), m_thrown_7, (w.1 0 42), (w.1 0 43), rfl, h⟩
    obtain ⟨J5, hJ5, h⟩ := h
    have S5 : J5 → Wd p l e (rmD 4) s m args below meth c Q 0 0 5 D cA ad A LM (wI w 0 0 m_thrown_4) 41 [some (aR 0), some (aI a1), some (aI a2), none, none] [aR 0] := by
      intro hj
      have h := hJ5 hj
      refine r_iconst (pc := 41) hC dX10_set_41 (rng_lit rfl) ?_
      refine r_goto (tgt := 46) (pc := 42) hC dX10_set_42 rfl ?_
      exact r_to [true, true, true, false, false] rfl rfl (S2 1 h)
    refine r_if_lt (pc := 29) (tgt := 41) hC dX10_set_29 rfl (fun hc9 => ?_) (fun hc9 => ?_)
    · have h := h.1 hc9
      exact r_to [true, true, true, false, false] rfl rfl (S5 h)
    have h := h.2 hc9
    refine r_iload_n (pc := 32) hC 1 dX10_set_32 rfl rfl ?_
    refine r_aload_n (pc := 33) hC 0 dX10_set_33 rfl rfl ?_
    refine r_get (kd := 0) (v := (w.1 0 16)) (pc := 34) hC dX10_set_34 fl_RX10_203 lM_0 rfl rfl ?_
    refine r_ishr (pc := 37) hC dX10_set_37 ?_
    refine r_if_eq (pc := 38) (tgt := 45) hC dX10_set_38 rfl (fun hc8 => ?_) (fun hc8 => ?_)
    · have h := h.1 hc8
      refine r_iconst (pc := 45) hC dX10_set_45 (rng_lit rfl) ?_
      exact r_to [true, true, true, false, false] rfl rfl (S2 0 h)
    have h := h.2 hc8
    exact r_to [true, true, true, false, false] rfl rfl (S5 h)
  refine r_if_ne (pc := 12) (tgt := 19) hC dX10_set_12 rfl (fun hc11 => ?_) (fun hc11 => ?_)
  · have h := h.1 hc11
    refine r_iconst (pc := 19) hC dX10_set_19 (rng_lit rfl) ?_
    exact r_to [true, true, true, false, false] rfl rfl (S1 0 h)
  have h := h.2 hc11
  refine r_iconst (pc := 15) hC dX10_set_15 (rng_lit rfl) ?_
  refine r_goto (tgt := 20) (pc := 16) hC dX10_set_16 rfl ?_
  exact r_to [true, true, true, false, false] rfl rfl (S1 1 h)
def wp_M_common (m_likeOf : (Nat → Int)) (m_hasWord : (Nat → Int)) (m_thrown : Int) (m_words : Int) (m_sentences : Int) (a1 : Int) (a2 : Int) (Q : Int → Int → Prop) : Prop := wp_M_noSentence m_thrown m_sentences a1 (fun (r1 : Int) (m_thrown_2 : Int) => jn1 (fun (J1 : Int → Prop) => (¬ r1 = 0 → J1 m_thrown_2) ∧ (r1 = 0 → wp_M_noSentence m_thrown_2 m_sentences a2 (fun (r4 : Int) (m_thrown_5 : Int) => (r4 = 0 → wp_M_commonOf m_likeOf m_hasWord m_words a1 a2 (fun (r6 : Int) => Q r6 m_thrown_5)) ∧ (¬ r4 = 0 → J1 m_thrown_5)))) (fun (m_thrown_3 : Int) => Q 0 m_thrown_3))
set_option maxHeartbeats 4000000 in
set_option maxRecDepth 20000 in
theorem s_M_common (l : Launch) (w : St) (a1 : Int) (a2 : Int) (P : Int → Int → Prop) (h : wp_M_common (w.1 8) (w.1 11) (w.1 0 0) (w.1 0 12) (w.1 0 16) a1 a2 P) : Cn l yX10_common cX10_common 3 (some .int) 2 LM w [aR 0, aI a1, aI a2] (okI (fun r w1 => ∃ (o0 : Int), w1 = (wI w 0 0 o0) ∧ P r o0)) := by
  unfold wp_M_common at h
  refine Cn.of2 [some (aR 0), some (aI a1), some (aI a2)] (by decide) (Nat.le_of_ble_eq_true rfl) rfl (fun p e s m args below meth c D cA ad A Q hQ hC hr hk => ?_)
  refine r_aload_n (pc := 0) hC 0 dX10_common_0 rfl rfl ?_
  refine r_iload_n (pc := 1) hC 1 dX10_common_1 rfl rfl ?_
  refine r_callVi (pc := 2) hC [aI a1] [] dX10_common_2 ml_RX10_340 my_X10_noSentence mi_X10_noSentence lM_0 rfl rfl ⟨Nat.le_of_ble_eq_true rfl, Nat.le_of_ble_eq_true rfl⟩ ⟨Nat.le_of_ble_eq_true rfl, Nat.le_of_ble_eq_true rfl⟩ (Nat.le_of_ble_eq_true rfl) rfl (s_M_noSentence l _ _ _ h) (fun r1 w1 hq => ?_)
  obtain ⟨m_thrown_2, e9, h⟩ := hq
  rw [e9]
  obtain ⟨J1, hJ1, h⟩ := h
  have S1 : ∀ (m_thrown_3 : Int), J1 m_thrown_3 → Wd p l e (rmD 2) s m args below meth c Q 0 0 3 D cA ad A LM (wI w 0 0 m_thrown_3) 16 [none, none, none] [] := by
    intro m_thrown_3 hj
    have h := hJ1 m_thrown_3 hj
    refine r_iconst (pc := 16) hC dX10_common_16 (rng_lit rfl) ?_
    refine r_goto (tgt := 26) (pc := 17) hC dX10_common_17 rfl ?_
    refine r_conv (w2 := (wI w 0 0 m_thrown_3)) rfl ?_
    exact r_reti (pc := 26) (kd := 0) hC hQ dX10_common_26 hr hk (by decide) (Or.inl rfl) ⟨m_thrown_3, rfl, h⟩
  refine r_if_ne (pc := 5) (tgt := 16) hC dX10_common_5 rfl (fun hc2 => ?_) (fun hc2 => ?_)
  · have h := h.1 hc2
    exact r_to [false, false, false] rfl rfl (S1 m_thrown_2 h)
  have h := h.2 hc2
  refine r_aload_n (pc := 8) hC 0 dX10_common_8 rfl rfl ?_
  refine r_iload_n (pc := 9) hC 2 dX10_common_9 rfl rfl ?_
  refine r_callVi (pc := 10) hC [aI a2] [] dX10_common_10 ml_RX10_340 my_X10_noSentence mi_X10_noSentence lM_0 rfl rfl ⟨Nat.le_of_ble_eq_true rfl, Nat.le_of_ble_eq_true rfl⟩ ⟨Nat.le_of_ble_eq_true rfl, Nat.le_of_ble_eq_true rfl⟩ (Nat.le_of_ble_eq_true rfl) rfl (s_M_noSentence l _ _ _ h) (fun r4 w1 hq => ?_)
  obtain ⟨m_thrown_5, e9, h⟩ := hq
  rw [e9]
  refine r_if_eq (pc := 13) (tgt := 20) hC dX10_common_13 rfl (fun hc1 => ?_) (fun hc1 => ?_)
  · have h := h.1 hc1
    refine r_aload_n (pc := 20) hC 0 dX10_common_20 rfl rfl ?_
    refine r_iload_n (pc := 21) hC 1 dX10_common_21 rfl rfl ?_
    refine r_iload_n (pc := 22) hC 2 dX10_common_22 rfl rfl ?_
    refine r_callVi (pc := 23) hC [aI a1, aI a2] [] dX10_common_23 ml_RX10_352 my_X10_commonOf mi_X10_commonOf lM_0 rfl rfl ⟨Nat.le_of_ble_eq_true rfl, Nat.le_of_ble_eq_true rfl⟩ ⟨Nat.le_of_ble_eq_true rfl, Nat.le_of_ble_eq_true rfl⟩ (Nat.le_of_ble_eq_true rfl) rfl (s_M_commonOf l _ _ _ _ h) (fun r6 w1 hq => ?_)
    obtain ⟨e9, h⟩ := hq
    rw [e9]
    refine r_conv (w2 := (wI w 0 0 m_thrown_5)) rfl ?_
    exact r_reti (pc := 26) (kd := 0) hC hQ dX10_common_26 hr hk (by decide) (Or.inl rfl) ⟨m_thrown_5, rfl, h⟩
  have h := h.2 hc1
  exact r_to [false, false, false] rfl rfl (S1 m_thrown_5 h)
def wp_M_step (m_sentenceOf : (Nat → Int)) (m_likeOf : (Nat → Int)) (m_from : (Nat → Int)) (m_to : (Nat → Int)) (m_hasWord : (Nat → Int)) (m_weight : (Nat → Int)) (m_matchItem : (Nat → Int)) (m_matchFirst : (Nat → Int)) (m_worth : (Nat → Int)) (m_length : (Nat → Int)) (m_inSentence : (Nat → Int)) (m_tooLike : (Nat → Int)) (m_step : (Nat → Int)) (m_thrown : Int) (m_words : Int) (m_sentences : Int) (m_items : Int) (m_matches : Int) (m_areLaid : Int) (m_areLikeLaid : Int) (m_budget : Int) (m_mostOf : Int) (m_limit : Int) (m_steps : Int) (a1 : Int) (Q : Int → (Nat → Int) → (Nat → Int) → (Nat → Int) → (Nat → Int) → (Nat → Int) → Int → Int → Int → Int → Prop) : Prop := wp_M_laysSteps m_sentenceOf m_likeOf m_from m_to m_hasWord m_weight m_matchItem m_matchFirst m_worth m_length m_inSentence m_tooLike m_step m_words m_sentences m_items m_matches m_areLaid m_areLikeLaid m_budget m_mostOf m_limit m_steps (fun (r1 : Int) (m_worth_2 : (Nat → Int)) (m_length_3 : (Nat → Int)) (m_inSentence_4 : (Nat → Int)) (m_tooLike_5 : (Nat → Int)) (m_step_6 : (Nat → Int)) (m_areLaid_7 : Int) (m_areLikeLaid_8 : Int) (m_steps_9 : Int) => (rng (m_steps_9 - 1)) ∧ (wp_M_in a1 0 (m_steps_9 - 1) (fun (r10 : Int) => (r10 = 0 → Q (-1) m_worth_2 m_length_3 m_inSentence_4 m_tooLike_5 m_step_6 0 m_areLaid_7 m_areLikeLaid_8 m_steps_9) ∧ (¬ r10 = 0 → (0 ≤ a1 ∧ a1 < 14) ∧ (Q (m_step_6 (Int.toNat a1)) m_worth_2 m_length_3 m_inSentence_4 m_tooLike_5 m_step_6 0 m_areLaid_7 m_areLikeLaid_8 m_steps_9)))))
set_option maxHeartbeats 4000000 in
set_option maxRecDepth 20000 in
theorem s_M_step (l : Launch) (w : St) (a1 : Int) (P : Int → (Nat → Int) → (Nat → Int) → (Nat → Int) → (Nat → Int) → (Nat → Int) → Int → Int → Int → Int → Prop) (h : wp_M_step (w.1 7) (w.1 8) (w.1 9) (w.1 10) (w.1 11) (w.1 12) (w.1 24) (w.1 25) (w.1 28) (w.1 29) (w.1 31) (w.1 33) (w.1 34) (w.1 0 0) (w.1 0 12) (w.1 0 16) (w.1 0 29) (w.1 0 39) (w.1 0 42) (w.1 0 43) (w.1 0 50) (w.1 0 51) (w.1 0 52) (w.1 0 56) a1 P) : Cn l yX10_step cX10_step 2 (some .int) 6 LM w [aR 0, aI a1] (okI (fun r w1 => ∃ (o0 : (Nat → Int)) (o1 : (Nat → Int)) (o2 : (Nat → Int)) (o3 : (Nat → Int)) (o4 : (Nat → Int)) (o5 : Int) (o6 : Int) (o7 : Int) (o8 : Int), w1 = (wI (wI (wI (wI (wA (wA (wA (wA (wA w 28 o0) 29 o1) 31 o2) 33 o3) 34 o4) 0 0 o5) 0 42 o6) 0 43 o7) 0 56 o8) ∧ P r o0 o1 o2 o3 o4 o5 o6 o7 o8)) := by
  unfold wp_M_step at h
  refine Cn.of2 [some (aR 0), some (aI a1)] (by decide) (Nat.le_of_ble_eq_true rfl) rfl (fun p e s m args below meth c D cA ad A Q hQ hC hr hk => ?_)
  refine r_aload_n (pc := 0) hC 0 dX10_step_0 rfl rfl ?_
  refine r_iconst (pc := 1) hC dX10_step_1 (rng_lit rfl) ?_
  refine r_put (kd := 0) (pc := 2) hC dX10_step_2 pl_RX10_142 lM_0 rfl (by decide) (Or.inl rfl) ?_
  refine r_aload_n (pc := 5) hC 0 dX10_step_5 rfl rfl ?_
  refine r_callVi (pc := 6) hC [] [] dX10_step_6 ml_RX10_373 my_X10_laysSteps mi_X10_laysSteps lM_0 rfl rfl ⟨Nat.le_of_ble_eq_true rfl, Nat.le_of_ble_eq_true rfl⟩ ⟨Nat.le_of_ble_eq_true rfl, Nat.le_of_ble_eq_true rfl⟩ (Nat.le_of_ble_eq_true rfl) rfl (s_M_laysSteps l _ _ h) (fun r1 w1 hq => ?_)
  obtain ⟨m_worth_2, m_length_3, m_inSentence_4, m_tooLike_5, m_step_6, m_areLaid_7, m_areLikeLaid_8, m_steps_9, e9, h⟩ := hq
  rw [e9]
  refine r_pop (pc := 9) hC dX10_step_9 rfl ?_
  refine r_iload_n (pc := 10) hC 1 dX10_step_10 rfl rfl ?_
  refine r_iconst (pc := 11) hC dX10_step_11 (rng_lit rfl) ?_
  refine r_aload_n (pc := 12) hC 0 dX10_step_12 rfl rfl ?_
  refine r_get (kd := 0) (v := m_steps_9) (pc := 13) hC dX10_step_13 fl_RX10_367 lM_0 rfl rfl ?_
  refine r_iconst (pc := 16) hC dX10_step_16 (rng_lit rfl) ?_
  refine r_isub (pc := 17) hC dX10_step_17 h.1 ?_
  have h := h.2
  refine r_callSi (pc := 18) hC [aI a1, aI 0, aI (m_steps_9 - 1)] [] dX10_step_18 ml_RX10_151 my_X10_in ms_X10_in rfl ⟨Nat.le_of_ble_eq_true rfl, Nat.le_of_ble_eq_true rfl⟩ ⟨Nat.le_of_ble_eq_true rfl, Nat.le_of_ble_eq_true rfl⟩ (Nat.le_of_ble_eq_true rfl) rfl (s_M_in l _ _ _ _ _ h) (fun r10 w1 hq => ?_)
  obtain ⟨e9, h⟩ := hq
  rw [e9]
  refine r_if_eq (pc := 21) (tgt := 33) hC dX10_step_21 rfl (fun hc1 => ?_) (fun hc1 => ?_)
  · have h := h.1 hc1
    refine r_iconst (pc := 33) hC dX10_step_33 (rng_lit rfl) ?_
    refine r_conv (w2 := (wI (wI (wI (wI (wA (wA (wA (wA (wA w 28 m_worth_2) 29 m_length_3) 31 m_inSentence_4) 33 m_tooLike_5) 34 m_step_6) 0 0 0) 0 42 m_areLaid_7) 0 43 m_areLikeLaid_8) 0 56 m_steps_9)) rfl ?_
    exact r_reti (pc := 34) (kd := 0) hC hQ dX10_step_34 hr hk (by decide) (Or.inl rfl) ⟨m_worth_2, m_length_3, m_inSentence_4, m_tooLike_5, m_step_6, 0, m_areLaid_7, m_areLikeLaid_8, m_steps_9, rfl, h⟩
  have h := h.2 hc1
  refine r_aload_n (pc := 24) hC 0 dX10_step_24 rfl rfl ?_
  refine r_getr (r := 34) (pc := 25) hC dX10_step_25 fl_RX10_124 lM_0 rfl ?_
  refine r_iload_n (pc := 28) hC 1 dX10_step_28 rfl rfl ?_
  refine r_iald (v := (m_step_6 (Int.toNat a1))) (pc := 29) hC dX10_step_29 lM_34 h.1.1 h.1.2 rfl ?_
  have h := h.2
  refine r_goto (tgt := 34) (pc := 30) hC dX10_step_30 rfl ?_
  refine r_conv (w2 := (wI (wI (wI (wI (wA (wA (wA (wA (wA w 28 m_worth_2) 29 m_length_3) 31 m_inSentence_4) 33 m_tooLike_5) 34 m_step_6) 0 0 0) 0 42 m_areLaid_7) 0 43 m_areLikeLaid_8) 0 56 m_steps_9)) rfl ?_
  exact r_reti (pc := 34) (kd := 0) hC hQ dX10_step_34 hr hk (by decide) (Or.inl rfl) ⟨m_worth_2, m_length_3, m_inSentence_4, m_tooLike_5, m_step_6, 0, m_areLaid_7, m_areLikeLaid_8, m_steps_9, rfl, h⟩
def wp_M_choice (m_sentenceOf : (Nat → Int)) (m_likeOf : (Nat → Int)) (m_from : (Nat → Int)) (m_to : (Nat → Int)) (m_hasWord : (Nat → Int)) (m_weight : (Nat → Int)) (m_matchItem : (Nat → Int)) (m_matchFirst : (Nat → Int)) (m_worth : (Nat → Int)) (m_length : (Nat → Int)) (m_inSentence : (Nat → Int)) (m_tooLike : (Nat → Int)) (m_step : (Nat → Int)) (m_thrown : Int) (m_words : Int) (m_sentences : Int) (m_items : Int) (m_matches : Int) (m_areLaid : Int) (m_areLikeLaid : Int) (m_budget : Int) (m_mostOf : Int) (m_limit : Int) (m_steps : Int) (a1 : Int) (Q : Int → (Nat → Int) → (Nat → Int) → (Nat → Int) → (Nat → Int) → (Nat → Int) → Int → Int → Int → Int → Prop) : Prop := wp_M_chooses m_sentenceOf m_likeOf m_from m_to m_hasWord m_weight m_matchItem m_matchFirst m_worth m_length m_inSentence m_tooLike m_step m_words m_sentences m_items m_matches m_areLaid m_areLikeLaid m_budget m_mostOf m_limit m_steps a1 (fun (r1 : Int) (m_worth_2 : (Nat → Int)) (m_length_3 : (Nat → Int)) (m_inSentence_4 : (Nat → Int)) (m_tooLike_5 : (Nat → Int)) (m_step_6 : (Nat → Int)) (m_areLaid_7 : Int) (m_areLikeLaid_8 : Int) (m_steps_9 : Int) => Q r1 m_worth_2 m_length_3 m_inSentence_4 m_tooLike_5 m_step_6 0 m_areLaid_7 m_areLikeLaid_8 m_steps_9)
set_option maxHeartbeats 4000000 in
set_option maxRecDepth 20000 in
theorem s_M_choice (l : Launch) (w : St) (a1 : Int) (P : Int → (Nat → Int) → (Nat → Int) → (Nat → Int) → (Nat → Int) → (Nat → Int) → Int → Int → Int → Int → Prop) (h : wp_M_choice (w.1 7) (w.1 8) (w.1 9) (w.1 10) (w.1 11) (w.1 12) (w.1 24) (w.1 25) (w.1 28) (w.1 29) (w.1 31) (w.1 33) (w.1 34) (w.1 0 0) (w.1 0 12) (w.1 0 16) (w.1 0 29) (w.1 0 39) (w.1 0 42) (w.1 0 43) (w.1 0 50) (w.1 0 51) (w.1 0 52) (w.1 0 56) a1 P) : Cn l yX10_choice cX10_choice 2 (some .int) 8 LM w [aR 0, aI a1] (okI (fun r w1 => ∃ (o0 : (Nat → Int)) (o1 : (Nat → Int)) (o2 : (Nat → Int)) (o3 : (Nat → Int)) (o4 : (Nat → Int)) (o5 : Int) (o6 : Int) (o7 : Int) (o8 : Int), w1 = (wI (wI (wI (wI (wA (wA (wA (wA (wA w 28 o0) 29 o1) 31 o2) 33 o3) 34 o4) 0 0 o5) 0 42 o6) 0 43 o7) 0 56 o8) ∧ P r o0 o1 o2 o3 o4 o5 o6 o7 o8)) := by
  unfold wp_M_choice at h
  refine Cn.of2 [some (aR 0), some (aI a1)] (by decide) (Nat.le_of_ble_eq_true rfl) rfl (fun p e s m args below meth c D cA ad A Q hQ hC hr hk => ?_)
  refine r_aload_n (pc := 0) hC 0 dX10_choice_0 rfl rfl ?_
  refine r_iconst (pc := 1) hC dX10_choice_1 (rng_lit rfl) ?_
  refine r_put (kd := 0) (pc := 2) hC dX10_choice_2 pl_RX10_142 lM_0 rfl (by decide) (Or.inl rfl) ?_
  refine r_aload_n (pc := 5) hC 0 dX10_choice_5 rfl rfl ?_
  refine r_iload_n (pc := 6) hC 1 dX10_choice_6 rfl rfl ?_
  refine r_callVi (pc := 7) hC [aI a1] [] dX10_choice_7 ml_RX10_382 my_X10_chooses mi_X10_chooses lM_0 rfl rfl ⟨Nat.le_of_ble_eq_true rfl, Nat.le_of_ble_eq_true rfl⟩ ⟨Nat.le_of_ble_eq_true rfl, Nat.le_of_ble_eq_true rfl⟩ (Nat.le_of_ble_eq_true rfl) rfl (s_M_chooses l _ _ _ h) (fun r1 w1 hq => ?_)
  obtain ⟨m_worth_2, m_length_3, m_inSentence_4, m_tooLike_5, m_step_6, m_areLaid_7, m_areLikeLaid_8, m_steps_9, e9, h⟩ := hq
  rw [e9]
  refine r_conv (w2 := (wI (wI (wI (wI (wA (wA (wA (wA (wA w 28 m_worth_2) 29 m_length_3) 31 m_inSentence_4) 33 m_tooLike_5) 34 m_step_6) 0 0 0) 0 42 m_areLaid_7) 0 43 m_areLikeLaid_8) 0 56 m_steps_9)) rfl ?_
  exact r_reti (pc := 10) (kd := 0) hC hQ dX10_choice_10 hr hk (by decide) (Or.inl rfl) ⟨m_worth_2, m_length_3, m_inSentence_4, m_tooLike_5, m_step_6, 0, m_areLaid_7, m_areLikeLaid_8, m_steps_9, rfl, h⟩
def wp_M_take (m_sentenceOf : (Nat → Int)) (m_likeOf : (Nat → Int)) (m_from : (Nat → Int)) (m_to : (Nat → Int)) (m_hasWord : (Nat → Int)) (m_weight : (Nat → Int)) (m_matchItem : (Nat → Int)) (m_matchFirst : (Nat → Int)) (m_worth : (Nat → Int)) (m_length : (Nat → Int)) (m_inSentence : (Nat → Int)) (m_tooLike : (Nat → Int)) (m_step : (Nat → Int)) (m_thrown : Int) (m_words : Int) (m_sentences : Int) (m_items : Int) (m_matches : Int) (m_areLaid : Int) (m_areLikeLaid : Int) (m_budget : Int) (m_mostOf : Int) (m_limit : Int) (m_chosen : Int) (m_steps : Int) (a1 : Int) (Q : Int → (Nat → Int) → (Nat → Int) → (Nat → Int) → (Nat → Int) → (Nat → Int) → Int → Int → Int → Int → Int → Prop) : Prop := wp_M_chooses m_sentenceOf m_likeOf m_from m_to m_hasWord m_weight m_matchItem m_matchFirst m_worth m_length m_inSentence m_tooLike m_step m_words m_sentences m_items m_matches m_areLaid m_areLikeLaid m_budget m_mostOf m_limit m_steps a1 (fun (r1 : Int) (m_worth_2 : (Nat → Int)) (m_length_3 : (Nat → Int)) (m_inSentence_4 : (Nat → Int)) (m_tooLike_5 : (Nat → Int)) (m_step_6 : (Nat → Int)) (m_areLaid_7 : Int) (m_areLikeLaid_8 : Int) (m_steps_9 : Int) => (0 ≤ r1 ∧ r1 < 16384) ∧ (Q (m_worth_2 (Int.toNat r1)) m_worth_2 m_length_3 m_inSentence_4 m_tooLike_5 m_step_6 0 m_areLaid_7 m_areLikeLaid_8 r1 m_steps_9))
set_option maxHeartbeats 4000000 in
set_option maxRecDepth 20000 in
theorem s_M_take (l : Launch) (w : St) (a1 : Int) (P : Int → (Nat → Int) → (Nat → Int) → (Nat → Int) → (Nat → Int) → (Nat → Int) → Int → Int → Int → Int → Int → Prop) (h : wp_M_take (w.1 7) (w.1 8) (w.1 9) (w.1 10) (w.1 11) (w.1 12) (w.1 24) (w.1 25) (w.1 28) (w.1 29) (w.1 31) (w.1 33) (w.1 34) (w.1 0 0) (w.1 0 12) (w.1 0 16) (w.1 0 29) (w.1 0 39) (w.1 0 42) (w.1 0 43) (w.1 0 50) (w.1 0 51) (w.1 0 52) (w.1 0 53) (w.1 0 56) a1 P) : Cn l yX10_take cX10_take 2 (some .int) 8 LM w [aR 0, aI a1] (okI (fun r w1 => ∃ (o0 : (Nat → Int)) (o1 : (Nat → Int)) (o2 : (Nat → Int)) (o3 : (Nat → Int)) (o4 : (Nat → Int)) (o5 : Int) (o6 : Int) (o7 : Int) (o8 : Int) (o9 : Int), w1 = (wI (wI (wI (wI (wI (wA (wA (wA (wA (wA w 28 o0) 29 o1) 31 o2) 33 o3) 34 o4) 0 0 o5) 0 42 o6) 0 43 o7) 0 53 o8) 0 56 o9) ∧ P r o0 o1 o2 o3 o4 o5 o6 o7 o8 o9)) := by
  unfold wp_M_take at h
  refine Cn.of2 [some (aR 0), some (aI a1)] (by decide) (Nat.le_of_ble_eq_true rfl) rfl (fun p e s m args below meth c D cA ad A Q hQ hC hr hk => ?_)
  refine r_aload_n (pc := 0) hC 0 dX10_take_0 rfl rfl ?_
  refine r_iconst (pc := 1) hC dX10_take_1 (rng_lit rfl) ?_
  refine r_put (kd := 0) (pc := 2) hC dX10_take_2 pl_RX10_142 lM_0 rfl (by decide) (Or.inl rfl) ?_
  refine r_aload_n (pc := 5) hC 0 dX10_take_5 rfl rfl ?_
  refine r_aload_n (pc := 6) hC 0 dX10_take_6 rfl rfl ?_
  refine r_iload_n (pc := 7) hC 1 dX10_take_7 rfl rfl ?_
  refine r_callVi (pc := 8) hC [aI a1] [aR 0] dX10_take_8 ml_RX10_382 my_X10_chooses mi_X10_chooses lM_0 rfl rfl ⟨Nat.le_of_ble_eq_true rfl, Nat.le_of_ble_eq_true rfl⟩ ⟨Nat.le_of_ble_eq_true rfl, Nat.le_of_ble_eq_true rfl⟩ (Nat.le_of_ble_eq_true rfl) rfl (s_M_chooses l _ _ _ h) (fun r1 w1 hq => ?_)
  obtain ⟨m_worth_2, m_length_3, m_inSentence_4, m_tooLike_5, m_step_6, m_areLaid_7, m_areLikeLaid_8, m_steps_9, e9, h⟩ := hq
  rw [e9]
  refine r_put (kd := 0) (pc := 11) hC dX10_take_11 pl_RX10_221 lM_0 rfl (by decide) (Or.inl rfl) ?_
  refine r_aload_n (pc := 14) hC 0 dX10_take_14 rfl rfl ?_
  refine r_getr (r := 28) (pc := 15) hC dX10_take_15 fl_RX10_97 lM_0 rfl ?_
  refine r_aload_n (pc := 18) hC 0 dX10_take_18 rfl rfl ?_
  refine r_get (kd := 0) (v := r1) (pc := 19) hC dX10_take_19 fl_RX10_221 lM_0 rfl rfl ?_
  refine r_iald (v := (m_worth_2 (Int.toNat r1))) (pc := 22) hC dX10_take_22 lM_28 h.1.1 h.1.2 rfl ?_
  have h := h.2
  refine r_conv (w2 := (wI (wI (wI (wI (wI (wA (wA (wA (wA (wA w 28 m_worth_2) 29 m_length_3) 31 m_inSentence_4) 33 m_tooLike_5) 34 m_step_6) 0 0 0) 0 42 m_areLaid_7) 0 43 m_areLikeLaid_8) 0 53 r1) 0 56 m_steps_9)) rfl ?_
  exact r_reti (pc := 23) (kd := 0) hC hQ dX10_take_23 hr hk (by decide) (Or.inl rfl) ⟨m_worth_2, m_length_3, m_inSentence_4, m_tooLike_5, m_step_6, 0, m_areLaid_7, m_areLikeLaid_8, r1, m_steps_9, rfl, h⟩
def wp_M_choose (m_sentenceOf : (Nat → Int)) (m_likeOf : (Nat → Int)) (m_from : (Nat → Int)) (m_to : (Nat → Int)) (m_hasWord : (Nat → Int)) (m_weight : (Nat → Int)) (m_matchItem : (Nat → Int)) (m_matchFirst : (Nat → Int)) (m_worth : (Nat → Int)) (m_length : (Nat → Int)) (m_inSentence : (Nat → Int)) (m_tooLike : (Nat → Int)) (m_thrown : Int) (m_words : Int) (m_sentences : Int) (m_items : Int) (m_matches : Int) (m_areLaid : Int) (m_areLikeLaid : Int) (m_budget : Int) (m_mostOf : Int) (m_limit : Int) (m_chosen : Int) (a1 : Int) (Q : Int → (Nat → Int) → (Nat → Int) → (Nat → Int) → (Nat → Int) → Int → Int → Int → Int → Prop) : Prop := wp_M_noSentence m_thrown m_sentences a1 (fun (r1 : Int) (m_thrown_2 : Int) => (r1 = 0 → wp_M_laysLike m_sentenceOf m_likeOf m_from m_to m_hasWord m_weight m_matchItem m_matchFirst m_worth m_length m_inSentence m_tooLike m_words m_sentences m_items m_matches m_areLaid m_areLikeLaid m_limit (fun (m_worth_3 : (Nat → Int)) (m_length_4 : (Nat → Int)) (m_inSentence_5 : (Nat → Int)) (m_tooLike_6 : (Nat → Int)) (m_areLaid_7 : Int) (m_areLikeLaid_8 : Int) => wp_M_holds m_chosen a1 (fun (r9 : Int) => jn1 (fun (J1 : Int → Prop) => jn0 (fun (J2 : Prop) => (¬ r9 = 0 → J2) ∧ (r9 = 0 → wp_M_may m_length_4 m_tooLike_6 m_sentences m_budget m_mostOf (iOr m_chosen (iShl 1 a1)) (fun (r13 : Int) => (¬ r13 = 0 → J1 0) ∧ (r13 = 0 → J2)))) (J1 1)) (fun (y10 : Int) => wp_M_throwsIf m_thrown_2 y10 2 (fun (r11 : Int) (m_thrown_12 : Int) => (r11 = 0 → (0 ≤ (iOr m_chosen (iShl 1 a1)) ∧ (iOr m_chosen (iShl 1 a1)) < 16384) ∧ (Q (m_worth_3 (Int.toNat (iOr m_chosen (iShl 1 a1)))) m_worth_3 m_length_4 m_inSentence_5 m_tooLike_6 m_thrown_12 m_areLaid_7 m_areLikeLaid_8 (iOr m_chosen (iShl 1 a1)))) ∧ (¬ r11 = 0 → Q 0 m_worth_3 m_length_4 m_inSentence_5 m_tooLike_6 m_thrown_12 m_areLaid_7 m_areLikeLaid_8 m_chosen)))))) ∧ (¬ r1 = 0 → Q 0 m_worth m_length m_inSentence m_tooLike m_thrown_2 m_areLaid m_areLikeLaid m_chosen))
set_option maxHeartbeats 4000000 in
set_option maxRecDepth 20000 in
theorem s_M_choose (l : Launch) (w : St) (a1 : Int) (P : Int → (Nat → Int) → (Nat → Int) → (Nat → Int) → (Nat → Int) → Int → Int → Int → Int → Prop) (h : wp_M_choose (w.1 7) (w.1 8) (w.1 9) (w.1 10) (w.1 11) (w.1 12) (w.1 24) (w.1 25) (w.1 28) (w.1 29) (w.1 31) (w.1 33) (w.1 0 0) (w.1 0 12) (w.1 0 16) (w.1 0 29) (w.1 0 39) (w.1 0 42) (w.1 0 43) (w.1 0 50) (w.1 0 51) (w.1 0 52) (w.1 0 53) a1 P) : Cn l yX10_choose cX10_choose 2 (some .int) 4 LM w [aR 0, aI a1] (okI (fun r w1 => ∃ (o0 : (Nat → Int)) (o1 : (Nat → Int)) (o2 : (Nat → Int)) (o3 : (Nat → Int)) (o4 : Int) (o5 : Int) (o6 : Int) (o7 : Int), w1 = (wI (wI (wI (wI (wA (wA (wA (wA w 28 o0) 29 o1) 31 o2) 33 o3) 0 0 o4) 0 42 o5) 0 43 o6) 0 53 o7) ∧ P r o0 o1 o2 o3 o4 o5 o6 o7)) := by
  unfold wp_M_choose at h
  refine Cn.of2 [some (aR 0), some (aI a1)] (by decide) (Nat.le_of_ble_eq_true rfl) rfl (fun p e s m args below meth c D cA ad A Q hQ hC hr hk => ?_)
  refine r_aload_n (pc := 0) hC 0 dX10_choose_0 rfl rfl ?_
  refine r_iload_n (pc := 1) hC 1 dX10_choose_1 rfl rfl ?_
  refine r_callVi (pc := 2) hC [aI a1] [] dX10_choose_2 ml_RX10_340 my_X10_noSentence mi_X10_noSentence lM_0 rfl rfl ⟨Nat.le_of_ble_eq_true rfl, Nat.le_of_ble_eq_true rfl⟩ ⟨Nat.le_of_ble_eq_true rfl, Nat.le_of_ble_eq_true rfl⟩ (Nat.le_of_ble_eq_true rfl) rfl (s_M_noSentence l _ _ _ h) (fun r1 w1 hq => ?_)
  obtain ⟨m_thrown_2, e9, h⟩ := hq
  rw [e9]
  refine r_if_eq (pc := 5) (tgt := 10) hC dX10_choose_5 rfl (fun hc4 => ?_) (fun hc4 => ?_)
  · have h := h.1 hc4
    refine r_aload_n (pc := 10) hC 0 dX10_choose_10 rfl rfl ?_
    refine r_callVv (pc := 11) hC [] [] dX10_choose_11 ml_RX10_364 my_X10_laysLike mi_X10_laysLike lM_0 rfl rfl ⟨Nat.le_of_ble_eq_true rfl, Nat.le_of_ble_eq_true rfl⟩ ⟨Nat.le_of_ble_eq_true rfl, Nat.le_of_ble_eq_true rfl⟩ (Nat.le_of_ble_eq_true rfl) rfl (s_M_laysLike l _ _ h) (fun w1 hq => ?_)
    obtain ⟨m_worth_3, m_length_4, m_inSentence_5, m_tooLike_6, m_areLaid_7, m_areLikeLaid_8, e9, h⟩ := hq
    rw [e9]
    refine r_aload_n (pc := 14) hC 0 dX10_choose_14 rfl rfl ?_
    refine r_aload_n (pc := 15) hC 0 dX10_choose_15 rfl rfl ?_
    refine r_get (kd := 0) (v := (w.1 0 53)) (pc := 16) hC dX10_choose_16 fl_RX10_221 lM_0 rfl rfl ?_
    refine r_iload_n (pc := 19) hC 1 dX10_choose_19 rfl rfl ?_
    refine r_callSi (pc := 20) hC [aI (w.1 0 53), aI a1] [aR 0] dX10_choose_20 ml_RX10_294 my_X10_holds ms_X10_holds rfl ⟨Nat.le_of_ble_eq_true rfl, Nat.le_of_ble_eq_true rfl⟩ ⟨Nat.le_of_ble_eq_true rfl, Nat.le_of_ble_eq_true rfl⟩ (Nat.le_of_ble_eq_true rfl) rfl (s_M_holds l _ _ _ _ h) (fun r9 w1 hq => ?_)
    obtain ⟨e9, h⟩ := hq
    rw [e9]
    obtain ⟨J1, hJ1, h⟩ := h
    have S1 : ∀ (y10 : Int), J1 y10 → Wd p l e (rmD 4) s m args below meth c Q 0 0 2 D cA ad A LM (wI (wI (wI (wA (wA (wA (wA w 28 m_worth_3) 29 m_length_4) 31 m_inSentence_5) 33 m_tooLike_6) 0 0 m_thrown_2) 0 42 m_areLaid_7) 0 43 m_areLikeLaid_8) 46 [some (aR 0), some (aI a1)] [aI y10, aR 0] := by
      intro y10 hj
      have h := hJ1 y10 hj
      refine r_iconst (pc := 46) hC dX10_choose_46 (rng_lit rfl) ?_
      refine r_callVi (pc := 47) hC [aI y10, aI 2] [] dX10_choose_47 ml_RX10_309 my_X10_throwsIf mi_X10_throwsIf lM_0 rfl rfl ⟨Nat.le_of_ble_eq_true rfl, Nat.le_of_ble_eq_true rfl⟩ ⟨Nat.le_of_ble_eq_true rfl, Nat.le_of_ble_eq_true rfl⟩ (Nat.le_of_ble_eq_true rfl) rfl (s_M_throwsIf l _ _ _ _ h) (fun r11 w1 hq => ?_)
      obtain ⟨m_thrown_12, e9, h⟩ := hq
      rw [e9]
      refine r_if_eq (pc := 50) (tgt := 55) hC dX10_choose_50 rfl (fun hc1 => ?_) (fun hc1 => ?_)
      · have h := h.1 hc1
        refine r_aload_n (pc := 55) hC 0 dX10_choose_55 rfl rfl ?_
        refine r_dup (pc := 56) hC dX10_choose_56 rfl ?_
        refine r_get (kd := 0) (v := (w.1 0 53)) (pc := 57) hC dX10_choose_57 fl_RX10_221 lM_0 rfl rfl ?_
        refine r_iconst (pc := 60) hC dX10_choose_60 (rng_lit rfl) ?_
        refine r_iload_n (pc := 61) hC 1 dX10_choose_61 rfl rfl ?_
        refine r_ishl (pc := 62) hC dX10_choose_62 ?_
        refine r_ior (pc := 63) hC dX10_choose_63 ?_
        refine r_put (kd := 0) (pc := 64) hC dX10_choose_64 pl_RX10_221 lM_0 rfl (by decide) (Or.inl rfl) ?_
        refine r_aload_n (pc := 67) hC 0 dX10_choose_67 rfl rfl ?_
        refine r_getr (r := 28) (pc := 68) hC dX10_choose_68 fl_RX10_97 lM_0 rfl ?_
        refine r_aload_n (pc := 71) hC 0 dX10_choose_71 rfl rfl ?_
        refine r_get (kd := 0) (v := (iOr (w.1 0 53) (iShl 1 a1))) (pc := 72) hC dX10_choose_72 fl_RX10_221 lM_0 rfl rfl ?_
        refine r_iald (v := (m_worth_3 (Int.toNat (iOr (w.1 0 53) (iShl 1 a1))))) (pc := 75) hC dX10_choose_75 lM_28 h.1.1 h.1.2 rfl ?_
        have h := h.2
        refine r_conv (w2 := (wI (wI (wI (wI (wA (wA (wA (wA w 28 m_worth_3) 29 m_length_4) 31 m_inSentence_5) 33 m_tooLike_6) 0 0 m_thrown_12) 0 42 m_areLaid_7) 0 43 m_areLikeLaid_8) 0 53 (iOr (w.1 0 53) (iShl 1 a1)))) rfl ?_
        exact r_reti (pc := 76) (kd := 0) hC hQ dX10_choose_76 hr hk (by decide) (Or.inl rfl) ⟨m_worth_3, m_length_4, m_inSentence_5, m_tooLike_6, m_thrown_12, m_areLaid_7, m_areLikeLaid_8, (iOr (w.1 0 53) (iShl 1 a1)), rfl, h⟩
      have h := h.2 hc1
      refine r_iconst (pc := 53) hC dX10_choose_53 (rng_lit rfl) ?_
      refine r_conv (w2 := (wI (wI (wI (wI (wA (wA (wA (wA w 28 m_worth_3) 29 m_length_4) 31 m_inSentence_5) 33 m_tooLike_6) 0 0 m_thrown_12) 0 42 m_areLaid_7) 0 43 m_areLikeLaid_8) 0 53 (w.1 0 53))) rfl ?_
      exact r_reti (pc := 54) (kd := 0) hC hQ dX10_choose_54 hr hk (by decide) (Or.inl rfl) ⟨m_worth_3, m_length_4, m_inSentence_5, m_tooLike_6, m_thrown_12, m_areLaid_7, m_areLikeLaid_8, (w.1 0 53), rfl, h⟩
    obtain ⟨J2, hJ2, h⟩ := h
    have S2 : J2 → Wd p l e (rmD 4) s m args below meth c Q 0 0 2 D cA ad A LM (wI (wI (wI (wA (wA (wA (wA w 28 m_worth_3) 29 m_length_4) 31 m_inSentence_5) 33 m_tooLike_6) 0 0 m_thrown_2) 0 42 m_areLaid_7) 0 43 m_areLikeLaid_8) 41 [some (aR 0), some (aI a1)] [aR 0] := by
      intro hj
      have h := hJ2 hj
      refine r_iconst (pc := 41) hC dX10_choose_41 (rng_lit rfl) ?_
      refine r_goto (tgt := 46) (pc := 42) hC dX10_choose_42 rfl ?_
      exact r_to [true, true] rfl rfl (S1 1 h)
    refine r_if_ne (pc := 23) (tgt := 41) hC dX10_choose_23 rfl (fun hc3 => ?_) (fun hc3 => ?_)
    · have h := h.1 hc3
      exact r_to [true, true] rfl rfl (S2 h)
    have h := h.2 hc3
    refine r_aload_n (pc := 26) hC 0 dX10_choose_26 rfl rfl ?_
    refine r_aload_n (pc := 27) hC 0 dX10_choose_27 rfl rfl ?_
    refine r_get (kd := 0) (v := (w.1 0 53)) (pc := 28) hC dX10_choose_28 fl_RX10_221 lM_0 rfl rfl ?_
    refine r_iconst (pc := 31) hC dX10_choose_31 (rng_lit rfl) ?_
    refine r_iload_n (pc := 32) hC 1 dX10_choose_32 rfl rfl ?_
    refine r_ishl (pc := 33) hC dX10_choose_33 ?_
    refine r_ior (pc := 34) hC dX10_choose_34 ?_
    refine r_callVi (pc := 35) hC [aI (iOr (w.1 0 53) (iShl 1 a1))] [aR 0] dX10_choose_35 ml_RX10_361 my_X10_may mi_X10_may lM_0 rfl rfl ⟨Nat.le_of_ble_eq_true rfl, Nat.le_of_ble_eq_true rfl⟩ ⟨Nat.le_of_ble_eq_true rfl, Nat.le_of_ble_eq_true rfl⟩ (Nat.le_of_ble_eq_true rfl) rfl (s_M_may l _ _ _ h) (fun r13 w1 hq => ?_)
    obtain ⟨e9, h⟩ := hq
    rw [e9]
    refine r_if_ne (pc := 38) (tgt := 45) hC dX10_choose_38 rfl (fun hc2 => ?_) (fun hc2 => ?_)
    · have h := h.1 hc2
      refine r_iconst (pc := 45) hC dX10_choose_45 (rng_lit rfl) ?_
      exact r_to [true, true] rfl rfl (S1 0 h)
    have h := h.2 hc2
    exact r_to [true, true] rfl rfl (S2 h)
  have h := h.2 hc4
  refine r_iconst (pc := 8) hC dX10_choose_8 (rng_lit rfl) ?_
  refine r_conv (w2 := (wI (wI (wI (wI (wA (wA (wA (wA w 28 (w.1 28)) 29 (w.1 29)) 31 (w.1 31)) 33 (w.1 33)) 0 0 m_thrown_2) 0 42 (w.1 0 42)) 0 43 (w.1 0 43)) 0 53 (w.1 0 53))) rfl ?_
  exact r_reti (pc := 9) (kd := 0) hC hQ dX10_choose_9 hr hk (by decide) (Or.inl rfl) ⟨(w.1 28), (w.1 29), (w.1 31), (w.1 33), m_thrown_2, (w.1 0 42), (w.1 0 43), (w.1 0 53), rfl, h⟩
def wp_M_drop (m_sentenceOf : (Nat → Int)) (m_likeOf : (Nat → Int)) (m_from : (Nat → Int)) (m_to : (Nat → Int)) (m_hasWord : (Nat → Int)) (m_weight : (Nat → Int)) (m_matchItem : (Nat → Int)) (m_matchFirst : (Nat → Int)) (m_worth : (Nat → Int)) (m_length : (Nat → Int)) (m_inSentence : (Nat → Int)) (m_tooLike : (Nat → Int)) (m_thrown : Int) (m_words : Int) (m_sentences : Int) (m_items : Int) (m_matches : Int) (m_areLaid : Int) (m_areLikeLaid : Int) (m_limit : Int) (m_chosen : Int) (a1 : Int) (Q : Int → (Nat → Int) → (Nat → Int) → (Nat → Int) → (Nat → Int) → Int → Int → Int → Int → Prop) : Prop := wp_M_noSentence m_thrown m_sentences a1 (fun (r1 : Int) (m_thrown_2 : Int) => (¬ r1 = 0 → Q 0 m_worth m_length m_inSentence m_tooLike m_thrown_2 m_areLaid m_areLikeLaid m_chosen) ∧ (r1 = 0 → wp_M_holds m_chosen a1 (fun (r3 : Int) => jn1 (fun (J1 : Int → Prop) => (¬ r3 = 0 → J1 0) ∧ (r3 = 0 → J1 1)) (fun (y4 : Int) => wp_M_throwsIf m_thrown_2 y4 2 (fun (r5 : Int) (m_thrown_6 : Int) => (r5 = 0 → wp_M_laysLike m_sentenceOf m_likeOf m_from m_to m_hasWord m_weight m_matchItem m_matchFirst m_worth m_length m_inSentence m_tooLike m_words m_sentences m_items m_matches m_areLaid m_areLikeLaid m_limit (fun (m_worth_7 : (Nat → Int)) (m_length_8 : (Nat → Int)) (m_inSentence_9 : (Nat → Int)) (m_tooLike_10 : (Nat → Int)) (m_areLaid_11 : Int) (m_areLikeLaid_12 : Int) => (0 ≤ (iAnd m_chosen (iXor (iShl 1 a1) (-1))) ∧ (iAnd m_chosen (iXor (iShl 1 a1) (-1))) < 16384) ∧ (Q (m_worth_7 (Int.toNat (iAnd m_chosen (iXor (iShl 1 a1) (-1))))) m_worth_7 m_length_8 m_inSentence_9 m_tooLike_10 m_thrown_6 m_areLaid_11 m_areLikeLaid_12 (iAnd m_chosen (iXor (iShl 1 a1) (-1)))))) ∧ (¬ r5 = 0 → Q 0 m_worth m_length m_inSentence m_tooLike m_thrown_6 m_areLaid m_areLikeLaid m_chosen))))))
set_option maxHeartbeats 4000000 in
set_option maxRecDepth 20000 in
theorem s_M_drop (l : Launch) (w : St) (a1 : Int) (P : Int → (Nat → Int) → (Nat → Int) → (Nat → Int) → (Nat → Int) → Int → Int → Int → Int → Prop) (h : wp_M_drop (w.1 7) (w.1 8) (w.1 9) (w.1 10) (w.1 11) (w.1 12) (w.1 24) (w.1 25) (w.1 28) (w.1 29) (w.1 31) (w.1 33) (w.1 0 0) (w.1 0 12) (w.1 0 16) (w.1 0 29) (w.1 0 39) (w.1 0 42) (w.1 0 43) (w.1 0 52) (w.1 0 53) a1 P) : Cn l yX10_drop cX10_drop 2 (some .int) 3 LM w [aR 0, aI a1] (okI (fun r w1 => ∃ (o0 : (Nat → Int)) (o1 : (Nat → Int)) (o2 : (Nat → Int)) (o3 : (Nat → Int)) (o4 : Int) (o5 : Int) (o6 : Int) (o7 : Int), w1 = (wI (wI (wI (wI (wA (wA (wA (wA w 28 o0) 29 o1) 31 o2) 33 o3) 0 0 o4) 0 42 o5) 0 43 o6) 0 53 o7) ∧ P r o0 o1 o2 o3 o4 o5 o6 o7)) := by
  unfold wp_M_drop at h
  refine Cn.of2 [some (aR 0), some (aI a1)] (by decide) (Nat.le_of_ble_eq_true rfl) rfl (fun p e s m args below meth c D cA ad A Q hQ hC hr hk => ?_)
  refine r_aload_n (pc := 0) hC 0 dX10_drop_0 rfl rfl ?_
  refine r_iload_n (pc := 1) hC 1 dX10_drop_1 rfl rfl ?_
  refine r_callVi (pc := 2) hC [aI a1] [] dX10_drop_2 ml_RX10_340 my_X10_noSentence mi_X10_noSentence lM_0 rfl rfl ⟨Nat.le_of_ble_eq_true rfl, Nat.le_of_ble_eq_true rfl⟩ ⟨Nat.le_of_ble_eq_true rfl, Nat.le_of_ble_eq_true rfl⟩ (Nat.le_of_ble_eq_true rfl) rfl (s_M_noSentence l _ _ _ h) (fun r1 w1 hq => ?_)
  obtain ⟨m_thrown_2, e9, h⟩ := hq
  rw [e9]
  refine r_if_ne (pc := 5) (tgt := 32) hC dX10_drop_5 rfl (fun hc3 => ?_) (fun hc3 => ?_)
  · have h := h.1 hc3
    refine r_iconst (pc := 32) hC dX10_drop_32 (rng_lit rfl) ?_
    refine r_conv (w2 := (wI (wI (wI (wI (wA (wA (wA (wA w 28 (w.1 28)) 29 (w.1 29)) 31 (w.1 31)) 33 (w.1 33)) 0 0 m_thrown_2) 0 42 (w.1 0 42)) 0 43 (w.1 0 43)) 0 53 (w.1 0 53))) rfl ?_
    exact r_reti (pc := 33) (kd := 0) hC hQ dX10_drop_33 hr hk (by decide) (Or.inl rfl) ⟨(w.1 28), (w.1 29), (w.1 31), (w.1 33), m_thrown_2, (w.1 0 42), (w.1 0 43), (w.1 0 53), rfl, h⟩
  have h := h.2 hc3
  refine r_aload_n (pc := 8) hC 0 dX10_drop_8 rfl rfl ?_
  refine r_aload_n (pc := 9) hC 0 dX10_drop_9 rfl rfl ?_
  refine r_get (kd := 0) (v := (w.1 0 53)) (pc := 10) hC dX10_drop_10 fl_RX10_221 lM_0 rfl rfl ?_
  refine r_iload_n (pc := 13) hC 1 dX10_drop_13 rfl rfl ?_
  refine r_callSi (pc := 14) hC [aI (w.1 0 53), aI a1] [aR 0] dX10_drop_14 ml_RX10_294 my_X10_holds ms_X10_holds rfl ⟨Nat.le_of_ble_eq_true rfl, Nat.le_of_ble_eq_true rfl⟩ ⟨Nat.le_of_ble_eq_true rfl, Nat.le_of_ble_eq_true rfl⟩ (Nat.le_of_ble_eq_true rfl) rfl (s_M_holds l _ _ _ _ h) (fun r3 w1 hq => ?_)
  obtain ⟨e9, h⟩ := hq
  rw [e9]
  obtain ⟨J1, hJ1, h⟩ := h
  have S1 : ∀ (y4 : Int), J1 y4 → Wd p l e (rmD 3) s m args below meth c Q 0 0 2 D cA ad A LM (wI w 0 0 m_thrown_2) 25 [some (aR 0), some (aI a1)] [aI y4, aR 0] := by
    intro y4 hj
    have h := hJ1 y4 hj
    refine r_iconst (pc := 25) hC dX10_drop_25 (rng_lit rfl) ?_
    refine r_callVi (pc := 26) hC [aI y4, aI 2] [] dX10_drop_26 ml_RX10_309 my_X10_throwsIf mi_X10_throwsIf lM_0 rfl rfl ⟨Nat.le_of_ble_eq_true rfl, Nat.le_of_ble_eq_true rfl⟩ ⟨Nat.le_of_ble_eq_true rfl, Nat.le_of_ble_eq_true rfl⟩ (Nat.le_of_ble_eq_true rfl) rfl (s_M_throwsIf l _ _ _ _ h) (fun r5 w1 hq => ?_)
    obtain ⟨m_thrown_6, e9, h⟩ := hq
    rw [e9]
    refine r_if_eq (pc := 29) (tgt := 34) hC dX10_drop_29 rfl (fun hc1 => ?_) (fun hc1 => ?_)
    · have h := h.1 hc1
      refine r_aload_n (pc := 34) hC 0 dX10_drop_34 rfl rfl ?_
      refine r_callVv (pc := 35) hC [] [] dX10_drop_35 ml_RX10_364 my_X10_laysLike mi_X10_laysLike lM_0 rfl rfl ⟨Nat.le_of_ble_eq_true rfl, Nat.le_of_ble_eq_true rfl⟩ ⟨Nat.le_of_ble_eq_true rfl, Nat.le_of_ble_eq_true rfl⟩ (Nat.le_of_ble_eq_true rfl) rfl (s_M_laysLike l _ _ h) (fun w1 hq => ?_)
      obtain ⟨m_worth_7, m_length_8, m_inSentence_9, m_tooLike_10, m_areLaid_11, m_areLikeLaid_12, e9, h⟩ := hq
      rw [e9]
      refine r_aload_n (pc := 38) hC 0 dX10_drop_38 rfl rfl ?_
      refine r_dup (pc := 39) hC dX10_drop_39 rfl ?_
      refine r_get (kd := 0) (v := (w.1 0 53)) (pc := 40) hC dX10_drop_40 fl_RX10_221 lM_0 rfl rfl ?_
      refine r_iconst (pc := 43) hC dX10_drop_43 (rng_lit rfl) ?_
      refine r_iload_n (pc := 44) hC 1 dX10_drop_44 rfl rfl ?_
      refine r_ishl (pc := 45) hC dX10_drop_45 ?_
      refine r_iconst (pc := 46) hC dX10_drop_46 (rng_lit rfl) ?_
      refine r_ixor (pc := 47) hC dX10_drop_47 ?_
      refine r_iand (pc := 48) hC dX10_drop_48 ?_
      refine r_put (kd := 0) (pc := 49) hC dX10_drop_49 pl_RX10_221 lM_0 rfl (by decide) (Or.inl rfl) ?_
      refine r_aload_n (pc := 52) hC 0 dX10_drop_52 rfl rfl ?_
      refine r_getr (r := 28) (pc := 53) hC dX10_drop_53 fl_RX10_97 lM_0 rfl ?_
      refine r_aload_n (pc := 56) hC 0 dX10_drop_56 rfl rfl ?_
      refine r_get (kd := 0) (v := (iAnd (w.1 0 53) (iXor (iShl 1 a1) (-1)))) (pc := 57) hC dX10_drop_57 fl_RX10_221 lM_0 rfl rfl ?_
      refine r_iald (v := (m_worth_7 (Int.toNat (iAnd (w.1 0 53) (iXor (iShl 1 a1) (-1)))))) (pc := 60) hC dX10_drop_60 lM_28 h.1.1 h.1.2 rfl ?_
      have h := h.2
      refine r_conv (w2 := (wI (wI (wI (wI (wA (wA (wA (wA w 28 m_worth_7) 29 m_length_8) 31 m_inSentence_9) 33 m_tooLike_10) 0 0 m_thrown_6) 0 42 m_areLaid_11) 0 43 m_areLikeLaid_12) 0 53 (iAnd (w.1 0 53) (iXor (iShl 1 a1) (-1))))) rfl ?_
      exact r_reti (pc := 61) (kd := 0) hC hQ dX10_drop_61 hr hk (by decide) (Or.inl rfl) ⟨m_worth_7, m_length_8, m_inSentence_9, m_tooLike_10, m_thrown_6, m_areLaid_11, m_areLikeLaid_12, (iAnd (w.1 0 53) (iXor (iShl 1 a1) (-1))), rfl, h⟩
    have h := h.2 hc1
    refine r_iconst (pc := 32) hC dX10_drop_32 (rng_lit rfl) ?_
    refine r_conv (w2 := (wI (wI (wI (wI (wA (wA (wA (wA w 28 (w.1 28)) 29 (w.1 29)) 31 (w.1 31)) 33 (w.1 33)) 0 0 m_thrown_6) 0 42 (w.1 0 42)) 0 43 (w.1 0 43)) 0 53 (w.1 0 53))) rfl ?_
    exact r_reti (pc := 33) (kd := 0) hC hQ dX10_drop_33 hr hk (by decide) (Or.inl rfl) ⟨(w.1 28), (w.1 29), (w.1 31), (w.1 33), m_thrown_6, (w.1 0 42), (w.1 0 43), (w.1 0 53), rfl, h⟩
  refine r_if_ne (pc := 17) (tgt := 24) hC dX10_drop_17 rfl (fun hc2 => ?_) (fun hc2 => ?_)
  · have h := h.1 hc2
    refine r_iconst (pc := 24) hC dX10_drop_24 (rng_lit rfl) ?_
    exact r_to [true, true] rfl rfl (S1 0 h)
  have h := h.2 hc2
  refine r_iconst (pc := 20) hC dX10_drop_20 (rng_lit rfl) ?_
  refine r_goto (tgt := 25) (pc := 21) hC dX10_drop_21 rfl ?_
  exact r_to [true, true] rfl rfl (S1 1 h)
