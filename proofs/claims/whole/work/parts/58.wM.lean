def wp_M_laysMarks_0_36_38 (m_wordFrom : (Nat → Int)) (m_wordTo : (Nat → Int)) (m_soft : (Nat → Int)) (m_matchItem : (Nat → Int)) (m_matchFirst : (Nat → Int)) (m_matchLast : (Nat → Int)) (m_strongOver : (Nat → Int)) (m_strongOn : (Nat → Int)) (m_matches : Int) (a1 : Int) (a2 : Int) (a3 : Int) (Q : (Nat → Int) → (Nat → Int) → Prop) : Prop := lpw3 (fun (m_strongOver_1 : (Nat → Int)) (m_strongOn_2 : (Nat → Int)) (x3 : Int) (k1 : (Nat → Int) → (Nat → Int) → Int → Prop) => (m_matches ≤ x3 → Q m_strongOver_1 m_strongOn_2) ∧ (¬ m_matches ≤ x3 → (0 ≤ x3 ∧ x3 < 800) ∧ ((0 ≤ (m_matchItem (Int.toNat x3)) ∧ (m_matchItem (Int.toNat x3)) < 8) ∧ (jn2 (fun (J2 : (Nat → Int) → (Nat → Int) → Prop) => (¬ (m_soft (Int.toNat (m_matchItem (Int.toNat x3)))) = a1 → J2 m_strongOver_1 m_strongOn_2) ∧ ((m_soft (Int.toNat (m_matchItem (Int.toNat x3)))) = a1 → (0 ≤ x3 ∧ x3 < 800) ∧ (((m_matchFirst (Int.toNat x3)) < a2 → J2 m_strongOver_1 m_strongOn_2) ∧ (¬ (m_matchFirst (Int.toNat x3)) < a2 → (0 ≤ x3 ∧ x3 < 800) ∧ (((m_matchLast (Int.toNat x3)) ≤ a3 → (0 ≤ x3 ∧ x3 < 800) ∧ ((0 ≤ (m_matchLast (Int.toNat x3)) ∧ (m_matchLast (Int.toNat x3)) < 100) ∧ ((0 ≤ x3 ∧ x3 < 800) ∧ ((0 ≤ (m_matchFirst (Int.toNat x3)) ∧ (m_matchFirst (Int.toNat x3)) < 100) ∧ (lpw3 (fun (m_strongOver_6 : (Nat → Int)) (m_strongOn_7 : (Nat → Int)) (x8 : Int) (k3 : (Nat → Int) → (Nat → Int) → Int → Prop) => ((m_wordTo (Int.toNat (m_matchLast (Int.toNat x3)))) ≤ x8 → J2 m_strongOver_6 m_strongOn_7) ∧ (¬ (m_wordTo (Int.toNat (m_matchLast (Int.toNat x3)))) ≤ x8 → (0 ≤ x8 ∧ x8 < 601) ∧ ((0 ≤ x8 ∧ x8 < 601) ∧ (jn1 (fun (J4 : Int → Prop) => jn0 (fun (J5 : Prop) => (¬ (m_strongOn_7 (Int.toNat x8)) = 0 → J5) ∧ ((m_strongOn_7 (Int.toNat x8)) = 0 → (rng (x8 + 1)) ∧ (((m_wordTo (Int.toNat (m_matchLast (Int.toNat x3)))) ≤ (x8 + 1) → J4 0) ∧ (¬ (m_wordTo (Int.toNat (m_matchLast (Int.toNat x3)))) ≤ (x8 + 1) → J5)))) (J4 1)) (fun (y9 : Int) => ((0 ≤ x8 ∧ x8 < 601) ∧ 0 ≤ y9 ∧ y9 ≤ 1) ∧ ((rng (x8 + 1)) ∧ (k3 (uI m_strongOver_6 x8 1) (uI m_strongOn_7 x8 y9) (x8 + 1)))))))) m_strongOver_1 m_strongOn_2 (m_wordFrom (Int.toNat (m_matchFirst (Int.toNat x3))))))))) ∧ (¬ (m_matchLast (Int.toNat x3)) ≤ a3 → J2 m_strongOver_1 m_strongOn_2)))))) (fun (m_strongOver_4 : (Nat → Int)) (m_strongOn_5 : (Nat → Int)) => (rng (x3 + 1)) ∧ (k1 m_strongOver_4 m_strongOn_5 (x3 + 1))))))) m_strongOver m_strongOn 0
set_option maxHeartbeats 4000000 in
set_option maxRecDepth 20000 in
theorem s_M_laysMarks_0_36_38 (l : Launch) (w : St) (a1 : Int) (a2 : Int) (a3 : Int) (P : (Nat → Int) → (Nat → Int) → Prop) (h : wp_M_laysMarks_0_36_38 (w.1 5) (w.1 6) (w.1 15) (w.1 24) (w.1 25) (w.1 26) (w.1 36) (w.1 38) (w.1 0 39) a1 a2 a3 P) : Cn l yX10_laysMarks cX10_laysMarks 9 none 0 LM w [aR 0, aI a1, aI a2, aI a3, aR 36, aR 38] (okV (fun w1 => ∃ (o0 : (Nat → Int)) (o1 : (Nat → Int)), w1 = (wA (wA w 36 o0) 38 o1) ∧ P o0 o1)) := by
  unfold wp_M_laysMarks_0_36_38 at h
  refine Cn.of2 [some (aR 0), some (aI a1), some (aI a2), some (aI a3), some (aR 36), some (aR 38), none, none, none] (by decide) (Nat.le_of_ble_eq_true rfl) rfl (fun p e s m args below meth c D cA ad A Q hQ hC hr hk => ?_)
  refine r_iconst (pc := 0) hC dX10_laysMarks_0 (rng_lit rfl) ?_
  refine r_istore (ls2 := [some (aR 0), some (aI a1), some (aI a2), some (aI a3), some (aR 36), some (aR 38), some (aI 0), none, none]) (pc := 1) hC dX10_laysMarks_1 (by decide) rfl rfl ?_
  obtain ⟨I1, μ1, hI1, hB1⟩ := h
  have S1 : ∀ (nn : Nat) (m_strongOver_1 : (Nat → Int)) (m_strongOn_2 : (Nat → Int)) (x3 : Int), μ1 m_strongOver_1 m_strongOn_2 x3 < nn → I1 m_strongOver_1 m_strongOn_2 x3 → Wd p l e (rmD 0) s m args below meth c Q 0 0 9 D cA ad A LM (wA (wA w 36 m_strongOver_1) 38 m_strongOn_2) 3 [some (aR 0), some (aI a1), some (aI a2), some (aI a3), some (aR 36), some (aR 38), some (aI x3), none, none] [] := by
    intro nn
    induction nn with
    | zero => intro m_strongOver_1 m_strongOn_2 x3 hn; exact absurd hn (Nat.not_lt_zero _)
    | succ nn ih1 =>
      intro m_strongOver_1 m_strongOn_2 x3 hn1 hi
      have h := hB1 m_strongOver_1 m_strongOn_2 x3 hi
      refine r_iload (pc := 3) hC dX10_laysMarks_3 rfl ?_
      refine r_aload_n (pc := 5) hC 0 dX10_laysMarks_5 rfl rfl ?_
      refine r_get (kd := 0) (v := (w.1 0 39)) (pc := 6) hC dX10_laysMarks_6 fl_RX10_277 lM_0 rfl rfl ?_
      refine r_ic_ge (pc := 9) (tgt := 133) hC dX10_laysMarks_9 rfl (fun hc7 => ?_) (fun hc7 => ?_)
      · have h := h.1 hc7
        refine r_conv (w2 := (wA (wA w 36 m_strongOver_1) 38 m_strongOn_2)) rfl ?_
        exact r_retv (pc := 133) hC hQ dX10_laysMarks_133 hr hk ⟨m_strongOver_1, m_strongOn_2, rfl, h⟩
      have h := h.2 hc7
      refine r_aload_n (pc := 12) hC 0 dX10_laysMarks_12 rfl rfl ?_
      refine r_getr (r := 15) (pc := 13) hC dX10_laysMarks_13 fl_RX10_54 lM_0 rfl ?_
      refine r_aload_n (pc := 16) hC 0 dX10_laysMarks_16 rfl rfl ?_
      refine r_getr (r := 24) (pc := 17) hC dX10_laysMarks_17 fl_RX10_85 lM_0 rfl ?_
      refine r_iload (pc := 20) hC dX10_laysMarks_20 rfl ?_
      refine r_iald (v := ((w.1 24) (Int.toNat x3))) (pc := 22) hC dX10_laysMarks_22 lM_24 h.1.1 h.1.2 rfl ?_
      have h := h.2
      refine r_zald (v := ((w.1 15) (Int.toNat ((w.1 24) (Int.toNat x3))))) (pc := 23) hC dX10_laysMarks_23 lM_15 h.1.1 h.1.2 rfl ?_
      have h := h.2
      refine r_iload_n (pc := 24) hC 1 dX10_laysMarks_24 rfl rfl ?_
      obtain ⟨J2, hJ2, h⟩ := h
      have S2 : ∀ (m_strongOver_4 : (Nat → Int)) (m_strongOn_5 : (Nat → Int)), J2 m_strongOver_4 m_strongOn_5 → Wd p l e (rmD 0) s m args below meth c Q 0 0 9 D cA ad A LM (wA (wA w 36 m_strongOver_4) 38 m_strongOn_5) 127 [some (aR 0), some (aI a1), some (aI a2), some (aI a3), some (aR 36), some (aR 38), some (aI x3), none, none] [] := by
        intro m_strongOver_4 m_strongOn_5 hj
        have h := hJ2 m_strongOver_4 m_strongOn_5 hj
        refine r_iinc (ls2 := [some (aR 0), some (aI a1), some (aI a2), some (aI a3), some (aR 36), some (aR 38), some (aI (x3 + 1)), none, none]) (pc := 127) hC dX10_laysMarks_127 rfl (by decide) rfl h.1 rfl ?_
        have h := h.2
        refine r_goto (tgt := 3) (pc := 130) hC dX10_laysMarks_130 rfl ?_
        exact r_to [true, true, true, true, true, true, true, false, false] rfl rfl (ih1 m_strongOver_4 m_strongOn_5 (x3 + 1) (Nat.lt_of_lt_of_le h.2 (Nat.le_of_lt_succ hn1)) h.1)
      refine r_ic_ne (pc := 25) (tgt := 127) hC dX10_laysMarks_25 rfl (fun hc6 => ?_) (fun hc6 => ?_)
      · have h := h.1 hc6
        exact r_to [true, true, true, true, true, true, true, false, false] rfl rfl (S2 m_strongOver_1 m_strongOn_2 h)
      have h := h.2 hc6
      refine r_aload_n (pc := 28) hC 0 dX10_laysMarks_28 rfl rfl ?_
      refine r_getr (r := 25) (pc := 29) hC dX10_laysMarks_29 fl_RX10_88 lM_0 rfl ?_
      refine r_iload (pc := 32) hC dX10_laysMarks_32 rfl ?_
      refine r_iald (v := ((w.1 25) (Int.toNat x3))) (pc := 34) hC dX10_laysMarks_34 lM_25 h.1.1 h.1.2 rfl ?_
      have h := h.2
      refine r_iload_n (pc := 35) hC 2 dX10_laysMarks_35 rfl rfl ?_
      refine r_ic_lt (pc := 36) (tgt := 127) hC dX10_laysMarks_36 rfl (fun hc5 => ?_) (fun hc5 => ?_)
      · have h := h.1 hc5
        exact r_to [true, true, true, true, true, true, true, false, false] rfl rfl (S2 m_strongOver_1 m_strongOn_2 h)
      have h := h.2 hc5
      refine r_aload_n (pc := 39) hC 0 dX10_laysMarks_39 rfl rfl ?_
      refine r_getr (r := 26) (pc := 40) hC dX10_laysMarks_40 fl_RX10_91 lM_0 rfl ?_
      refine r_iload (pc := 43) hC dX10_laysMarks_43 rfl ?_
      refine r_iald (v := ((w.1 26) (Int.toNat x3))) (pc := 45) hC dX10_laysMarks_45 lM_26 h.1.1 h.1.2 rfl ?_
      have h := h.2
      refine r_iload_n (pc := 46) hC 3 dX10_laysMarks_46 rfl rfl ?_
      refine r_ic_le (pc := 47) (tgt := 53) hC dX10_laysMarks_47 rfl (fun hc4 => ?_) (fun hc4 => ?_)
      · have h := h.1 hc4
        refine r_aload_n (pc := 53) hC 0 dX10_laysMarks_53 rfl rfl ?_
        refine r_getr (r := 6) (pc := 54) hC dX10_laysMarks_54 fl_RX10_26 lM_0 rfl ?_
        refine r_aload_n (pc := 57) hC 0 dX10_laysMarks_57 rfl rfl ?_
        refine r_getr (r := 26) (pc := 58) hC dX10_laysMarks_58 fl_RX10_91 lM_0 rfl ?_
        refine r_iload (pc := 61) hC dX10_laysMarks_61 rfl ?_
        refine r_iald (v := ((w.1 26) (Int.toNat x3))) (pc := 63) hC dX10_laysMarks_63 lM_26 h.1.1 h.1.2 rfl ?_
        have h := h.2
        refine r_iald (v := ((w.1 6) (Int.toNat ((w.1 26) (Int.toNat x3))))) (pc := 64) hC dX10_laysMarks_64 lM_6 h.1.1 h.1.2 rfl ?_
        have h := h.2
        refine r_istore (ls2 := [some (aR 0), some (aI a1), some (aI a2), some (aI a3), some (aR 36), some (aR 38), some (aI x3), some (aI ((w.1 6) (Int.toNat ((w.1 26) (Int.toNat x3))))), none]) (pc := 65) hC dX10_laysMarks_65 (by decide) rfl rfl ?_
        refine r_aload_n (pc := 67) hC 0 dX10_laysMarks_67 rfl rfl ?_
        refine r_getr (r := 5) (pc := 68) hC dX10_laysMarks_68 fl_RX10_23 lM_0 rfl ?_
        refine r_aload_n (pc := 71) hC 0 dX10_laysMarks_71 rfl rfl ?_
        refine r_getr (r := 25) (pc := 72) hC dX10_laysMarks_72 fl_RX10_88 lM_0 rfl ?_
        refine r_iload (pc := 75) hC dX10_laysMarks_75 rfl ?_
        refine r_iald (v := ((w.1 25) (Int.toNat x3))) (pc := 77) hC dX10_laysMarks_77 lM_25 h.1.1 h.1.2 rfl ?_
        have h := h.2
        refine r_iald (v := ((w.1 5) (Int.toNat ((w.1 25) (Int.toNat x3))))) (pc := 78) hC dX10_laysMarks_78 lM_5 h.1.1 h.1.2 rfl ?_
        have h := h.2
        refine r_istore (ls2 := [some (aR 0), some (aI a1), some (aI a2), some (aI a3), some (aR 36), some (aR 38), some (aI x3), some (aI ((w.1 6) (Int.toNat ((w.1 26) (Int.toNat x3))))), some (aI ((w.1 5) (Int.toNat ((w.1 25) (Int.toNat x3)))))]) (pc := 79) hC dX10_laysMarks_79 (by decide) rfl rfl ?_
        obtain ⟨I3, μ3, hI3, hB3⟩ := h
        have S3 : ∀ (nn : Nat) (m_strongOver_6 : (Nat → Int)) (m_strongOn_7 : (Nat → Int)) (x8 : Int), μ3 m_strongOver_6 m_strongOn_7 x8 < nn → I3 m_strongOver_6 m_strongOn_7 x8 → Wd p l e (rmD 0) s m args below meth c Q 0 0 9 D cA ad A LM (wA (wA w 36 m_strongOver_6) 38 m_strongOn_7) 81 [some (aR 0), some (aI a1), some (aI a2), some (aI a3), some (aR 36), some (aR 38), some (aI x3), some (aI ((w.1 6) (Int.toNat ((w.1 26) (Int.toNat x3))))), some (aI x8)] [] := by
          intro nn
          induction nn with
          | zero => intro m_strongOver_6 m_strongOn_7 x8 hn; exact absurd hn (Nat.not_lt_zero _)
          | succ nn ih3 =>
            intro m_strongOver_6 m_strongOn_7 x8 hn3 hi
            have h := hB3 m_strongOver_6 m_strongOn_7 x8 hi
            refine r_iload (pc := 81) hC dX10_laysMarks_81 rfl ?_
            refine r_iload (pc := 83) hC dX10_laysMarks_83 rfl ?_
            refine r_ic_ge (pc := 85) (tgt := 127) hC dX10_laysMarks_85 rfl (fun hc3 => ?_) (fun hc3 => ?_)
            · have h := h.1 hc3
              exact r_to [true, true, true, true, true, true, true, false, false] rfl rfl (S2 m_strongOver_6 m_strongOn_7 h)
            have h := h.2 hc3
            refine r_aload (pc := 88) hC dX10_laysMarks_88 rfl ?_
            refine r_iload (pc := 90) hC dX10_laysMarks_90 rfl ?_
            refine r_iconst (pc := 92) hC dX10_laysMarks_92 (rng_lit rfl) ?_
            refine r_zast (pc := 93) hC dX10_laysMarks_93 lM_36 h.1.1 h.1.2 okK1_1 ?_
            have h := h.2
            refine r_aload (pc := 94) hC dX10_laysMarks_94 rfl ?_
            refine r_iload (pc := 96) hC dX10_laysMarks_96 rfl ?_
            refine r_aload (pc := 98) hC dX10_laysMarks_98 rfl ?_
            refine r_iload (pc := 100) hC dX10_laysMarks_100 rfl ?_
            refine r_zald (v := (m_strongOn_7 (Int.toNat x8))) (pc := 102) hC dX10_laysMarks_102 lM_38 h.1.1 h.1.2 rfl ?_
            have h := h.2
            obtain ⟨J4, hJ4, h⟩ := h
            have S4 : ∀ (y9 : Int), J4 y9 → Wd p l e (rmD 0) s m args below meth c Q 0 0 9 D cA ad A LM (wA (wA w 36 (uI m_strongOver_6 x8 1)) 38 m_strongOn_7) 120 [some (aR 0), some (aI a1), some (aI a2), some (aI a3), some (aR 36), some (aR 38), some (aI x3), some (aI ((w.1 6) (Int.toNat ((w.1 26) (Int.toNat x3))))), some (aI x8)] [aI y9, aI x8, aR 38] := by
              intro y9 hj
              have h := hJ4 y9 hj
              refine r_zast (pc := 120) hC dX10_laysMarks_120 lM_38 h.1.1.1 h.1.1.2 h.1.2 ?_
              have h := h.2
              refine r_iinc (ls2 := [some (aR 0), some (aI a1), some (aI a2), some (aI a3), some (aR 36), some (aR 38), some (aI x3), some (aI ((w.1 6) (Int.toNat ((w.1 26) (Int.toNat x3))))), some (aI (x8 + 1))]) (pc := 121) hC dX10_laysMarks_121 rfl (by decide) rfl h.1 rfl ?_
              have h := h.2
              refine r_goto (tgt := 81) (pc := 124) hC dX10_laysMarks_124 rfl ?_
              exact r_to [true, true, true, true, true, true, true, true, true] rfl rfl (ih3 (uI m_strongOver_6 x8 1) (uI m_strongOn_7 x8 y9) (x8 + 1) (Nat.lt_of_lt_of_le h.2 (Nat.le_of_lt_succ hn3)) h.1)
            obtain ⟨J5, hJ5, h⟩ := h
            have S5 : J5 → Wd p l e (rmD 0) s m args below meth c Q 0 0 9 D cA ad A LM (wA (wA w 36 (uI m_strongOver_6 x8 1)) 38 m_strongOn_7) 115 [some (aR 0), some (aI a1), some (aI a2), some (aI a3), some (aR 36), some (aR 38), some (aI x3), some (aI ((w.1 6) (Int.toNat ((w.1 26) (Int.toNat x3))))), some (aI x8)] [aI x8, aR 38] := by
              intro hj
              have h := hJ5 hj
              refine r_iconst (pc := 115) hC dX10_laysMarks_115 (rng_lit rfl) ?_
              refine r_goto (tgt := 120) (pc := 116) hC dX10_laysMarks_116 rfl ?_
              exact r_to [true, true, true, true, true, true, true, true, true] rfl rfl (S4 1 h)
            refine r_if_ne (pc := 103) (tgt := 115) hC dX10_laysMarks_103 rfl (fun hc2 => ?_) (fun hc2 => ?_)
            · have h := h.1 hc2
              exact r_to [true, true, true, true, true, true, true, true, true] rfl rfl (S5 h)
            have h := h.2 hc2
            refine r_iload (pc := 106) hC dX10_laysMarks_106 rfl ?_
            refine r_iconst (pc := 108) hC dX10_laysMarks_108 (rng_lit rfl) ?_
            refine r_iadd (pc := 109) hC dX10_laysMarks_109 h.1 ?_
            have h := h.2
            refine r_iload (pc := 110) hC dX10_laysMarks_110 rfl ?_
            refine r_ic_ge (pc := 112) (tgt := 119) hC dX10_laysMarks_112 rfl (fun hc1 => ?_) (fun hc1 => ?_)
            · have h := h.1 hc1
              refine r_iconst (pc := 119) hC dX10_laysMarks_119 (rng_lit rfl) ?_
              exact r_to [true, true, true, true, true, true, true, true, true] rfl rfl (S4 0 h)
            have h := h.2 hc1
            exact r_to [true, true, true, true, true, true, true, true, true] rfl rfl (S5 h)
        exact r_to [true, true, true, true, true, true, true, true, true] rfl rfl (S3 _ m_strongOver_1 m_strongOn_2 ((w.1 5) (Int.toNat ((w.1 25) (Int.toNat x3)))) (Nat.lt_succ_self _) hI3)
      have h := h.2 hc4
      refine r_goto (tgt := 127) (pc := 50) hC dX10_laysMarks_50 rfl ?_
      exact r_to [true, true, true, true, true, true, true, false, false] rfl rfl (S2 m_strongOver_1 m_strongOn_2 h)
  exact r_to [true, true, true, true, true, true, true, false, false] rfl rfl (S1 _ (w.1 36) (w.1 38) 0 (Nat.lt_succ_self _) hI1)
def wp_M_laysMarks_0_37_39 (m_wordFrom : (Nat → Int)) (m_wordTo : (Nat → Int)) (m_soft : (Nat → Int)) (m_matchItem : (Nat → Int)) (m_matchFirst : (Nat → Int)) (m_matchLast : (Nat → Int)) (m_softOver : (Nat → Int)) (m_softOn : (Nat → Int)) (m_matches : Int) (a1 : Int) (a2 : Int) (a3 : Int) (Q : (Nat → Int) → (Nat → Int) → Prop) : Prop := lpw3 (fun (m_softOver_1 : (Nat → Int)) (m_softOn_2 : (Nat → Int)) (x3 : Int) (k1 : (Nat → Int) → (Nat → Int) → Int → Prop) => (m_matches ≤ x3 → Q m_softOver_1 m_softOn_2) ∧ (¬ m_matches ≤ x3 → (0 ≤ x3 ∧ x3 < 800) ∧ ((0 ≤ (m_matchItem (Int.toNat x3)) ∧ (m_matchItem (Int.toNat x3)) < 8) ∧ (jn2 (fun (J2 : (Nat → Int) → (Nat → Int) → Prop) => (¬ (m_soft (Int.toNat (m_matchItem (Int.toNat x3)))) = a1 → J2 m_softOver_1 m_softOn_2) ∧ ((m_soft (Int.toNat (m_matchItem (Int.toNat x3)))) = a1 → (0 ≤ x3 ∧ x3 < 800) ∧ (((m_matchFirst (Int.toNat x3)) < a2 → J2 m_softOver_1 m_softOn_2) ∧ (¬ (m_matchFirst (Int.toNat x3)) < a2 → (0 ≤ x3 ∧ x3 < 800) ∧ (((m_matchLast (Int.toNat x3)) ≤ a3 → (0 ≤ x3 ∧ x3 < 800) ∧ ((0 ≤ (m_matchLast (Int.toNat x3)) ∧ (m_matchLast (Int.toNat x3)) < 100) ∧ ((0 ≤ x3 ∧ x3 < 800) ∧ ((0 ≤ (m_matchFirst (Int.toNat x3)) ∧ (m_matchFirst (Int.toNat x3)) < 100) ∧ (lpw3 (fun (m_softOver_6 : (Nat → Int)) (m_softOn_7 : (Nat → Int)) (x8 : Int) (k3 : (Nat → Int) → (Nat → Int) → Int → Prop) => ((m_wordTo (Int.toNat (m_matchLast (Int.toNat x3)))) ≤ x8 → J2 m_softOver_6 m_softOn_7) ∧ (¬ (m_wordTo (Int.toNat (m_matchLast (Int.toNat x3)))) ≤ x8 → (0 ≤ x8 ∧ x8 < 601) ∧ ((0 ≤ x8 ∧ x8 < 601) ∧ (jn1 (fun (J4 : Int → Prop) => jn0 (fun (J5 : Prop) => (¬ (m_softOn_7 (Int.toNat x8)) = 0 → J5) ∧ ((m_softOn_7 (Int.toNat x8)) = 0 → (rng (x8 + 1)) ∧ (((m_wordTo (Int.toNat (m_matchLast (Int.toNat x3)))) ≤ (x8 + 1) → J4 0) ∧ (¬ (m_wordTo (Int.toNat (m_matchLast (Int.toNat x3)))) ≤ (x8 + 1) → J5)))) (J4 1)) (fun (y9 : Int) => ((0 ≤ x8 ∧ x8 < 601) ∧ 0 ≤ y9 ∧ y9 ≤ 1) ∧ ((rng (x8 + 1)) ∧ (k3 (uI m_softOver_6 x8 1) (uI m_softOn_7 x8 y9) (x8 + 1)))))))) m_softOver_1 m_softOn_2 (m_wordFrom (Int.toNat (m_matchFirst (Int.toNat x3))))))))) ∧ (¬ (m_matchLast (Int.toNat x3)) ≤ a3 → J2 m_softOver_1 m_softOn_2)))))) (fun (m_softOver_4 : (Nat → Int)) (m_softOn_5 : (Nat → Int)) => (rng (x3 + 1)) ∧ (k1 m_softOver_4 m_softOn_5 (x3 + 1))))))) m_softOver m_softOn 0
set_option maxHeartbeats 4000000 in
set_option maxRecDepth 20000 in
theorem s_M_laysMarks_0_37_39 (l : Launch) (w : St) (a1 : Int) (a2 : Int) (a3 : Int) (P : (Nat → Int) → (Nat → Int) → Prop) (h : wp_M_laysMarks_0_37_39 (w.1 5) (w.1 6) (w.1 15) (w.1 24) (w.1 25) (w.1 26) (w.1 37) (w.1 39) (w.1 0 39) a1 a2 a3 P) : Cn l yX10_laysMarks cX10_laysMarks 9 none 0 LM w [aR 0, aI a1, aI a2, aI a3, aR 37, aR 39] (okV (fun w1 => ∃ (o0 : (Nat → Int)) (o1 : (Nat → Int)), w1 = (wA (wA w 37 o0) 39 o1) ∧ P o0 o1)) := by
  unfold wp_M_laysMarks_0_37_39 at h
  refine Cn.of2 [some (aR 0), some (aI a1), some (aI a2), some (aI a3), some (aR 37), some (aR 39), none, none, none] (by decide) (Nat.le_of_ble_eq_true rfl) rfl (fun p e s m args below meth c D cA ad A Q hQ hC hr hk => ?_)
  refine r_iconst (pc := 0) hC dX10_laysMarks_0 (rng_lit rfl) ?_
  refine r_istore (ls2 := [some (aR 0), some (aI a1), some (aI a2), some (aI a3), some (aR 37), some (aR 39), some (aI 0), none, none]) (pc := 1) hC dX10_laysMarks_1 (by decide) rfl rfl ?_
  obtain ⟨I1, μ1, hI1, hB1⟩ := h
  have S1 : ∀ (nn : Nat) (m_softOver_1 : (Nat → Int)) (m_softOn_2 : (Nat → Int)) (x3 : Int), μ1 m_softOver_1 m_softOn_2 x3 < nn → I1 m_softOver_1 m_softOn_2 x3 → Wd p l e (rmD 0) s m args below meth c Q 0 0 9 D cA ad A LM (wA (wA w 37 m_softOver_1) 39 m_softOn_2) 3 [some (aR 0), some (aI a1), some (aI a2), some (aI a3), some (aR 37), some (aR 39), some (aI x3), none, none] [] := by
    intro nn
    induction nn with
    | zero => intro m_softOver_1 m_softOn_2 x3 hn; exact absurd hn (Nat.not_lt_zero _)
    | succ nn ih1 =>
      intro m_softOver_1 m_softOn_2 x3 hn1 hi
      have h := hB1 m_softOver_1 m_softOn_2 x3 hi
      refine r_iload (pc := 3) hC dX10_laysMarks_3 rfl ?_
      refine r_aload_n (pc := 5) hC 0 dX10_laysMarks_5 rfl rfl ?_
      refine r_get (kd := 0) (v := (w.1 0 39)) (pc := 6) hC dX10_laysMarks_6 fl_RX10_277 lM_0 rfl rfl ?_
      refine r_ic_ge (pc := 9) (tgt := 133) hC dX10_laysMarks_9 rfl (fun hc7 => ?_) (fun hc7 => ?_)
      · have h := h.1 hc7
        refine r_conv (w2 := (wA (wA w 37 m_softOver_1) 39 m_softOn_2)) rfl ?_
        exact r_retv (pc := 133) hC hQ dX10_laysMarks_133 hr hk ⟨m_softOver_1, m_softOn_2, rfl, h⟩
      have h := h.2 hc7
      refine r_aload_n (pc := 12) hC 0 dX10_laysMarks_12 rfl rfl ?_
      refine r_getr (r := 15) (pc := 13) hC dX10_laysMarks_13 fl_RX10_54 lM_0 rfl ?_
      refine r_aload_n (pc := 16) hC 0 dX10_laysMarks_16 rfl rfl ?_
      refine r_getr (r := 24) (pc := 17) hC dX10_laysMarks_17 fl_RX10_85 lM_0 rfl ?_
      refine r_iload (pc := 20) hC dX10_laysMarks_20 rfl ?_
      refine r_iald (v := ((w.1 24) (Int.toNat x3))) (pc := 22) hC dX10_laysMarks_22 lM_24 h.1.1 h.1.2 rfl ?_
      have h := h.2
      refine r_zald (v := ((w.1 15) (Int.toNat ((w.1 24) (Int.toNat x3))))) (pc := 23) hC dX10_laysMarks_23 lM_15 h.1.1 h.1.2 rfl ?_
      have h := h.2
      refine r_iload_n (pc := 24) hC 1 dX10_laysMarks_24 rfl rfl ?_
      obtain ⟨J2, hJ2, h⟩ := h
      have S2 : ∀ (m_softOver_4 : (Nat → Int)) (m_softOn_5 : (Nat → Int)), J2 m_softOver_4 m_softOn_5 → Wd p l e (rmD 0) s m args below meth c Q 0 0 9 D cA ad A LM (wA (wA w 37 m_softOver_4) 39 m_softOn_5) 127 [some (aR 0), some (aI a1), some (aI a2), some (aI a3), some (aR 37), some (aR 39), some (aI x3), none, none] [] := by
        intro m_softOver_4 m_softOn_5 hj
        have h := hJ2 m_softOver_4 m_softOn_5 hj
        refine r_iinc (ls2 := [some (aR 0), some (aI a1), some (aI a2), some (aI a3), some (aR 37), some (aR 39), some (aI (x3 + 1)), none, none]) (pc := 127) hC dX10_laysMarks_127 rfl (by decide) rfl h.1 rfl ?_
        have h := h.2
        refine r_goto (tgt := 3) (pc := 130) hC dX10_laysMarks_130 rfl ?_
        exact r_to [true, true, true, true, true, true, true, false, false] rfl rfl (ih1 m_softOver_4 m_softOn_5 (x3 + 1) (Nat.lt_of_lt_of_le h.2 (Nat.le_of_lt_succ hn1)) h.1)
      refine r_ic_ne (pc := 25) (tgt := 127) hC dX10_laysMarks_25 rfl (fun hc6 => ?_) (fun hc6 => ?_)
      · have h := h.1 hc6
        exact r_to [true, true, true, true, true, true, true, false, false] rfl rfl (S2 m_softOver_1 m_softOn_2 h)
      have h := h.2 hc6
      refine r_aload_n (pc := 28) hC 0 dX10_laysMarks_28 rfl rfl ?_
      refine r_getr (r := 25) (pc := 29) hC dX10_laysMarks_29 fl_RX10_88 lM_0 rfl ?_
      refine r_iload (pc := 32) hC dX10_laysMarks_32 rfl ?_
      refine r_iald (v := ((w.1 25) (Int.toNat x3))) (pc := 34) hC dX10_laysMarks_34 lM_25 h.1.1 h.1.2 rfl ?_
      have h := h.2
      refine r_iload_n (pc := 35) hC 2 dX10_laysMarks_35 rfl rfl ?_
      refine r_ic_lt (pc := 36) (tgt := 127) hC dX10_laysMarks_36 rfl (fun hc5 => ?_) (fun hc5 => ?_)
      · have h := h.1 hc5
        exact r_to [true, true, true, true, true, true, true, false, false] rfl rfl (S2 m_softOver_1 m_softOn_2 h)
      have h := h.2 hc5
      refine r_aload_n (pc := 39) hC 0 dX10_laysMarks_39 rfl rfl ?_
      refine r_getr (r := 26) (pc := 40) hC dX10_laysMarks_40 fl_RX10_91 lM_0 rfl ?_
      refine r_iload (pc := 43) hC dX10_laysMarks_43 rfl ?_
      refine r_iald (v := ((w.1 26) (Int.toNat x3))) (pc := 45) hC dX10_laysMarks_45 lM_26 h.1.1 h.1.2 rfl ?_
      have h := h.2
      refine r_iload_n (pc := 46) hC 3 dX10_laysMarks_46 rfl rfl ?_
      refine r_ic_le (pc := 47) (tgt := 53) hC dX10_laysMarks_47 rfl (fun hc4 => ?_) (fun hc4 => ?_)
      · have h := h.1 hc4
        refine r_aload_n (pc := 53) hC 0 dX10_laysMarks_53 rfl rfl ?_
        refine r_getr (r := 6) (pc := 54) hC dX10_laysMarks_54 fl_RX10_26 lM_0 rfl ?_
        refine r_aload_n (pc := 57) hC 0 dX10_laysMarks_57 rfl rfl ?_
        refine r_getr (r := 26) (pc := 58) hC dX10_laysMarks_58 fl_RX10_91 lM_0 rfl ?_
        refine r_iload (pc := 61) hC dX10_laysMarks_61 rfl ?_
        refine r_iald (v := ((w.1 26) (Int.toNat x3))) (pc := 63) hC dX10_laysMarks_63 lM_26 h.1.1 h.1.2 rfl ?_
        have h := h.2
        refine r_iald (v := ((w.1 6) (Int.toNat ((w.1 26) (Int.toNat x3))))) (pc := 64) hC dX10_laysMarks_64 lM_6 h.1.1 h.1.2 rfl ?_
        have h := h.2
        refine r_istore (ls2 := [some (aR 0), some (aI a1), some (aI a2), some (aI a3), some (aR 37), some (aR 39), some (aI x3), some (aI ((w.1 6) (Int.toNat ((w.1 26) (Int.toNat x3))))), none]) (pc := 65) hC dX10_laysMarks_65 (by decide) rfl rfl ?_
        refine r_aload_n (pc := 67) hC 0 dX10_laysMarks_67 rfl rfl ?_
        refine r_getr (r := 5) (pc := 68) hC dX10_laysMarks_68 fl_RX10_23 lM_0 rfl ?_
        refine r_aload_n (pc := 71) hC 0 dX10_laysMarks_71 rfl rfl ?_
        refine r_getr (r := 25) (pc := 72) hC dX10_laysMarks_72 fl_RX10_88 lM_0 rfl ?_
        refine r_iload (pc := 75) hC dX10_laysMarks_75 rfl ?_
        refine r_iald (v := ((w.1 25) (Int.toNat x3))) (pc := 77) hC dX10_laysMarks_77 lM_25 h.1.1 h.1.2 rfl ?_
        have h := h.2
        refine r_iald (v := ((w.1 5) (Int.toNat ((w.1 25) (Int.toNat x3))))) (pc := 78) hC dX10_laysMarks_78 lM_5 h.1.1 h.1.2 rfl ?_
        have h := h.2
        refine r_istore (ls2 := [some (aR 0), some (aI a1), some (aI a2), some (aI a3), some (aR 37), some (aR 39), some (aI x3), some (aI ((w.1 6) (Int.toNat ((w.1 26) (Int.toNat x3))))), some (aI ((w.1 5) (Int.toNat ((w.1 25) (Int.toNat x3)))))]) (pc := 79) hC dX10_laysMarks_79 (by decide) rfl rfl ?_
        obtain ⟨I3, μ3, hI3, hB3⟩ := h
        have S3 : ∀ (nn : Nat) (m_softOver_6 : (Nat → Int)) (m_softOn_7 : (Nat → Int)) (x8 : Int), μ3 m_softOver_6 m_softOn_7 x8 < nn → I3 m_softOver_6 m_softOn_7 x8 → Wd p l e (rmD 0) s m args below meth c Q 0 0 9 D cA ad A LM (wA (wA w 37 m_softOver_6) 39 m_softOn_7) 81 [some (aR 0), some (aI a1), some (aI a2), some (aI a3), some (aR 37), some (aR 39), some (aI x3), some (aI ((w.1 6) (Int.toNat ((w.1 26) (Int.toNat x3))))), some (aI x8)] [] := by
          intro nn
          induction nn with
          | zero => intro m_softOver_6 m_softOn_7 x8 hn; exact absurd hn (Nat.not_lt_zero _)
          | succ nn ih3 =>
            intro m_softOver_6 m_softOn_7 x8 hn3 hi
            have h := hB3 m_softOver_6 m_softOn_7 x8 hi
            refine r_iload (pc := 81) hC dX10_laysMarks_81 rfl ?_
            refine r_iload (pc := 83) hC dX10_laysMarks_83 rfl ?_
            refine r_ic_ge (pc := 85) (tgt := 127) hC dX10_laysMarks_85 rfl (fun hc3 => ?_) (fun hc3 => ?_)
            · have h := h.1 hc3
              exact r_to [true, true, true, true, true, true, true, false, false] rfl rfl (S2 m_softOver_6 m_softOn_7 h)
            have h := h.2 hc3
            refine r_aload (pc := 88) hC dX10_laysMarks_88 rfl ?_
            refine r_iload (pc := 90) hC dX10_laysMarks_90 rfl ?_
            refine r_iconst (pc := 92) hC dX10_laysMarks_92 (rng_lit rfl) ?_
            refine r_zast (pc := 93) hC dX10_laysMarks_93 lM_37 h.1.1 h.1.2 okK1_1 ?_
            have h := h.2
            refine r_aload (pc := 94) hC dX10_laysMarks_94 rfl ?_
            refine r_iload (pc := 96) hC dX10_laysMarks_96 rfl ?_
            refine r_aload (pc := 98) hC dX10_laysMarks_98 rfl ?_
            refine r_iload (pc := 100) hC dX10_laysMarks_100 rfl ?_
            refine r_zald (v := (m_softOn_7 (Int.toNat x8))) (pc := 102) hC dX10_laysMarks_102 lM_39 h.1.1 h.1.2 rfl ?_
            have h := h.2
            obtain ⟨J4, hJ4, h⟩ := h
            have S4 : ∀ (y9 : Int), J4 y9 → Wd p l e (rmD 0) s m args below meth c Q 0 0 9 D cA ad A LM (wA (wA w 37 (uI m_softOver_6 x8 1)) 39 m_softOn_7) 120 [some (aR 0), some (aI a1), some (aI a2), some (aI a3), some (aR 37), some (aR 39), some (aI x3), some (aI ((w.1 6) (Int.toNat ((w.1 26) (Int.toNat x3))))), some (aI x8)] [aI y9, aI x8, aR 39] := by
              intro y9 hj
              have h := hJ4 y9 hj
              refine r_zast (pc := 120) hC dX10_laysMarks_120 lM_39 h.1.1.1 h.1.1.2 h.1.2 ?_
              have h := h.2
              refine r_iinc (ls2 := [some (aR 0), some (aI a1), some (aI a2), some (aI a3), some (aR 37), some (aR 39), some (aI x3), some (aI ((w.1 6) (Int.toNat ((w.1 26) (Int.toNat x3))))), some (aI (x8 + 1))]) (pc := 121) hC dX10_laysMarks_121 rfl (by decide) rfl h.1 rfl ?_
              have h := h.2
              refine r_goto (tgt := 81) (pc := 124) hC dX10_laysMarks_124 rfl ?_
              exact r_to [true, true, true, true, true, true, true, true, true] rfl rfl (ih3 (uI m_softOver_6 x8 1) (uI m_softOn_7 x8 y9) (x8 + 1) (Nat.lt_of_lt_of_le h.2 (Nat.le_of_lt_succ hn3)) h.1)
            obtain ⟨J5, hJ5, h⟩ := h
            have S5 : J5 → Wd p l e (rmD 0) s m args below meth c Q 0 0 9 D cA ad A LM (wA (wA w 37 (uI m_softOver_6 x8 1)) 39 m_softOn_7) 115 [some (aR 0), some (aI a1), some (aI a2), some (aI a3), some (aR 37), some (aR 39), some (aI x3), some (aI ((w.1 6) (Int.toNat ((w.1 26) (Int.toNat x3))))), some (aI x8)] [aI x8, aR 39] := by
              intro hj
              have h := hJ5 hj
              refine r_iconst (pc := 115) hC dX10_laysMarks_115 (rng_lit rfl) ?_
              refine r_goto (tgt := 120) (pc := 116) hC dX10_laysMarks_116 rfl ?_
              exact r_to [true, true, true, true, true, true, true, true, true] rfl rfl (S4 1 h)
            refine r_if_ne (pc := 103) (tgt := 115) hC dX10_laysMarks_103 rfl (fun hc2 => ?_) (fun hc2 => ?_)
            · have h := h.1 hc2
              exact r_to [true, true, true, true, true, true, true, true, true] rfl rfl (S5 h)
            have h := h.2 hc2
            refine r_iload (pc := 106) hC dX10_laysMarks_106 rfl ?_
            refine r_iconst (pc := 108) hC dX10_laysMarks_108 (rng_lit rfl) ?_
            refine r_iadd (pc := 109) hC dX10_laysMarks_109 h.1 ?_
            have h := h.2
            refine r_iload (pc := 110) hC dX10_laysMarks_110 rfl ?_
            refine r_ic_ge (pc := 112) (tgt := 119) hC dX10_laysMarks_112 rfl (fun hc1 => ?_) (fun hc1 => ?_)
            · have h := h.1 hc1
              refine r_iconst (pc := 119) hC dX10_laysMarks_119 (rng_lit rfl) ?_
              exact r_to [true, true, true, true, true, true, true, true, true] rfl rfl (S4 0 h)
            have h := h.2 hc1
            exact r_to [true, true, true, true, true, true, true, true, true] rfl rfl (S5 h)
        exact r_to [true, true, true, true, true, true, true, true, true] rfl rfl (S3 _ m_softOver_1 m_softOn_2 ((w.1 5) (Int.toNat ((w.1 25) (Int.toNat x3)))) (Nat.lt_succ_self _) hI3)
      have h := h.2 hc4
      refine r_goto (tgt := 127) (pc := 50) hC dX10_laysMarks_50 rfl ?_
      exact r_to [true, true, true, true, true, true, true, false, false] rfl rfl (S2 m_softOver_1 m_softOn_2 h)
  exact r_to [true, true, true, true, true, true, true, false, false] rfl rfl (S1 _ (w.1 37) (w.1 39) 0 (Nat.lt_succ_self _) hI1)
def wp_M_merges_0_36_38 (m_page : (Nat → Int)) (m_signAt : (Nat → Int)) (m_strongOver : (Nat → Int)) (m_strongOn : (Nat → Int)) (m_signs : Int) (a1 : Int) (a2 : Int) (Q : (Nat → Int) → (Nat → Int) → Prop) : Prop := lpw3 (fun (m_strongOver_1 : (Nat → Int)) (m_strongOn_2 : (Nat → Int)) (x3 : Int) (k1 : (Nat → Int) → (Nat → Int) → Int → Prop) => (a2 ≤ x3 → Q m_strongOver_1 m_strongOn_2) ∧ (¬ a2 ≤ x3 → (0 ≤ x3 ∧ x3 < 601) ∧ (jn2 (fun (J2 : (Nat → Int) → (Nat → Int) → Prop) => ((m_strongOver_1 (Int.toNat x3)) = 0 → J2 m_strongOver_1 m_strongOn_2) ∧ (¬ (m_strongOver_1 (Int.toNat x3)) = 0 → (0 ≤ x3 ∧ x3 < 601) ∧ (((m_strongOn_2 (Int.toNat x3)) = 0 → (rng (x3 + 1)) ∧ (lpw1 (fun (x6 : Int) (k3 : Int → Prop) => jn0 (fun (J4 : Prop) => (a2 ≤ x6 → J4) ∧ (¬ a2 ≤ x6 → wp_M_isBlank m_page m_signAt m_signs x6 (fun (r10 : Int) => (r10 = 0 → J4) ∧ (¬ r10 = 0 → (0 ≤ x6 ∧ x6 < 601) ∧ ((¬ (m_strongOver_1 (Int.toNat x6)) = 0 → J4) ∧ ((m_strongOver_1 (Int.toNat x6)) = 0 → (rng (x6 + 1)) ∧ (k3 (x6 + 1)))))))) ((a2 ≤ x6 → J2 m_strongOver_1 m_strongOn_2) ∧ (¬ a2 ≤ x6 → (0 ≤ x6 ∧ x6 < 601) ∧ ((¬ (m_strongOver_1 (Int.toNat x6)) = 0 → lpw3 (fun (m_strongOver_7 : (Nat → Int)) (m_strongOn_8 : (Nat → Int)) (x9 : Int) (k5 : (Nat → Int) → (Nat → Int) → Int → Prop) => (x6 ≤ x9 → J2 m_strongOver_7 m_strongOn_8) ∧ (¬ x6 ≤ x9 → (0 ≤ x9 ∧ x9 < 601) ∧ ((0 ≤ x9 ∧ x9 < 601) ∧ ((rng (x9 + 1)) ∧ (k5 (uI m_strongOver_7 x9 1) (uI m_strongOn_8 x9 1) (x9 + 1)))))) m_strongOver_1 m_strongOn_2 x3) ∧ ((m_strongOver_1 (Int.toNat x6)) = 0 → J2 m_strongOver_1 m_strongOn_2))))) (x3 + 1))) ∧ (¬ (m_strongOn_2 (Int.toNat x3)) = 0 → J2 m_strongOver_1 m_strongOn_2)))) (fun (m_strongOver_4 : (Nat → Int)) (m_strongOn_5 : (Nat → Int)) => (rng (x3 + 1)) ∧ (k1 m_strongOver_4 m_strongOn_5 (x3 + 1)))))) m_strongOver m_strongOn a1
set_option maxHeartbeats 4000000 in
set_option maxRecDepth 20000 in
theorem s_M_merges_0_36_38 (l : Launch) (w : St) (a1 : Int) (a2 : Int) (P : (Nat → Int) → (Nat → Int) → Prop) (h : wp_M_merges_0_36_38 (w.1 3) (w.1 4) (w.1 36) (w.1 38) (w.1 0 7) a1 a2 P) : Cn l yX10_merges cX10_merges 8 none 3 LM w [aR 0, aI a1, aI a2, aR 36, aR 38] (okV (fun w1 => ∃ (o0 : (Nat → Int)) (o1 : (Nat → Int)), w1 = (wA (wA w 36 o0) 38 o1) ∧ P o0 o1)) := by
  unfold wp_M_merges_0_36_38 at h
  refine Cn.of2 [some (aR 0), some (aI a1), some (aI a2), some (aR 36), some (aR 38), none, none, none] (by decide) (Nat.le_of_ble_eq_true rfl) rfl (fun p e s m args below meth c D cA ad A Q hQ hC hr hk => ?_)
  refine r_iload_n (pc := 0) hC 1 dX10_merges_0 rfl rfl ?_
  refine r_istore (ls2 := [some (aR 0), some (aI a1), some (aI a2), some (aR 36), some (aR 38), some (aI a1), none, none]) (pc := 1) hC dX10_merges_1 (by decide) rfl rfl ?_
  obtain ⟨I1, μ1, hI1, hB1⟩ := h
  have S1 : ∀ (nn : Nat) (m_strongOver_1 : (Nat → Int)) (m_strongOn_2 : (Nat → Int)) (x3 : Int), μ1 m_strongOver_1 m_strongOn_2 x3 < nn → I1 m_strongOver_1 m_strongOn_2 x3 → Wd p l e (rmD 3) s m args below meth c Q 0 0 8 D cA ad A LM (wA (wA w 36 m_strongOver_1) 38 m_strongOn_2) 3 [some (aR 0), none, some (aI a2), some (aR 36), some (aR 38), some (aI x3), none, none] [] := by
    intro nn
    induction nn with
    | zero => intro m_strongOver_1 m_strongOn_2 x3 hn; exact absurd hn (Nat.not_lt_zero _)
    | succ nn ih1 =>
      intro m_strongOver_1 m_strongOn_2 x3 hn1 hi
      have h := hB1 m_strongOver_1 m_strongOn_2 x3 hi
      refine r_iload (pc := 3) hC dX10_merges_3 rfl ?_
      refine r_iload_n (pc := 5) hC 2 dX10_merges_5 rfl rfl ?_
      refine r_ic_ge (pc := 6) (tgt := 111) hC dX10_merges_6 rfl (fun hc9 => ?_) (fun hc9 => ?_)
      · have h := h.1 hc9
        refine r_conv (w2 := (wA (wA w 36 m_strongOver_1) 38 m_strongOn_2)) rfl ?_
        exact r_retv (pc := 111) hC hQ dX10_merges_111 hr hk ⟨m_strongOver_1, m_strongOn_2, rfl, h⟩
      have h := h.2 hc9
      refine r_aload_n (pc := 9) hC 3 dX10_merges_9 rfl rfl ?_
      refine r_iload (pc := 10) hC dX10_merges_10 rfl ?_
      refine r_zald (v := (m_strongOver_1 (Int.toNat x3))) (pc := 12) hC dX10_merges_12 lM_36 h.1.1 h.1.2 rfl ?_
      have h := h.2
      obtain ⟨J2, hJ2, h⟩ := h
      have S2 : ∀ (m_strongOver_4 : (Nat → Int)) (m_strongOn_5 : (Nat → Int)), J2 m_strongOver_4 m_strongOn_5 → Wd p l e (rmD 3) s m args below meth c Q 0 0 8 D cA ad A LM (wA (wA w 36 m_strongOver_4) 38 m_strongOn_5) 105 [some (aR 0), none, some (aI a2), some (aR 36), some (aR 38), some (aI x3), none, none] [] := by
        intro m_strongOver_4 m_strongOn_5 hj
        have h := hJ2 m_strongOver_4 m_strongOn_5 hj
        refine r_iinc (ls2 := [some (aR 0), none, some (aI a2), some (aR 36), some (aR 38), some (aI (x3 + 1)), none, none]) (pc := 105) hC dX10_merges_105 rfl (by decide) rfl h.1 rfl ?_
        have h := h.2
        refine r_goto (tgt := 3) (pc := 108) hC dX10_merges_108 rfl ?_
        exact r_to [true, false, true, true, true, true, false, false] rfl rfl (ih1 m_strongOver_4 m_strongOn_5 (x3 + 1) (Nat.lt_of_lt_of_le h.2 (Nat.le_of_lt_succ hn1)) h.1)
      refine r_if_eq (pc := 13) (tgt := 105) hC dX10_merges_13 rfl (fun hc8 => ?_) (fun hc8 => ?_)
      · have h := h.1 hc8
        exact r_to [true, false, true, true, true, true, false, false] rfl rfl (S2 m_strongOver_1 m_strongOn_2 h)
      have h := h.2 hc8
      refine r_aload (pc := 16) hC dX10_merges_16 rfl ?_
      refine r_iload (pc := 18) hC dX10_merges_18 rfl ?_
      refine r_zald (v := (m_strongOn_2 (Int.toNat x3))) (pc := 20) hC dX10_merges_20 lM_38 h.1.1 h.1.2 rfl ?_
      have h := h.2
      refine r_if_eq (pc := 21) (tgt := 27) hC dX10_merges_21 rfl (fun hc7 => ?_) (fun hc7 => ?_)
      · have h := h.1 hc7
        refine r_iload (pc := 27) hC dX10_merges_27 rfl ?_
        refine r_iconst (pc := 29) hC dX10_merges_29 (rng_lit rfl) ?_
        refine r_iadd (pc := 30) hC dX10_merges_30 h.1 ?_
        have h := h.2
        refine r_istore (ls2 := [some (aR 0), none, some (aI a2), some (aR 36), some (aR 38), some (aI x3), some (aI (x3 + 1)), none]) (pc := 31) hC dX10_merges_31 (by decide) rfl rfl ?_
        obtain ⟨I3, μ3, hI3, hB3⟩ := h
        have S3 : ∀ (nn : Nat) (x6 : Int), μ3 x6 < nn → I3 x6 → Wd p l e (rmD 3) s m args below meth c Q 0 0 8 D cA ad A LM (wA (wA w 36 m_strongOver_1) 38 m_strongOn_2) 33 [some (aR 0), none, some (aI a2), some (aR 36), some (aR 38), some (aI x3), some (aI x6), none] [] := by
          intro nn
          induction nn with
          | zero => intro x6 hn; exact absurd hn (Nat.not_lt_zero _)
          | succ nn ih3 =>
            intro x6 hn3 hi
            have h := hB3 x6 hi
            refine r_iload (pc := 33) hC dX10_merges_33 rfl ?_
            refine r_iload_n (pc := 35) hC 2 dX10_merges_35 rfl rfl ?_
            obtain ⟨J4, hJ4, h⟩ := h
            have S4 : J4 → Wd p l e (rmD 3) s m args below meth c Q 0 0 8 D cA ad A LM (wA (wA w 36 m_strongOver_1) 38 m_strongOn_2) 61 [some (aR 0), none, some (aI a2), some (aR 36), some (aR 38), some (aI x3), some (aI x6), none] [] := by
              intro hj
              have h := hJ4 hj
              refine r_iload (pc := 61) hC dX10_merges_61 rfl ?_
              refine r_iload_n (pc := 63) hC 2 dX10_merges_63 rfl rfl ?_
              refine r_ic_ge (pc := 64) (tgt := 105) hC dX10_merges_64 rfl (fun hc3 => ?_) (fun hc3 => ?_)
              · have h := h.1 hc3
                exact r_to [true, false, true, true, true, true, false, false] rfl rfl (S2 m_strongOver_1 m_strongOn_2 h)
              have h := h.2 hc3
              refine r_aload_n (pc := 67) hC 3 dX10_merges_67 rfl rfl ?_
              refine r_iload (pc := 68) hC dX10_merges_68 rfl ?_
              refine r_zald (v := (m_strongOver_1 (Int.toNat x6))) (pc := 70) hC dX10_merges_70 lM_36 h.1.1 h.1.2 rfl ?_
              have h := h.2
              refine r_if_ne (pc := 71) (tgt := 77) hC dX10_merges_71 rfl (fun hc2 => ?_) (fun hc2 => ?_)
              · have h := h.1 hc2
                refine r_iload (pc := 77) hC dX10_merges_77 rfl ?_
                refine r_istore (ls2 := [some (aR 0), none, some (aI a2), some (aR 36), some (aR 38), some (aI x3), some (aI x6), some (aI x3)]) (pc := 79) hC dX10_merges_79 (by decide) rfl rfl ?_
                obtain ⟨I5, μ5, hI5, hB5⟩ := h
                have S5 : ∀ (nn : Nat) (m_strongOver_7 : (Nat → Int)) (m_strongOn_8 : (Nat → Int)) (x9 : Int), μ5 m_strongOver_7 m_strongOn_8 x9 < nn → I5 m_strongOver_7 m_strongOn_8 x9 → Wd p l e (rmD 3) s m args below meth c Q 0 0 8 D cA ad A LM (wA (wA w 36 m_strongOver_7) 38 m_strongOn_8) 81 [some (aR 0), none, some (aI a2), some (aR 36), some (aR 38), some (aI x3), some (aI x6), some (aI x9)] [] := by
                  intro nn
                  induction nn with
                  | zero => intro m_strongOver_7 m_strongOn_8 x9 hn; exact absurd hn (Nat.not_lt_zero _)
                  | succ nn ih5 =>
                    intro m_strongOver_7 m_strongOn_8 x9 hn5 hi
                    have h := hB5 m_strongOver_7 m_strongOn_8 x9 hi
                    refine r_iload (pc := 81) hC dX10_merges_81 rfl ?_
                    refine r_iload (pc := 83) hC dX10_merges_83 rfl ?_
                    refine r_ic_ge (pc := 85) (tgt := 105) hC dX10_merges_85 rfl (fun hc1 => ?_) (fun hc1 => ?_)
                    · have h := h.1 hc1
                      exact r_to [true, false, true, true, true, true, false, false] rfl rfl (S2 m_strongOver_7 m_strongOn_8 h)
                    have h := h.2 hc1
                    refine r_aload_n (pc := 88) hC 3 dX10_merges_88 rfl rfl ?_
                    refine r_iload (pc := 89) hC dX10_merges_89 rfl ?_
                    refine r_iconst (pc := 91) hC dX10_merges_91 (rng_lit rfl) ?_
                    refine r_zast (pc := 92) hC dX10_merges_92 lM_36 h.1.1 h.1.2 okK1_1 ?_
                    have h := h.2
                    refine r_aload (pc := 93) hC dX10_merges_93 rfl ?_
                    refine r_iload (pc := 95) hC dX10_merges_95 rfl ?_
                    refine r_iconst (pc := 97) hC dX10_merges_97 (rng_lit rfl) ?_
                    refine r_zast (pc := 98) hC dX10_merges_98 lM_38 h.1.1 h.1.2 okK1_1 ?_
                    have h := h.2
                    refine r_iinc (ls2 := [some (aR 0), none, some (aI a2), some (aR 36), some (aR 38), some (aI x3), some (aI x6), some (aI (x9 + 1))]) (pc := 99) hC dX10_merges_99 rfl (by decide) rfl h.1 rfl ?_
                    have h := h.2
                    refine r_goto (tgt := 81) (pc := 102) hC dX10_merges_102 rfl ?_
                    exact r_to [true, false, true, true, true, true, true, true] rfl rfl (ih5 (uI m_strongOver_7 x9 1) (uI m_strongOn_8 x9 1) (x9 + 1) (Nat.lt_of_lt_of_le h.2 (Nat.le_of_lt_succ hn5)) h.1)
                exact r_to [true, false, true, true, true, true, true, true] rfl rfl (S5 _ m_strongOver_1 m_strongOn_2 x3 (Nat.lt_succ_self _) hI5)
              have h := h.2 hc2
              refine r_goto (tgt := 105) (pc := 74) hC dX10_merges_74 rfl ?_
              exact r_to [true, false, true, true, true, true, false, false] rfl rfl (S2 m_strongOver_1 m_strongOn_2 h)
            refine r_ic_ge (pc := 36) (tgt := 61) hC dX10_merges_36 rfl (fun hc6 => ?_) (fun hc6 => ?_)
            · have h := h.1 hc6
              exact r_to [true, false, true, true, true, true, true, false] rfl rfl (S4 h)
            have h := h.2 hc6
            refine r_aload_n (pc := 39) hC 0 dX10_merges_39 rfl rfl ?_
            refine r_iload (pc := 40) hC dX10_merges_40 rfl ?_
            refine r_callVi (pc := 42) hC [aI x6] [] dX10_merges_42 ml_RX10_200 my_X10_isBlank mi_X10_isBlank lM_0 rfl rfl ⟨Nat.le_of_ble_eq_true rfl, Nat.le_of_ble_eq_true rfl⟩ ⟨Nat.le_of_ble_eq_true rfl, Nat.le_of_ble_eq_true rfl⟩ (Nat.le_of_ble_eq_true rfl) rfl (s_M_isBlank l _ _ _ h) (fun r10 w1 hq => ?_)
            obtain ⟨e9, h⟩ := hq
            rw [e9]
            refine r_if_eq (pc := 45) (tgt := 61) hC dX10_merges_45 rfl (fun hc5 => ?_) (fun hc5 => ?_)
            · have h := h.1 hc5
              exact r_to [true, false, true, true, true, true, true, false] rfl rfl (S4 h)
            have h := h.2 hc5
            refine r_aload_n (pc := 48) hC 3 dX10_merges_48 rfl rfl ?_
            refine r_iload (pc := 49) hC dX10_merges_49 rfl ?_
            refine r_zald (v := (m_strongOver_1 (Int.toNat x6))) (pc := 51) hC dX10_merges_51 lM_36 h.1.1 h.1.2 rfl ?_
            have h := h.2
            refine r_if_ne (pc := 52) (tgt := 61) hC dX10_merges_52 rfl (fun hc4 => ?_) (fun hc4 => ?_)
            · have h := h.1 hc4
              exact r_to [true, false, true, true, true, true, true, false] rfl rfl (S4 h)
            have h := h.2 hc4
            refine r_iinc (ls2 := [some (aR 0), none, some (aI a2), some (aR 36), some (aR 38), some (aI x3), some (aI (x6 + 1)), none]) (pc := 55) hC dX10_merges_55 rfl (by decide) rfl h.1 rfl ?_
            have h := h.2
            refine r_goto (tgt := 33) (pc := 58) hC dX10_merges_58 rfl ?_
            exact r_to [true, false, true, true, true, true, true, false] rfl rfl (ih3 (x6 + 1) (Nat.lt_of_lt_of_le h.2 (Nat.le_of_lt_succ hn3)) h.1)
        exact r_to [true, false, true, true, true, true, true, false] rfl rfl (S3 _ (x3 + 1) (Nat.lt_succ_self _) hI3)
      have h := h.2 hc7
      refine r_goto (tgt := 105) (pc := 24) hC dX10_merges_24 rfl ?_
      exact r_to [true, false, true, true, true, true, false, false] rfl rfl (S2 m_strongOver_1 m_strongOn_2 h)
  exact r_to [true, false, true, true, true, true, false, false] rfl rfl (S1 _ (w.1 36) (w.1 38) a1 (Nat.lt_succ_self _) hI1)
def wp_M_merges_0_37_39 (m_page : (Nat → Int)) (m_signAt : (Nat → Int)) (m_softOver : (Nat → Int)) (m_softOn : (Nat → Int)) (m_signs : Int) (a1 : Int) (a2 : Int) (Q : (Nat → Int) → (Nat → Int) → Prop) : Prop := lpw3 (fun (m_softOver_1 : (Nat → Int)) (m_softOn_2 : (Nat → Int)) (x3 : Int) (k1 : (Nat → Int) → (Nat → Int) → Int → Prop) => (a2 ≤ x3 → Q m_softOver_1 m_softOn_2) ∧ (¬ a2 ≤ x3 → (0 ≤ x3 ∧ x3 < 601) ∧ (jn2 (fun (J2 : (Nat → Int) → (Nat → Int) → Prop) => ((m_softOver_1 (Int.toNat x3)) = 0 → J2 m_softOver_1 m_softOn_2) ∧ (¬ (m_softOver_1 (Int.toNat x3)) = 0 → (0 ≤ x3 ∧ x3 < 601) ∧ (((m_softOn_2 (Int.toNat x3)) = 0 → (rng (x3 + 1)) ∧ (lpw1 (fun (x6 : Int) (k3 : Int → Prop) => jn0 (fun (J4 : Prop) => (a2 ≤ x6 → J4) ∧ (¬ a2 ≤ x6 → wp_M_isBlank m_page m_signAt m_signs x6 (fun (r10 : Int) => (r10 = 0 → J4) ∧ (¬ r10 = 0 → (0 ≤ x6 ∧ x6 < 601) ∧ ((¬ (m_softOver_1 (Int.toNat x6)) = 0 → J4) ∧ ((m_softOver_1 (Int.toNat x6)) = 0 → (rng (x6 + 1)) ∧ (k3 (x6 + 1)))))))) ((a2 ≤ x6 → J2 m_softOver_1 m_softOn_2) ∧ (¬ a2 ≤ x6 → (0 ≤ x6 ∧ x6 < 601) ∧ ((¬ (m_softOver_1 (Int.toNat x6)) = 0 → lpw3 (fun (m_softOver_7 : (Nat → Int)) (m_softOn_8 : (Nat → Int)) (x9 : Int) (k5 : (Nat → Int) → (Nat → Int) → Int → Prop) => (x6 ≤ x9 → J2 m_softOver_7 m_softOn_8) ∧ (¬ x6 ≤ x9 → (0 ≤ x9 ∧ x9 < 601) ∧ ((0 ≤ x9 ∧ x9 < 601) ∧ ((rng (x9 + 1)) ∧ (k5 (uI m_softOver_7 x9 1) (uI m_softOn_8 x9 1) (x9 + 1)))))) m_softOver_1 m_softOn_2 x3) ∧ ((m_softOver_1 (Int.toNat x6)) = 0 → J2 m_softOver_1 m_softOn_2))))) (x3 + 1))) ∧ (¬ (m_softOn_2 (Int.toNat x3)) = 0 → J2 m_softOver_1 m_softOn_2)))) (fun (m_softOver_4 : (Nat → Int)) (m_softOn_5 : (Nat → Int)) => (rng (x3 + 1)) ∧ (k1 m_softOver_4 m_softOn_5 (x3 + 1)))))) m_softOver m_softOn a1
set_option maxHeartbeats 4000000 in
set_option maxRecDepth 20000 in
theorem s_M_merges_0_37_39 (l : Launch) (w : St) (a1 : Int) (a2 : Int) (P : (Nat → Int) → (Nat → Int) → Prop) (h : wp_M_merges_0_37_39 (w.1 3) (w.1 4) (w.1 37) (w.1 39) (w.1 0 7) a1 a2 P) : Cn l yX10_merges cX10_merges 8 none 3 LM w [aR 0, aI a1, aI a2, aR 37, aR 39] (okV (fun w1 => ∃ (o0 : (Nat → Int)) (o1 : (Nat → Int)), w1 = (wA (wA w 37 o0) 39 o1) ∧ P o0 o1)) := by
  unfold wp_M_merges_0_37_39 at h
  refine Cn.of2 [some (aR 0), some (aI a1), some (aI a2), some (aR 37), some (aR 39), none, none, none] (by decide) (Nat.le_of_ble_eq_true rfl) rfl (fun p e s m args below meth c D cA ad A Q hQ hC hr hk => ?_)
  refine r_iload_n (pc := 0) hC 1 dX10_merges_0 rfl rfl ?_
  refine r_istore (ls2 := [some (aR 0), some (aI a1), some (aI a2), some (aR 37), some (aR 39), some (aI a1), none, none]) (pc := 1) hC dX10_merges_1 (by decide) rfl rfl ?_
  obtain ⟨I1, μ1, hI1, hB1⟩ := h
  have S1 : ∀ (nn : Nat) (m_softOver_1 : (Nat → Int)) (m_softOn_2 : (Nat → Int)) (x3 : Int), μ1 m_softOver_1 m_softOn_2 x3 < nn → I1 m_softOver_1 m_softOn_2 x3 → Wd p l e (rmD 3) s m args below meth c Q 0 0 8 D cA ad A LM (wA (wA w 37 m_softOver_1) 39 m_softOn_2) 3 [some (aR 0), none, some (aI a2), some (aR 37), some (aR 39), some (aI x3), none, none] [] := by
    intro nn
    induction nn with
    | zero => intro m_softOver_1 m_softOn_2 x3 hn; exact absurd hn (Nat.not_lt_zero _)
    | succ nn ih1 =>
      intro m_softOver_1 m_softOn_2 x3 hn1 hi
      have h := hB1 m_softOver_1 m_softOn_2 x3 hi
      refine r_iload (pc := 3) hC dX10_merges_3 rfl ?_
      refine r_iload_n (pc := 5) hC 2 dX10_merges_5 rfl rfl ?_
      refine r_ic_ge (pc := 6) (tgt := 111) hC dX10_merges_6 rfl (fun hc9 => ?_) (fun hc9 => ?_)
      · have h := h.1 hc9
        refine r_conv (w2 := (wA (wA w 37 m_softOver_1) 39 m_softOn_2)) rfl ?_
        exact r_retv (pc := 111) hC hQ dX10_merges_111 hr hk ⟨m_softOver_1, m_softOn_2, rfl, h⟩
      have h := h.2 hc9
      refine r_aload_n (pc := 9) hC 3 dX10_merges_9 rfl rfl ?_
      refine r_iload (pc := 10) hC dX10_merges_10 rfl ?_
      refine r_zald (v := (m_softOver_1 (Int.toNat x3))) (pc := 12) hC dX10_merges_12 lM_37 h.1.1 h.1.2 rfl ?_
      have h := h.2
      obtain ⟨J2, hJ2, h⟩ := h
      have S2 : ∀ (m_softOver_4 : (Nat → Int)) (m_softOn_5 : (Nat → Int)), J2 m_softOver_4 m_softOn_5 → Wd p l e (rmD 3) s m args below meth c Q 0 0 8 D cA ad A LM (wA (wA w 37 m_softOver_4) 39 m_softOn_5) 105 [some (aR 0), none, some (aI a2), some (aR 37), some (aR 39), some (aI x3), none, none] [] := by
        intro m_softOver_4 m_softOn_5 hj
        have h := hJ2 m_softOver_4 m_softOn_5 hj
        refine r_iinc (ls2 := [some (aR 0), none, some (aI a2), some (aR 37), some (aR 39), some (aI (x3 + 1)), none, none]) (pc := 105) hC dX10_merges_105 rfl (by decide) rfl h.1 rfl ?_
        have h := h.2
        refine r_goto (tgt := 3) (pc := 108) hC dX10_merges_108 rfl ?_
        exact r_to [true, false, true, true, true, true, false, false] rfl rfl (ih1 m_softOver_4 m_softOn_5 (x3 + 1) (Nat.lt_of_lt_of_le h.2 (Nat.le_of_lt_succ hn1)) h.1)
      refine r_if_eq (pc := 13) (tgt := 105) hC dX10_merges_13 rfl (fun hc8 => ?_) (fun hc8 => ?_)
      · have h := h.1 hc8
        exact r_to [true, false, true, true, true, true, false, false] rfl rfl (S2 m_softOver_1 m_softOn_2 h)
      have h := h.2 hc8
      refine r_aload (pc := 16) hC dX10_merges_16 rfl ?_
      refine r_iload (pc := 18) hC dX10_merges_18 rfl ?_
      refine r_zald (v := (m_softOn_2 (Int.toNat x3))) (pc := 20) hC dX10_merges_20 lM_39 h.1.1 h.1.2 rfl ?_
      have h := h.2
      refine r_if_eq (pc := 21) (tgt := 27) hC dX10_merges_21 rfl (fun hc7 => ?_) (fun hc7 => ?_)
      · have h := h.1 hc7
        refine r_iload (pc := 27) hC dX10_merges_27 rfl ?_
        refine r_iconst (pc := 29) hC dX10_merges_29 (rng_lit rfl) ?_
        refine r_iadd (pc := 30) hC dX10_merges_30 h.1 ?_
        have h := h.2
        refine r_istore (ls2 := [some (aR 0), none, some (aI a2), some (aR 37), some (aR 39), some (aI x3), some (aI (x3 + 1)), none]) (pc := 31) hC dX10_merges_31 (by decide) rfl rfl ?_
        obtain ⟨I3, μ3, hI3, hB3⟩ := h
        have S3 : ∀ (nn : Nat) (x6 : Int), μ3 x6 < nn → I3 x6 → Wd p l e (rmD 3) s m args below meth c Q 0 0 8 D cA ad A LM (wA (wA w 37 m_softOver_1) 39 m_softOn_2) 33 [some (aR 0), none, some (aI a2), some (aR 37), some (aR 39), some (aI x3), some (aI x6), none] [] := by
          intro nn
          induction nn with
          | zero => intro x6 hn; exact absurd hn (Nat.not_lt_zero _)
          | succ nn ih3 =>
            intro x6 hn3 hi
            have h := hB3 x6 hi
            refine r_iload (pc := 33) hC dX10_merges_33 rfl ?_
            refine r_iload_n (pc := 35) hC 2 dX10_merges_35 rfl rfl ?_
            obtain ⟨J4, hJ4, h⟩ := h
            have S4 : J4 → Wd p l e (rmD 3) s m args below meth c Q 0 0 8 D cA ad A LM (wA (wA w 37 m_softOver_1) 39 m_softOn_2) 61 [some (aR 0), none, some (aI a2), some (aR 37), some (aR 39), some (aI x3), some (aI x6), none] [] := by
              intro hj
              have h := hJ4 hj
              refine r_iload (pc := 61) hC dX10_merges_61 rfl ?_
              refine r_iload_n (pc := 63) hC 2 dX10_merges_63 rfl rfl ?_
              refine r_ic_ge (pc := 64) (tgt := 105) hC dX10_merges_64 rfl (fun hc3 => ?_) (fun hc3 => ?_)
              · have h := h.1 hc3
                exact r_to [true, false, true, true, true, true, false, false] rfl rfl (S2 m_softOver_1 m_softOn_2 h)
              have h := h.2 hc3
              refine r_aload_n (pc := 67) hC 3 dX10_merges_67 rfl rfl ?_
              refine r_iload (pc := 68) hC dX10_merges_68 rfl ?_
              refine r_zald (v := (m_softOver_1 (Int.toNat x6))) (pc := 70) hC dX10_merges_70 lM_37 h.1.1 h.1.2 rfl ?_
              have h := h.2
              refine r_if_ne (pc := 71) (tgt := 77) hC dX10_merges_71 rfl (fun hc2 => ?_) (fun hc2 => ?_)
              · have h := h.1 hc2
                refine r_iload (pc := 77) hC dX10_merges_77 rfl ?_
                refine r_istore (ls2 := [some (aR 0), none, some (aI a2), some (aR 37), some (aR 39), some (aI x3), some (aI x6), some (aI x3)]) (pc := 79) hC dX10_merges_79 (by decide) rfl rfl ?_
                obtain ⟨I5, μ5, hI5, hB5⟩ := h
                have S5 : ∀ (nn : Nat) (m_softOver_7 : (Nat → Int)) (m_softOn_8 : (Nat → Int)) (x9 : Int), μ5 m_softOver_7 m_softOn_8 x9 < nn → I5 m_softOver_7 m_softOn_8 x9 → Wd p l e (rmD 3) s m args below meth c Q 0 0 8 D cA ad A LM (wA (wA w 37 m_softOver_7) 39 m_softOn_8) 81 [some (aR 0), none, some (aI a2), some (aR 37), some (aR 39), some (aI x3), some (aI x6), some (aI x9)] [] := by
                  intro nn
                  induction nn with
                  | zero => intro m_softOver_7 m_softOn_8 x9 hn; exact absurd hn (Nat.not_lt_zero _)
                  | succ nn ih5 =>
                    intro m_softOver_7 m_softOn_8 x9 hn5 hi
                    have h := hB5 m_softOver_7 m_softOn_8 x9 hi
                    refine r_iload (pc := 81) hC dX10_merges_81 rfl ?_
                    refine r_iload (pc := 83) hC dX10_merges_83 rfl ?_
                    refine r_ic_ge (pc := 85) (tgt := 105) hC dX10_merges_85 rfl (fun hc1 => ?_) (fun hc1 => ?_)
                    · have h := h.1 hc1
                      exact r_to [true, false, true, true, true, true, false, false] rfl rfl (S2 m_softOver_7 m_softOn_8 h)
                    have h := h.2 hc1
                    refine r_aload_n (pc := 88) hC 3 dX10_merges_88 rfl rfl ?_
                    refine r_iload (pc := 89) hC dX10_merges_89 rfl ?_
                    refine r_iconst (pc := 91) hC dX10_merges_91 (rng_lit rfl) ?_
                    refine r_zast (pc := 92) hC dX10_merges_92 lM_37 h.1.1 h.1.2 okK1_1 ?_
                    have h := h.2
                    refine r_aload (pc := 93) hC dX10_merges_93 rfl ?_
                    refine r_iload (pc := 95) hC dX10_merges_95 rfl ?_
                    refine r_iconst (pc := 97) hC dX10_merges_97 (rng_lit rfl) ?_
                    refine r_zast (pc := 98) hC dX10_merges_98 lM_39 h.1.1 h.1.2 okK1_1 ?_
                    have h := h.2
                    refine r_iinc (ls2 := [some (aR 0), none, some (aI a2), some (aR 37), some (aR 39), some (aI x3), some (aI x6), some (aI (x9 + 1))]) (pc := 99) hC dX10_merges_99 rfl (by decide) rfl h.1 rfl ?_
                    have h := h.2
                    refine r_goto (tgt := 81) (pc := 102) hC dX10_merges_102 rfl ?_
                    exact r_to [true, false, true, true, true, true, true, true] rfl rfl (ih5 (uI m_softOver_7 x9 1) (uI m_softOn_8 x9 1) (x9 + 1) (Nat.lt_of_lt_of_le h.2 (Nat.le_of_lt_succ hn5)) h.1)
                exact r_to [true, false, true, true, true, true, true, true] rfl rfl (S5 _ m_softOver_1 m_softOn_2 x3 (Nat.lt_succ_self _) hI5)
              have h := h.2 hc2
              refine r_goto (tgt := 105) (pc := 74) hC dX10_merges_74 rfl ?_
              exact r_to [true, false, true, true, true, true, false, false] rfl rfl (S2 m_softOver_1 m_softOn_2 h)
            refine r_ic_ge (pc := 36) (tgt := 61) hC dX10_merges_36 rfl (fun hc6 => ?_) (fun hc6 => ?_)
            · have h := h.1 hc6
              exact r_to [true, false, true, true, true, true, true, false] rfl rfl (S4 h)
            have h := h.2 hc6
            refine r_aload_n (pc := 39) hC 0 dX10_merges_39 rfl rfl ?_
            refine r_iload (pc := 40) hC dX10_merges_40 rfl ?_
            refine r_callVi (pc := 42) hC [aI x6] [] dX10_merges_42 ml_RX10_200 my_X10_isBlank mi_X10_isBlank lM_0 rfl rfl ⟨Nat.le_of_ble_eq_true rfl, Nat.le_of_ble_eq_true rfl⟩ ⟨Nat.le_of_ble_eq_true rfl, Nat.le_of_ble_eq_true rfl⟩ (Nat.le_of_ble_eq_true rfl) rfl (s_M_isBlank l _ _ _ h) (fun r10 w1 hq => ?_)
            obtain ⟨e9, h⟩ := hq
            rw [e9]
            refine r_if_eq (pc := 45) (tgt := 61) hC dX10_merges_45 rfl (fun hc5 => ?_) (fun hc5 => ?_)
            · have h := h.1 hc5
              exact r_to [true, false, true, true, true, true, true, false] rfl rfl (S4 h)
            have h := h.2 hc5
            refine r_aload_n (pc := 48) hC 3 dX10_merges_48 rfl rfl ?_
            refine r_iload (pc := 49) hC dX10_merges_49 rfl ?_
            refine r_zald (v := (m_softOver_1 (Int.toNat x6))) (pc := 51) hC dX10_merges_51 lM_37 h.1.1 h.1.2 rfl ?_
            have h := h.2
            refine r_if_ne (pc := 52) (tgt := 61) hC dX10_merges_52 rfl (fun hc4 => ?_) (fun hc4 => ?_)
            · have h := h.1 hc4
              exact r_to [true, false, true, true, true, true, true, false] rfl rfl (S4 h)
            have h := h.2 hc4
            refine r_iinc (ls2 := [some (aR 0), none, some (aI a2), some (aR 37), some (aR 39), some (aI x3), some (aI (x6 + 1)), none]) (pc := 55) hC dX10_merges_55 rfl (by decide) rfl h.1 rfl ?_
            have h := h.2
            refine r_goto (tgt := 33) (pc := 58) hC dX10_merges_58 rfl ?_
            exact r_to [true, false, true, true, true, true, true, false] rfl rfl (ih3 (x6 + 1) (Nat.lt_of_lt_of_le h.2 (Nat.le_of_lt_succ hn3)) h.1)
        exact r_to [true, false, true, true, true, true, true, false] rfl rfl (S3 _ (x3 + 1) (Nat.lt_succ_self _) hI3)
      have h := h.2 hc7
      refine r_goto (tgt := 105) (pc := 24) hC dX10_merges_24 rfl ?_
      exact r_to [true, false, true, true, true, true, false, false] rfl rfl (S2 m_softOver_1 m_softOn_2 h)
  exact r_to [true, false, true, true, true, true, false, false] rfl rfl (S1 _ (w.1 37) (w.1 39) a1 (Nat.lt_succ_self _) hI1)
def wp_M_writes (m_page : (Nat → Int)) (m_signAt : (Nat → Int)) (m_wordFrom : (Nat → Int)) (m_wordTo : (Nat → Int)) (m_soft : (Nat → Int)) (m_matchItem : (Nat → Int)) (m_matchFirst : (Nat → Int)) (m_matchLast : (Nat → Int)) (m_out : (Nat → Int)) (m_strongOver : (Nat → Int)) (m_softOver : (Nat → Int)) (m_strongOn : (Nat → Int)) (m_softOn : (Nat → Int)) (m_signs : Int) (m_matches : Int) (m_outMany : Int) (m_strongMarks : Int) (m_softMarks : Int) (m_isStrongOpen : Int) (m_isSoftOpen : Int) (a1 : Int) (a2 : Int) (a3 : Int) (a4 : Int) (Q : (Nat → Int) → (Nat → Int) → (Nat → Int) → (Nat → Int) → (Nat → Int) → Int → Int → Int → Int → Int → Prop) : Prop := lpw5 (fun (m_strongOver_1 : (Nat → Int)) (m_softOver_2 : (Nat → Int)) (m_strongOn_3 : (Nat → Int)) (m_softOn_4 : (Nat → Int)) (x5 : Int) (k1 : (Nat → Int) → (Nat → Int) → (Nat → Int) → (Nat → Int) → Int → Prop) => (a2 ≤ x5 → wp_M_laysMarks_0_36_38 m_wordFrom m_wordTo m_soft m_matchItem m_matchFirst m_matchLast m_strongOver_1 m_strongOn_3 m_matches 0 a3 a4 (fun (m_strongOver_6 : (Nat → Int)) (m_strongOn_7 : (Nat → Int)) => wp_M_laysMarks_0_37_39 m_wordFrom m_wordTo m_soft m_matchItem m_matchFirst m_matchLast m_softOver_2 m_softOn_4 m_matches 1 a3 a4 (fun (m_softOver_8 : (Nat → Int)) (m_softOn_9 : (Nat → Int)) => wp_M_merges_0_36_38 m_page m_signAt m_strongOver_6 m_strongOn_7 m_signs a1 a2 (fun (m_strongOver_10 : (Nat → Int)) (m_strongOn_11 : (Nat → Int)) => wp_M_merges_0_37_39 m_page m_signAt m_softOver_8 m_softOn_9 m_signs a1 a2 (fun (m_softOver_12 : (Nat → Int)) (m_softOn_13 : (Nat → Int)) => lpw7 (fun (m_out_14 : (Nat → Int)) (m_outMany_15 : Int) (m_strongMarks_16 : Int) (m_softMarks_17 : Int) (m_isStrongOpen_18 : Int) (m_isSoftOpen_19 : Int) (x20 : Int) (k2 : (Nat → Int) → Int → Int → Int → Int → Int → Int → Prop) => (a2 ≤ x20 → wp_M_closesSoft m_out_14 m_outMany_15 m_isSoftOpen_19 (fun (m_out_21 : (Nat → Int)) (m_outMany_22 : Int) (m_isSoftOpen_23 : Int) => wp_M_closesStrong m_out_21 m_outMany_22 m_isStrongOpen_18 (fun (m_out_24 : (Nat → Int)) (m_outMany_25 : Int) (m_isStrongOpen_26 : Int) => Q m_out_24 m_strongOver_10 m_softOver_12 m_strongOn_11 m_softOn_13 m_outMany_25 m_strongMarks_16 m_softMarks_17 m_isStrongOpen_26 m_isSoftOpen_23))) ∧ (¬ a2 ≤ x20 → jn1 (fun (J3 : Int → Prop) => jn0 (fun (J14 : Prop) => (x20 ≤ a1 → J14) ∧ (¬ x20 ≤ a1 → (rng (x20 - 1)) ∧ ((0 ≤ (x20 - 1) ∧ (x20 - 1) < 601) ∧ (((m_strongOver_10 (Int.toNat (x20 - 1))) = 0 → J14) ∧ (¬ (m_strongOver_10 (Int.toNat (x20 - 1))) = 0 → (rng (x20 - 1)) ∧ ((0 ≤ (x20 - 1) ∧ (x20 - 1) < 601) ∧ (((m_strongOn_11 (Int.toNat (x20 - 1))) = 0 → J14) ∧ (¬ (m_strongOn_11 (Int.toNat (x20 - 1))) = 0 → J3 1)))))))) (J3 0)) (fun (y27 : Int) => jn1 (fun (J4 : Int → Prop) => jn0 (fun (J13 : Prop) => (x20 ≤ a1 → J13) ∧ (¬ x20 ≤ a1 → (rng (x20 - 1)) ∧ ((0 ≤ (x20 - 1) ∧ (x20 - 1) < 601) ∧ (((m_softOver_12 (Int.toNat (x20 - 1))) = 0 → J13) ∧ (¬ (m_softOver_12 (Int.toNat (x20 - 1))) = 0 → (rng (x20 - 1)) ∧ ((0 ≤ (x20 - 1) ∧ (x20 - 1) < 601) ∧ (((m_softOn_13 (Int.toNat (x20 - 1))) = 0 → J13) ∧ (¬ (m_softOn_13 (Int.toNat (x20 - 1))) = 0 → J4 1)))))))) (J4 0)) (fun (y28 : Int) => (0 ≤ x20 ∧ x20 < 601) ∧ (jn1 (fun (J5 : Int → Prop) => jn0 (fun (J11 : Prop) => (¬ m_isStrongOpen_18 = (m_strongOver_10 (Int.toNat x20)) → J11) ∧ (m_isStrongOpen_18 = (m_strongOver_10 (Int.toNat x20)) → jn0 (fun (J12 : Prop) => (m_isStrongOpen_18 = 0 → J12) ∧ (¬ m_isStrongOpen_18 = 0 → (¬ y27 = 0 → J12) ∧ (y27 = 0 → J11))) (J5 0))) (J5 1)) (fun (y29 : Int) => jn3 (fun (J6 : (Nat → Int) → Int → Int → Prop) => (m_isSoftOpen_19 = 0 → J6 m_out_14 m_outMany_15 m_isSoftOpen_19) ∧ (¬ m_isSoftOpen_19 = 0 → jn0 (fun (J10 : Prop) => (y28 = 0 → J10) ∧ (¬ y28 = 0 → (y29 = 0 → J6 m_out_14 m_outMany_15 m_isSoftOpen_19) ∧ (¬ y29 = 0 → J10))) (wp_M_closesSoft m_out_14 m_outMany_15 m_isSoftOpen_19 (fun (m_out_53 : (Nat → Int)) (m_outMany_54 : Int) (m_isSoftOpen_55 : Int) => J6 m_out_53 m_outMany_54 m_isSoftOpen_55)))) (fun (m_out_30 : (Nat → Int)) (m_outMany_31 : Int) (m_isSoftOpen_32 : Int) => jn3 (fun (J7 : (Nat → Int) → Int → Int → Prop) => (m_isStrongOpen_18 = 0 → J7 m_out_30 m_outMany_31 m_isStrongOpen_18) ∧ (¬ m_isStrongOpen_18 = 0 → (¬ y27 = 0 → J7 m_out_30 m_outMany_31 m_isStrongOpen_18) ∧ (y27 = 0 → wp_M_closesStrong m_out_30 m_outMany_31 m_isStrongOpen_18 (fun (m_out_50 : (Nat → Int)) (m_outMany_51 : Int) (m_isStrongOpen_52 : Int) => J7 m_out_50 m_outMany_51 m_isStrongOpen_52)))) (fun (m_out_33 : (Nat → Int)) (m_outMany_34 : Int) (m_isStrongOpen_35 : Int) => (0 ≤ x20 ∧ x20 < 601) ∧ (jn4 (fun (J8 : (Nat → Int) → Int → Int → Int → Prop) => ((m_strongOver_10 (Int.toNat x20)) = 0 → J8 m_out_33 m_outMany_34 m_strongMarks_16 m_isStrongOpen_35) ∧ (¬ (m_strongOver_10 (Int.toNat x20)) = 0 → (¬ m_isStrongOpen_35 = 0 → J8 m_out_33 m_outMany_34 m_strongMarks_16 m_isStrongOpen_35) ∧ (m_isStrongOpen_35 = 0 → wp_M_says m_out_33 m_outMany_34 31 (fun (m_out_48 : (Nat → Int)) (m_outMany_49 : Int) => (rng (m_strongMarks_16 + 1)) ∧ (J8 m_out_48 m_outMany_49 (m_strongMarks_16 + 1) 1))))) (fun (m_out_36 : (Nat → Int)) (m_outMany_37 : Int) (m_strongMarks_38 : Int) (m_isStrongOpen_39 : Int) => (0 ≤ x20 ∧ x20 < 601) ∧ (jn4 (fun (J9 : (Nat → Int) → Int → Int → Int → Prop) => ((m_softOver_12 (Int.toNat x20)) = 0 → J9 m_out_36 m_outMany_37 m_softMarks_17 m_isSoftOpen_32) ∧ (¬ (m_softOver_12 (Int.toNat x20)) = 0 → (¬ m_isSoftOpen_32 = 0 → J9 m_out_36 m_outMany_37 m_softMarks_17 m_isSoftOpen_32) ∧ (m_isSoftOpen_32 = 0 → wp_M_says m_out_36 m_outMany_37 32 (fun (m_out_46 : (Nat → Int)) (m_outMany_47 : Int) => (rng (m_softMarks_17 + 1)) ∧ (J9 m_out_46 m_outMany_47 (m_softMarks_17 + 1) 1))))) (fun (m_out_40 : (Nat → Int)) (m_outMany_41 : Int) (m_softMarks_42 : Int) (m_isSoftOpen_43 : Int) => wp_M_spells m_page m_signAt m_out_40 m_signs m_outMany_41 x20 (fun (m_out_44 : (Nat → Int)) (m_outMany_45 : Int) => (rng (x20 + 1)) ∧ (k2 m_out_44 m_outMany_45 m_strongMarks_38 m_softMarks_42 m_isStrongOpen_39 m_isSoftOpen_43 (x20 + 1))))))))))))))) m_out m_outMany m_strongMarks m_softMarks m_isStrongOpen m_isSoftOpen a1))))) ∧ (¬ a2 ≤ x5 → (0 ≤ x5 ∧ x5 < 601) ∧ ((0 ≤ x5 ∧ x5 < 601) ∧ ((0 ≤ x5 ∧ x5 < 601) ∧ ((0 ≤ x5 ∧ x5 < 601) ∧ ((rng (x5 + 1)) ∧ (k1 (uI m_strongOver_1 x5 0) (uI m_softOver_2 x5 0) (uI m_strongOn_3 x5 0) (uI m_softOn_4 x5 0) (x5 + 1)))))))) m_strongOver m_softOver m_strongOn m_softOn a1
set_option maxHeartbeats 4000000 in
set_option maxRecDepth 20000 in
theorem s_M_writes (l : Launch) (w : St) (a1 : Int) (a2 : Int) (a3 : Int) (a4 : Int) (P : (Nat → Int) → (Nat → Int) → (Nat → Int) → (Nat → Int) → (Nat → Int) → Int → Int → Int → Int → Int → Prop) (h : wp_M_writes (w.1 3) (w.1 4) (w.1 5) (w.1 6) (w.1 15) (w.1 24) (w.1 25) (w.1 26) (w.1 35) (w.1 36) (w.1 37) (w.1 38) (w.1 39) (w.1 0 7) (w.1 0 39) (w.1 0 60) (w.1 0 61) (w.1 0 62) (w.1 0 67) (w.1 0 68) a1 a2 a3 a4 P) : Cn l yX10_writes cX10_writes 9 none 6 LM w [aR 0, aI a1, aI a2, aI a3, aI a4] (okV (fun w1 => ∃ (o0 : (Nat → Int)) (o1 : (Nat → Int)) (o2 : (Nat → Int)) (o3 : (Nat → Int)) (o4 : (Nat → Int)) (o5 : Int) (o6 : Int) (o7 : Int) (o8 : Int) (o9 : Int), w1 = (wI (wI (wI (wI (wI (wA (wA (wA (wA (wA w 35 o0) 36 o1) 37 o2) 38 o3) 39 o4) 0 60 o5) 0 61 o6) 0 62 o7) 0 67 o8) 0 68 o9) ∧ P o0 o1 o2 o3 o4 o5 o6 o7 o8 o9)) := by
  unfold wp_M_writes at h
  refine Cn.of2 [some (aR 0), some (aI a1), some (aI a2), some (aI a3), some (aI a4), none, none, none, none] (by decide) (Nat.le_of_ble_eq_true rfl) rfl (fun p e s m args below meth c D cA ad A Q hQ hC hr hk => ?_)
  refine r_iload_n (pc := 0) hC 1 dX10_writes_0 rfl rfl ?_
  refine r_istore (ls2 := [some (aR 0), some (aI a1), some (aI a2), some (aI a3), some (aI a4), some (aI a1), none, none, none]) (pc := 1) hC dX10_writes_1 (by decide) rfl rfl ?_
  obtain ⟨I1, μ1, hI1, hB1⟩ := h
  have S1 : ∀ (nn : Nat) (m_strongOver_1 : (Nat → Int)) (m_softOver_2 : (Nat → Int)) (m_strongOn_3 : (Nat → Int)) (m_softOn_4 : (Nat → Int)) (x5 : Int), μ1 m_strongOver_1 m_softOver_2 m_strongOn_3 m_softOn_4 x5 < nn → I1 m_strongOver_1 m_softOver_2 m_strongOn_3 m_softOn_4 x5 → Wd p l e (rmD 6) s m args below meth c Q 0 0 9 D cA ad A LM (wA (wA (wA (wA w 36 m_strongOver_1) 37 m_softOver_2) 38 m_strongOn_3) 39 m_softOn_4) 3 [some (aR 0), some (aI a1), some (aI a2), some (aI a3), some (aI a4), some (aI x5), none, none, none] [] := by
    intro nn
    induction nn with
    | zero => intro m_strongOver_1 m_softOver_2 m_strongOn_3 m_softOn_4 x5 hn; exact absurd hn (Nat.not_lt_zero _)
    | succ nn ih1 =>
      intro m_strongOver_1 m_softOver_2 m_strongOn_3 m_softOn_4 x5 hn1 hi
      have h := hB1 m_strongOver_1 m_softOver_2 m_strongOn_3 m_softOn_4 x5 hi
      refine r_iload (pc := 3) hC dX10_writes_3 rfl ?_
      refine r_iload_n (pc := 5) hC 2 dX10_writes_5 rfl rfl ?_
      refine r_ic_ge (pc := 6) (tgt := 47) hC dX10_writes_6 rfl (fun hc20 => ?_) (fun hc20 => ?_)
      · have h := h.1 hc20
        refine r_aload_n (pc := 47) hC 0 dX10_writes_47 rfl rfl ?_
        refine r_iconst (pc := 48) hC dX10_writes_48 (rng_lit rfl) ?_
        refine r_iload_n (pc := 49) hC 3 dX10_writes_49 rfl rfl ?_
        refine r_iload (pc := 50) hC dX10_writes_50 rfl ?_
        refine r_aload_n (pc := 52) hC 0 dX10_writes_52 rfl rfl ?_
        refine r_getr (r := 36) (pc := 53) hC dX10_writes_53 fl_RX10_130 lM_0 rfl ?_
        refine r_aload_n (pc := 56) hC 0 dX10_writes_56 rfl rfl ?_
        refine r_getr (r := 38) (pc := 57) hC dX10_writes_57 fl_RX10_136 lM_0 rfl ?_
        refine r_callVv (pc := 60) hC [aI 0, aI a3, aI a4, aR 36, aR 38] [] dX10_writes_60 ml_RX10_425 my_X10_laysMarks mi_X10_laysMarks lM_0 rfl rfl ⟨Nat.le_of_ble_eq_true rfl, Nat.le_of_ble_eq_true rfl⟩ ⟨Nat.le_of_ble_eq_true rfl, Nat.le_of_ble_eq_true rfl⟩ (Nat.le_of_ble_eq_true rfl) rfl (s_M_laysMarks_0_36_38 l _ _ _ _ _ h) (fun w1 hq => ?_)
        obtain ⟨m_strongOver_6, m_strongOn_7, e9, h⟩ := hq
        rw [e9]
        refine r_aload_n (pc := 63) hC 0 dX10_writes_63 rfl rfl ?_
        refine r_iconst (pc := 64) hC dX10_writes_64 (rng_lit rfl) ?_
        refine r_iload_n (pc := 65) hC 3 dX10_writes_65 rfl rfl ?_
        refine r_iload (pc := 66) hC dX10_writes_66 rfl ?_
        refine r_aload_n (pc := 68) hC 0 dX10_writes_68 rfl rfl ?_
        refine r_getr (r := 37) (pc := 69) hC dX10_writes_69 fl_RX10_133 lM_0 rfl ?_
        refine r_aload_n (pc := 72) hC 0 dX10_writes_72 rfl rfl ?_
        refine r_getr (r := 39) (pc := 73) hC dX10_writes_73 fl_RX10_139 lM_0 rfl ?_
        refine r_callVv (pc := 76) hC [aI 1, aI a3, aI a4, aR 37, aR 39] [] dX10_writes_76 ml_RX10_425 my_X10_laysMarks mi_X10_laysMarks lM_0 rfl rfl ⟨Nat.le_of_ble_eq_true rfl, Nat.le_of_ble_eq_true rfl⟩ ⟨Nat.le_of_ble_eq_true rfl, Nat.le_of_ble_eq_true rfl⟩ (Nat.le_of_ble_eq_true rfl) rfl (s_M_laysMarks_0_37_39 l _ _ _ _ _ h) (fun w1 hq => ?_)
        obtain ⟨m_softOver_8, m_softOn_9, e9, h⟩ := hq
        rw [e9]
        refine r_aload_n (pc := 79) hC 0 dX10_writes_79 rfl rfl ?_
        refine r_iload_n (pc := 80) hC 1 dX10_writes_80 rfl rfl ?_
        refine r_iload_n (pc := 81) hC 2 dX10_writes_81 rfl rfl ?_
        refine r_aload_n (pc := 82) hC 0 dX10_writes_82 rfl rfl ?_
        refine r_getr (r := 36) (pc := 83) hC dX10_writes_83 fl_RX10_130 lM_0 rfl ?_
        refine r_aload_n (pc := 86) hC 0 dX10_writes_86 rfl rfl ?_
        refine r_getr (r := 38) (pc := 87) hC dX10_writes_87 fl_RX10_136 lM_0 rfl ?_
        refine r_callVv (pc := 90) hC [aI a1, aI a2, aR 36, aR 38] [] dX10_writes_90 ml_RX10_429 my_X10_merges mi_X10_merges lM_0 rfl rfl ⟨Nat.le_of_ble_eq_true rfl, Nat.le_of_ble_eq_true rfl⟩ ⟨Nat.le_of_ble_eq_true rfl, Nat.le_of_ble_eq_true rfl⟩ (Nat.le_of_ble_eq_true rfl) rfl (s_M_merges_0_36_38 l _ _ _ _ h) (fun w1 hq => ?_)
        obtain ⟨m_strongOver_10, m_strongOn_11, e9, h⟩ := hq
        rw [e9]
        refine r_aload_n (pc := 93) hC 0 dX10_writes_93 rfl rfl ?_
        refine r_iload_n (pc := 94) hC 1 dX10_writes_94 rfl rfl ?_
        refine r_iload_n (pc := 95) hC 2 dX10_writes_95 rfl rfl ?_
        refine r_aload_n (pc := 96) hC 0 dX10_writes_96 rfl rfl ?_
        refine r_getr (r := 37) (pc := 97) hC dX10_writes_97 fl_RX10_133 lM_0 rfl ?_
        refine r_aload_n (pc := 100) hC 0 dX10_writes_100 rfl rfl ?_
        refine r_getr (r := 39) (pc := 101) hC dX10_writes_101 fl_RX10_139 lM_0 rfl ?_
        refine r_callVv (pc := 104) hC [aI a1, aI a2, aR 37, aR 39] [] dX10_writes_104 ml_RX10_429 my_X10_merges mi_X10_merges lM_0 rfl rfl ⟨Nat.le_of_ble_eq_true rfl, Nat.le_of_ble_eq_true rfl⟩ ⟨Nat.le_of_ble_eq_true rfl, Nat.le_of_ble_eq_true rfl⟩ (Nat.le_of_ble_eq_true rfl) rfl (s_M_merges_0_37_39 l _ _ _ _ h) (fun w1 hq => ?_)
        obtain ⟨m_softOver_12, m_softOn_13, e9, h⟩ := hq
        rw [e9]
        refine r_iload_n (pc := 107) hC 1 dX10_writes_107 rfl rfl ?_
        refine r_istore (ls2 := [some (aR 0), some (aI a1), some (aI a2), some (aI a3), some (aI a4), some (aI a1), none, none, none]) (pc := 108) hC dX10_writes_108 (by decide) rfl rfl ?_
        obtain ⟨I2, μ2, hI2, hB2⟩ := h
        have S2 : ∀ (nn : Nat) (m_out_14 : (Nat → Int)) (m_outMany_15 : Int) (m_strongMarks_16 : Int) (m_softMarks_17 : Int) (m_isStrongOpen_18 : Int) (m_isSoftOpen_19 : Int) (x20 : Int), μ2 m_out_14 m_outMany_15 m_strongMarks_16 m_softMarks_17 m_isStrongOpen_18 m_isSoftOpen_19 x20 < nn → I2 m_out_14 m_outMany_15 m_strongMarks_16 m_softMarks_17 m_isStrongOpen_18 m_isSoftOpen_19 x20 → Wd p l e (rmD 6) s m args below meth c Q 0 0 9 D cA ad A LM (wI (wI (wI (wI (wI (wA (wA (wA (wA (wA w 35 m_out_14) 36 m_strongOver_10) 37 m_softOver_12) 38 m_strongOn_11) 39 m_softOn_13) 0 60 m_outMany_15) 0 61 m_strongMarks_16) 0 62 m_softMarks_17) 0 67 m_isStrongOpen_18) 0 68 m_isSoftOpen_19) 110 [some (aR 0), some (aI a1), some (aI a2), none, none, some (aI x20), none, none, none] [] := by
          intro nn
          induction nn with
          | zero => intro m_out_14 m_outMany_15 m_strongMarks_16 m_softMarks_17 m_isStrongOpen_18 m_isSoftOpen_19 x20 hn; exact absurd hn (Nat.not_lt_zero _)
          | succ nn ih2 =>
            intro m_out_14 m_outMany_15 m_strongMarks_16 m_softMarks_17 m_isStrongOpen_18 m_isSoftOpen_19 x20 hn2 hi
            have h := hB2 m_out_14 m_outMany_15 m_strongMarks_16 m_softMarks_17 m_isStrongOpen_18 m_isSoftOpen_19 x20 hi
            refine r_iload (pc := 110) hC dX10_writes_110 rfl ?_
            refine r_iload_n (pc := 112) hC 2 dX10_writes_112 rfl rfl ?_
            refine r_ic_ge (pc := 113) (tgt := 350) hC dX10_writes_113 rfl (fun hc19 => ?_) (fun hc19 => ?_)
            · have h := h.1 hc19
              refine r_aload_n (pc := 350) hC 0 dX10_writes_350 rfl rfl ?_
              refine r_callVv (pc := 351) hC [] [] dX10_writes_351 ml_RX10_433 my_X10_closesSoft mi_X10_closesSoft lM_0 rfl rfl ⟨Nat.le_of_ble_eq_true rfl, Nat.le_of_ble_eq_true rfl⟩ ⟨Nat.le_of_ble_eq_true rfl, Nat.le_of_ble_eq_true rfl⟩ (Nat.le_of_ble_eq_true rfl) rfl (s_M_closesSoft l _ _ h) (fun w1 hq => ?_)
              obtain ⟨m_out_21, m_outMany_22, m_isSoftOpen_23, e9, h⟩ := hq
              rw [e9]
              refine r_aload_n (pc := 354) hC 0 dX10_writes_354 rfl rfl ?_
              refine r_callVv (pc := 355) hC [] [] dX10_writes_355 ml_RX10_436 my_X10_closesStrong mi_X10_closesStrong lM_0 rfl rfl ⟨Nat.le_of_ble_eq_true rfl, Nat.le_of_ble_eq_true rfl⟩ ⟨Nat.le_of_ble_eq_true rfl, Nat.le_of_ble_eq_true rfl⟩ (Nat.le_of_ble_eq_true rfl) rfl (s_M_closesStrong l _ _ h) (fun w1 hq => ?_)
              obtain ⟨m_out_24, m_outMany_25, m_isStrongOpen_26, e9, h⟩ := hq
              rw [e9]
              refine r_conv (w2 := (wI (wI (wI (wI (wI (wA (wA (wA (wA (wA w 35 m_out_24) 36 m_strongOver_10) 37 m_softOver_12) 38 m_strongOn_11) 39 m_softOn_13) 0 60 m_outMany_25) 0 61 m_strongMarks_16) 0 62 m_softMarks_17) 0 67 m_isStrongOpen_26) 0 68 m_isSoftOpen_23)) rfl ?_
              exact r_retv (pc := 358) hC hQ dX10_writes_358 hr hk ⟨m_out_24, m_strongOver_10, m_softOver_12, m_strongOn_11, m_softOn_13, m_outMany_25, m_strongMarks_16, m_softMarks_17, m_isStrongOpen_26, m_isSoftOpen_23, rfl, h⟩
            have h := h.2 hc19
            refine r_iload (pc := 116) hC dX10_writes_116 rfl ?_
            refine r_iload_n (pc := 118) hC 1 dX10_writes_118 rfl rfl ?_
            obtain ⟨J3, hJ3, h⟩ := h
            have S3 : ∀ (y27 : Int), J3 y27 → Wd p l e (rmD 6) s m args below meth c Q 0 0 9 D cA ad A LM (wI (wI (wI (wI (wI (wA (wA (wA (wA (wA w 35 m_out_14) 36 m_strongOver_10) 37 m_softOver_12) 38 m_strongOn_11) 39 m_softOn_13) 0 60 m_outMany_15) 0 61 m_strongMarks_16) 0 62 m_softMarks_17) 0 67 m_isStrongOpen_18) 0 68 m_isSoftOpen_19) 151 [some (aR 0), some (aI a1), some (aI a2), none, none, some (aI x20), none, none, none] [aI y27] := by
              intro y27 hj
              have h := hJ3 y27 hj
              refine r_istore (ls2 := [some (aR 0), some (aI a1), some (aI a2), none, none, some (aI x20), some (aI y27), none, none]) (pc := 151) hC dX10_writes_151 (by decide) rfl rfl ?_
              refine r_iload (pc := 153) hC dX10_writes_153 rfl ?_
              refine r_iload_n (pc := 155) hC 1 dX10_writes_155 rfl rfl ?_
              obtain ⟨J4, hJ4, h⟩ := h
              have S4 : ∀ (y28 : Int), J4 y28 → Wd p l e (rmD 6) s m args below meth c Q 0 0 9 D cA ad A LM (wI (wI (wI (wI (wI (wA (wA (wA (wA (wA w 35 m_out_14) 36 m_strongOver_10) 37 m_softOver_12) 38 m_strongOn_11) 39 m_softOn_13) 0 60 m_outMany_15) 0 61 m_strongMarks_16) 0 62 m_softMarks_17) 0 67 m_isStrongOpen_18) 0 68 m_isSoftOpen_19) 188 [some (aR 0), some (aI a1), some (aI a2), none, none, some (aI x20), some (aI y27), none, none] [aI y28] := by
                intro y28 hj
                have h := hJ4 y28 hj
                refine r_istore (ls2 := [some (aR 0), some (aI a1), some (aI a2), none, none, some (aI x20), some (aI y27), some (aI y28), none]) (pc := 188) hC dX10_writes_188 (by decide) rfl rfl ?_
                refine r_aload_n (pc := 190) hC 0 dX10_writes_190 rfl rfl ?_
                refine r_get (kd := 1) (v := m_isStrongOpen_18) (pc := 191) hC dX10_writes_191 fl_RX10_420 lM_0 rfl rfl ?_
                refine r_aload_n (pc := 194) hC 0 dX10_writes_194 rfl rfl ?_
                refine r_getr (r := 36) (pc := 195) hC dX10_writes_195 fl_RX10_130 lM_0 rfl ?_
                refine r_iload (pc := 198) hC dX10_writes_198 rfl ?_
                refine r_zald (v := (m_strongOver_10 (Int.toNat x20))) (pc := 200) hC dX10_writes_200 lM_36 h.1.1 h.1.2 rfl ?_
                have h := h.2
                obtain ⟨J5, hJ5, h⟩ := h
                have S5 : ∀ (y29 : Int), J5 y29 → Wd p l e (rmD 6) s m args below meth c Q 0 0 9 D cA ad A LM (wI (wI (wI (wI (wI (wA (wA (wA (wA (wA w 35 m_out_14) 36 m_strongOver_10) 37 m_softOver_12) 38 m_strongOn_11) 39 m_softOn_13) 0 60 m_outMany_15) 0 61 m_strongMarks_16) 0 62 m_softMarks_17) 0 67 m_isStrongOpen_18) 0 68 m_isSoftOpen_19) 221 [some (aR 0), some (aI a1), some (aI a2), none, none, some (aI x20), some (aI y27), some (aI y28), none] [aI y29] := by
                  intro y29 hj
                  have h := hJ5 y29 hj
                  refine r_istore (ls2 := [some (aR 0), some (aI a1), some (aI a2), none, none, some (aI x20), some (aI y27), some (aI y28), some (aI y29)]) (pc := 221) hC dX10_writes_221 (by decide) rfl rfl ?_
                  refine r_aload_n (pc := 223) hC 0 dX10_writes_223 rfl rfl ?_
                  refine r_get (kd := 1) (v := m_isSoftOpen_19) (pc := 224) hC dX10_writes_224 fl_RX10_415 lM_0 rfl rfl ?_
                  obtain ⟨J6, hJ6, h⟩ := h
                  have S6 : ∀ (m_out_30 : (Nat → Int)) (m_outMany_31 : Int) (m_isSoftOpen_32 : Int), J6 m_out_30 m_outMany_31 m_isSoftOpen_32 → Wd p l e (rmD 6) s m args below meth c Q 0 0 9 D cA ad A LM (wI (wI (wI (wI (wI (wA (wA (wA (wA (wA w 35 m_out_30) 36 m_strongOver_10) 37 m_softOver_12) 38 m_strongOn_11) 39 m_softOn_13) 0 60 m_outMany_31) 0 61 m_strongMarks_16) 0 62 m_softMarks_17) 0 67 m_isStrongOpen_18) 0 68 m_isSoftOpen_32) 244 [some (aR 0), some (aI a1), some (aI a2), none, none, some (aI x20), some (aI y27), none, none] [] := by
                    intro m_out_30 m_outMany_31 m_isSoftOpen_32 hj
                    have h := hJ6 m_out_30 m_outMany_31 m_isSoftOpen_32 hj
                    refine r_aload_n (pc := 244) hC 0 dX10_writes_244 rfl rfl ?_
                    refine r_get (kd := 1) (v := m_isStrongOpen_18) (pc := 245) hC dX10_writes_245 fl_RX10_420 lM_0 rfl rfl ?_
                    obtain ⟨J7, hJ7, h⟩ := h
                    have S7 : ∀ (m_out_33 : (Nat → Int)) (m_outMany_34 : Int) (m_isStrongOpen_35 : Int), J7 m_out_33 m_outMany_34 m_isStrongOpen_35 → Wd p l e (rmD 6) s m args below meth c Q 0 0 9 D cA ad A LM (wI (wI (wI (wI (wI (wA (wA (wA (wA (wA w 35 m_out_33) 36 m_strongOver_10) 37 m_softOver_12) 38 m_strongOn_11) 39 m_softOn_13) 0 60 m_outMany_34) 0 61 m_strongMarks_16) 0 62 m_softMarks_17) 0 67 m_isStrongOpen_35) 0 68 m_isSoftOpen_32) 260 [some (aR 0), some (aI a1), some (aI a2), none, none, some (aI x20), none, none, none] [] := by
                      intro m_out_33 m_outMany_34 m_isStrongOpen_35 hj
                      have h := hJ7 m_out_33 m_outMany_34 m_isStrongOpen_35 hj
                      refine r_aload_n (pc := 260) hC 0 dX10_writes_260 rfl rfl ?_
                      refine r_getr (r := 36) (pc := 261) hC dX10_writes_261 fl_RX10_130 lM_0 rfl ?_
                      refine r_iload (pc := 264) hC dX10_writes_264 rfl ?_
                      refine r_zald (v := (m_strongOver_10 (Int.toNat x20))) (pc := 266) hC dX10_writes_266 lM_36 h.1.1 h.1.2 rfl ?_
                      have h := h.2
                      obtain ⟨J8, hJ8, h⟩ := h
                      have S8 : ∀ (m_out_36 : (Nat → Int)) (m_outMany_37 : Int) (m_strongMarks_38 : Int) (m_isStrongOpen_39 : Int), J8 m_out_36 m_outMany_37 m_strongMarks_38 m_isStrongOpen_39 → Wd p l e (rmD 6) s m args below meth c Q 0 0 9 D cA ad A LM (wI (wI (wI (wI (wI (wA (wA (wA (wA (wA w 35 m_out_36) 36 m_strongOver_10) 37 m_softOver_12) 38 m_strongOn_11) 39 m_softOn_13) 0 60 m_outMany_37) 0 61 m_strongMarks_38) 0 62 m_softMarks_17) 0 67 m_isStrongOpen_39) 0 68 m_isSoftOpen_32) 299 [some (aR 0), some (aI a1), some (aI a2), none, none, some (aI x20), none, none, none] [] := by
                        intro m_out_36 m_outMany_37 m_strongMarks_38 m_isStrongOpen_39 hj
                        have h := hJ8 m_out_36 m_outMany_37 m_strongMarks_38 m_isStrongOpen_39 hj
                        refine r_aload_n (pc := 299) hC 0 dX10_writes_299 rfl rfl ?_
                        refine r_getr (r := 37) (pc := 300) hC dX10_writes_300 fl_RX10_133 lM_0 rfl ?_
                        refine r_iload (pc := 303) hC dX10_writes_303 rfl ?_
                        refine r_zald (v := (m_softOver_12 (Int.toNat x20))) (pc := 305) hC dX10_writes_305 lM_37 h.1.1 h.1.2 rfl ?_
                        have h := h.2
                        obtain ⟨J9, hJ9, h⟩ := h
                        have S9 : ∀ (m_out_40 : (Nat → Int)) (m_outMany_41 : Int) (m_softMarks_42 : Int) (m_isSoftOpen_43 : Int), J9 m_out_40 m_outMany_41 m_softMarks_42 m_isSoftOpen_43 → Wd p l e (rmD 6) s m args below meth c Q 0 0 9 D cA ad A LM (wI (wI (wI (wI (wI (wA (wA (wA (wA (wA w 35 m_out_40) 36 m_strongOver_10) 37 m_softOver_12) 38 m_strongOn_11) 39 m_softOn_13) 0 60 m_outMany_41) 0 61 m_strongMarks_38) 0 62 m_softMarks_42) 0 67 m_isStrongOpen_39) 0 68 m_isSoftOpen_43) 338 [some (aR 0), some (aI a1), some (aI a2), none, none, some (aI x20), none, none, none] [] := by
                          intro m_out_40 m_outMany_41 m_softMarks_42 m_isSoftOpen_43 hj
                          have h := hJ9 m_out_40 m_outMany_41 m_softMarks_42 m_isSoftOpen_43 hj
                          refine r_aload_n (pc := 338) hC 0 dX10_writes_338 rfl rfl ?_
                          refine r_iload (pc := 339) hC dX10_writes_339 rfl ?_
                          refine r_callVv (pc := 341) hC [aI x20] [] dX10_writes_341 ml_RX10_449 my_X10_spells mi_X10_spells lM_0 rfl rfl ⟨Nat.le_of_ble_eq_true rfl, Nat.le_of_ble_eq_true rfl⟩ ⟨Nat.le_of_ble_eq_true rfl, Nat.le_of_ble_eq_true rfl⟩ (Nat.le_of_ble_eq_true rfl) rfl (s_M_spells l _ _ _ h) (fun w1 hq => ?_)
                          obtain ⟨m_out_44, m_outMany_45, e9, h⟩ := hq
                          rw [e9]
                          refine r_iinc (ls2 := [some (aR 0), some (aI a1), some (aI a2), none, none, some (aI (x20 + 1)), none, none, none]) (pc := 344) hC dX10_writes_344 rfl (by decide) rfl h.1 rfl ?_
                          have h := h.2
                          refine r_goto (tgt := 110) (pc := 347) hC dX10_writes_347 rfl ?_
                          exact r_to [true, true, true, false, false, true, false, false, false] rfl rfl (ih2 m_out_44 m_outMany_45 m_strongMarks_38 m_softMarks_42 m_isStrongOpen_39 m_isSoftOpen_43 (x20 + 1) (Nat.lt_of_lt_of_le h.2 (Nat.le_of_lt_succ hn2)) h.1)
                        refine r_if_eq (pc := 306) (tgt := 338) hC dX10_writes_306 rfl (fun hc2 => ?_) (fun hc2 => ?_)
                        · have h := h.1 hc2
                          exact r_to [true, true, true, false, false, true, false, false, false] rfl rfl (S9 m_out_36 m_outMany_37 m_softMarks_17 m_isSoftOpen_32 h)
                        have h := h.2 hc2
                        refine r_aload_n (pc := 309) hC 0 dX10_writes_309 rfl rfl ?_
                        refine r_get (kd := 1) (v := m_isSoftOpen_32) (pc := 310) hC dX10_writes_310 fl_RX10_415 lM_0 rfl rfl ?_
                        refine r_if_ne (pc := 313) (tgt := 338) hC dX10_writes_313 rfl (fun hc1 => ?_) (fun hc1 => ?_)
                        · have h := h.1 hc1
                          exact r_to [true, true, true, false, false, true, false, false, false] rfl rfl (S9 m_out_36 m_outMany_37 m_softMarks_17 m_isSoftOpen_32 h)
                        have h := h.2 hc1
                        refine r_aload_n (pc := 316) hC 0 dX10_writes_316 rfl rfl ?_
                        refine r_ldcsw (j := 32) (pc := 317) hC dX10_writes_317 rfl ⟨rfl, rfl⟩ ?_
                        refine r_callVv (pc := 320) hC [aR (10000 + 32)] [] dX10_writes_320 ml_RX10_405 my_X10_says mi_X10_says lM_0 rfl rfl ⟨Nat.le_of_ble_eq_true rfl, Nat.le_of_ble_eq_true rfl⟩ ⟨Nat.le_of_ble_eq_true rfl, Nat.le_of_ble_eq_true rfl⟩ (Nat.le_of_ble_eq_true rfl) rfl (s_M_says l _ _ _ h) (fun w1 hq => ?_)
                        obtain ⟨m_out_46, m_outMany_47, e9, h⟩ := hq
                        rw [e9]
                        refine r_aload_n (pc := 323) hC 0 dX10_writes_323 rfl rfl ?_
                        refine r_dup (pc := 324) hC dX10_writes_324 rfl ?_
                        refine r_get (kd := 0) (v := m_softMarks_17) (pc := 325) hC dX10_writes_325 fl_RX10_446 lM_0 rfl rfl ?_
                        refine r_iconst (pc := 328) hC dX10_writes_328 (rng_lit rfl) ?_
                        refine r_iadd (pc := 329) hC dX10_writes_329 h.1 ?_
                        have h := h.2
                        refine r_put (kd := 0) (pc := 330) hC dX10_writes_330 pl_RX10_446 lM_0 rfl (by decide) (Or.inl rfl) ?_
                        refine r_aload_n (pc := 333) hC 0 dX10_writes_333 rfl rfl ?_
                        refine r_iconst (pc := 334) hC dX10_writes_334 (rng_lit rfl) ?_
                        refine r_put (kd := 1) (pc := 335) hC dX10_writes_335 pl_RX10_415 lM_0 rfl (by decide) (Or.inr okK1_1) ?_
                        exact r_to [true, true, true, false, false, true, false, false, false] rfl rfl (S9 m_out_46 m_outMany_47 (m_softMarks_17 + 1) 1 h)
                      refine r_if_eq (pc := 267) (tgt := 299) hC dX10_writes_267 rfl (fun hc4 => ?_) (fun hc4 => ?_)
                      · have h := h.1 hc4
                        exact r_to [true, true, true, false, false, true, false, false, false] rfl rfl (S8 m_out_33 m_outMany_34 m_strongMarks_16 m_isStrongOpen_35 h)
                      have h := h.2 hc4
                      refine r_aload_n (pc := 270) hC 0 dX10_writes_270 rfl rfl ?_
                      refine r_get (kd := 1) (v := m_isStrongOpen_35) (pc := 271) hC dX10_writes_271 fl_RX10_420 lM_0 rfl rfl ?_
                      refine r_if_ne (pc := 274) (tgt := 299) hC dX10_writes_274 rfl (fun hc3 => ?_) (fun hc3 => ?_)
                      · have h := h.1 hc3
                        exact r_to [true, true, true, false, false, true, false, false, false] rfl rfl (S8 m_out_33 m_outMany_34 m_strongMarks_16 m_isStrongOpen_35 h)
                      have h := h.2 hc3
                      refine r_aload_n (pc := 277) hC 0 dX10_writes_277 rfl rfl ?_
                      refine r_ldcsw (j := 31) (pc := 278) hC dX10_writes_278 rfl ⟨rfl, rfl⟩ ?_
                      refine r_callVv (pc := 281) hC [aR (10000 + 31)] [] dX10_writes_281 ml_RX10_405 my_X10_says mi_X10_says lM_0 rfl rfl ⟨Nat.le_of_ble_eq_true rfl, Nat.le_of_ble_eq_true rfl⟩ ⟨Nat.le_of_ble_eq_true rfl, Nat.le_of_ble_eq_true rfl⟩ (Nat.le_of_ble_eq_true rfl) rfl (s_M_says l _ _ _ h) (fun w1 hq => ?_)
                      obtain ⟨m_out_48, m_outMany_49, e9, h⟩ := hq
                      rw [e9]
                      refine r_aload_n (pc := 284) hC 0 dX10_writes_284 rfl rfl ?_
                      refine r_dup (pc := 285) hC dX10_writes_285 rfl ?_
                      refine r_get (kd := 0) (v := m_strongMarks_16) (pc := 286) hC dX10_writes_286 fl_RX10_441 lM_0 rfl rfl ?_
                      refine r_iconst (pc := 289) hC dX10_writes_289 (rng_lit rfl) ?_
                      refine r_iadd (pc := 290) hC dX10_writes_290 h.1 ?_
                      have h := h.2
                      refine r_put (kd := 0) (pc := 291) hC dX10_writes_291 pl_RX10_441 lM_0 rfl (by decide) (Or.inl rfl) ?_
                      refine r_aload_n (pc := 294) hC 0 dX10_writes_294 rfl rfl ?_
                      refine r_iconst (pc := 295) hC dX10_writes_295 (rng_lit rfl) ?_
                      refine r_put (kd := 1) (pc := 296) hC dX10_writes_296 pl_RX10_420 lM_0 rfl (by decide) (Or.inr okK1_1) ?_
                      exact r_to [true, true, true, false, false, true, false, false, false] rfl rfl (S8 m_out_48 m_outMany_49 (m_strongMarks_16 + 1) 1 h)
                    refine r_if_eq (pc := 248) (tgt := 260) hC dX10_writes_248 rfl (fun hc6 => ?_) (fun hc6 => ?_)
                    · have h := h.1 hc6
                      exact r_to [true, true, true, false, false, true, false, false, false] rfl rfl (S7 m_out_30 m_outMany_31 m_isStrongOpen_18 h)
                    have h := h.2 hc6
                    refine r_iload (pc := 251) hC dX10_writes_251 rfl ?_
                    refine r_if_ne (pc := 253) (tgt := 260) hC dX10_writes_253 rfl (fun hc5 => ?_) (fun hc5 => ?_)
                    · have h := h.1 hc5
                      exact r_to [true, true, true, false, false, true, false, false, false] rfl rfl (S7 m_out_30 m_outMany_31 m_isStrongOpen_18 h)
                    have h := h.2 hc5
                    refine r_aload_n (pc := 256) hC 0 dX10_writes_256 rfl rfl ?_
                    refine r_callVv (pc := 257) hC [] [] dX10_writes_257 ml_RX10_436 my_X10_closesStrong mi_X10_closesStrong lM_0 rfl rfl ⟨Nat.le_of_ble_eq_true rfl, Nat.le_of_ble_eq_true rfl⟩ ⟨Nat.le_of_ble_eq_true rfl, Nat.le_of_ble_eq_true rfl⟩ (Nat.le_of_ble_eq_true rfl) rfl (s_M_closesStrong l _ _ h) (fun w1 hq => ?_)
                    obtain ⟨m_out_50, m_outMany_51, m_isStrongOpen_52, e9, h⟩ := hq
                    rw [e9]
                    exact r_to [true, true, true, false, false, true, false, false, false] rfl rfl (S7 m_out_50 m_outMany_51 m_isStrongOpen_52 h)
                  refine r_if_eq (pc := 227) (tgt := 244) hC dX10_writes_227 rfl (fun hc9 => ?_) (fun hc9 => ?_)
                  · have h := h.1 hc9
                    exact r_to [true, true, true, false, false, true, true, false, false] rfl rfl (S6 m_out_14 m_outMany_15 m_isSoftOpen_19 h)
                  have h := h.2 hc9
                  refine r_iload (pc := 230) hC dX10_writes_230 rfl ?_
                  obtain ⟨J10, hJ10, h⟩ := h
                  have S10 : J10 → Wd p l e (rmD 6) s m args below meth c Q 0 0 9 D cA ad A LM (wI (wI (wI (wI (wI (wA (wA (wA (wA (wA w 35 m_out_14) 36 m_strongOver_10) 37 m_softOver_12) 38 m_strongOn_11) 39 m_softOn_13) 0 60 m_outMany_15) 0 61 m_strongMarks_16) 0 62 m_softMarks_17) 0 67 m_isStrongOpen_18) 0 68 m_isSoftOpen_19) 240 [some (aR 0), some (aI a1), some (aI a2), none, none, some (aI x20), some (aI y27), none, none] [] := by
                    intro hj
                    have h := hJ10 hj
                    refine r_aload_n (pc := 240) hC 0 dX10_writes_240 rfl rfl ?_
                    refine r_callVv (pc := 241) hC [] [] dX10_writes_241 ml_RX10_433 my_X10_closesSoft mi_X10_closesSoft lM_0 rfl rfl ⟨Nat.le_of_ble_eq_true rfl, Nat.le_of_ble_eq_true rfl⟩ ⟨Nat.le_of_ble_eq_true rfl, Nat.le_of_ble_eq_true rfl⟩ (Nat.le_of_ble_eq_true rfl) rfl (s_M_closesSoft l _ _ h) (fun w1 hq => ?_)
                    obtain ⟨m_out_53, m_outMany_54, m_isSoftOpen_55, e9, h⟩ := hq
                    rw [e9]
                    exact r_to [true, true, true, false, false, true, true, false, false] rfl rfl (S6 m_out_53 m_outMany_54 m_isSoftOpen_55 h)
                  refine r_if_eq (pc := 232) (tgt := 240) hC dX10_writes_232 rfl (fun hc8 => ?_) (fun hc8 => ?_)
                  · have h := h.1 hc8
                    exact r_to [true, true, true, false, false, true, true, false, false] rfl rfl (S10 h)
                  have h := h.2 hc8
                  refine r_iload (pc := 235) hC dX10_writes_235 rfl ?_
                  refine r_if_eq (pc := 237) (tgt := 244) hC dX10_writes_237 rfl (fun hc7 => ?_) (fun hc7 => ?_)
                  · have h := h.1 hc7
                    exact r_to [true, true, true, false, false, true, true, false, false] rfl rfl (S6 m_out_14 m_outMany_15 m_isSoftOpen_19 h)
                  have h := h.2 hc7
                  exact r_to [true, true, true, false, false, true, true, false, false] rfl rfl (S10 h)
                obtain ⟨J11, hJ11, h⟩ := h
                have S11 : J11 → Wd p l e (rmD 6) s m args below meth c Q 0 0 9 D cA ad A LM (wI (wI (wI (wI (wI (wA (wA (wA (wA (wA w 35 m_out_14) 36 m_strongOver_10) 37 m_softOver_12) 38 m_strongOn_11) 39 m_softOn_13) 0 60 m_outMany_15) 0 61 m_strongMarks_16) 0 62 m_softMarks_17) 0 67 m_isStrongOpen_18) 0 68 m_isSoftOpen_19) 216 [some (aR 0), some (aI a1), some (aI a2), none, none, some (aI x20), some (aI y27), some (aI y28), none] [] := by
                  intro hj
                  have h := hJ11 hj
                  refine r_iconst (pc := 216) hC dX10_writes_216 (rng_lit rfl) ?_
                  refine r_goto (tgt := 221) (pc := 217) hC dX10_writes_217 rfl ?_
                  exact r_to [true, true, true, false, false, true, true, true, false] rfl rfl (S5 1 h)
                refine r_ic_ne (pc := 201) (tgt := 216) hC dX10_writes_201 rfl (fun hc12 => ?_) (fun hc12 => ?_)
                · have h := h.1 hc12
                  exact r_to [true, true, true, false, false, true, true, true, false] rfl rfl (S11 h)
                have h := h.2 hc12
                refine r_aload_n (pc := 204) hC 0 dX10_writes_204 rfl rfl ?_
                refine r_get (kd := 1) (v := m_isStrongOpen_18) (pc := 205) hC dX10_writes_205 fl_RX10_420 lM_0 rfl rfl ?_
                obtain ⟨J12, hJ12, h⟩ := h
                have S12 : J12 → Wd p l e (rmD 6) s m args below meth c Q 0 0 9 D cA ad A LM (wI (wI (wI (wI (wI (wA (wA (wA (wA (wA w 35 m_out_14) 36 m_strongOver_10) 37 m_softOver_12) 38 m_strongOn_11) 39 m_softOn_13) 0 60 m_outMany_15) 0 61 m_strongMarks_16) 0 62 m_softMarks_17) 0 67 m_isStrongOpen_18) 0 68 m_isSoftOpen_19) 220 [some (aR 0), some (aI a1), some (aI a2), none, none, some (aI x20), some (aI y27), some (aI y28), none] [] := by
                  intro hj
                  have h := hJ12 hj
                  refine r_iconst (pc := 220) hC dX10_writes_220 (rng_lit rfl) ?_
                  exact r_to [true, true, true, false, false, true, true, true, false] rfl rfl (S5 0 h)
                refine r_if_eq (pc := 208) (tgt := 220) hC dX10_writes_208 rfl (fun hc11 => ?_) (fun hc11 => ?_)
                · have h := h.1 hc11
                  exact r_to [true, true, true, false, false, true, true, true, false] rfl rfl (S12 h)
                have h := h.2 hc11
                refine r_iload (pc := 211) hC dX10_writes_211 rfl ?_
                refine r_if_ne (pc := 213) (tgt := 220) hC dX10_writes_213 rfl (fun hc10 => ?_) (fun hc10 => ?_)
                · have h := h.1 hc10
                  exact r_to [true, true, true, false, false, true, true, true, false] rfl rfl (S12 h)
                have h := h.2 hc10
                exact r_to [true, true, true, false, false, true, true, true, false] rfl rfl (S11 h)
              obtain ⟨J13, hJ13, h⟩ := h
              have S13 : J13 → Wd p l e (rmD 6) s m args below meth c Q 0 0 9 D cA ad A LM (wI (wI (wI (wI (wI (wA (wA (wA (wA (wA w 35 m_out_14) 36 m_strongOver_10) 37 m_softOver_12) 38 m_strongOn_11) 39 m_softOn_13) 0 60 m_outMany_15) 0 61 m_strongMarks_16) 0 62 m_softMarks_17) 0 67 m_isStrongOpen_18) 0 68 m_isSoftOpen_19) 187 [some (aR 0), some (aI a1), some (aI a2), none, none, some (aI x20), some (aI y27), none, none] [] := by
                intro hj
                have h := hJ13 hj
                refine r_iconst (pc := 187) hC dX10_writes_187 (rng_lit rfl) ?_
                exact r_to [true, true, true, false, false, true, true, false, false] rfl rfl (S4 0 h)
              refine r_ic_le (pc := 156) (tgt := 187) hC dX10_writes_156 rfl (fun hc15 => ?_) (fun hc15 => ?_)
              · have h := h.1 hc15
                exact r_to [true, true, true, false, false, true, true, false, false] rfl rfl (S13 h)
              have h := h.2 hc15
              refine r_aload_n (pc := 159) hC 0 dX10_writes_159 rfl rfl ?_
              refine r_getr (r := 37) (pc := 160) hC dX10_writes_160 fl_RX10_133 lM_0 rfl ?_
              refine r_iload (pc := 163) hC dX10_writes_163 rfl ?_
              refine r_iconst (pc := 165) hC dX10_writes_165 (rng_lit rfl) ?_
              refine r_isub (pc := 166) hC dX10_writes_166 h.1 ?_
              have h := h.2
              refine r_zald (v := (m_softOver_12 (Int.toNat (x20 - 1)))) (pc := 167) hC dX10_writes_167 lM_37 h.1.1 h.1.2 rfl ?_
              have h := h.2
              refine r_if_eq (pc := 168) (tgt := 187) hC dX10_writes_168 rfl (fun hc14 => ?_) (fun hc14 => ?_)
              · have h := h.1 hc14
                exact r_to [true, true, true, false, false, true, true, false, false] rfl rfl (S13 h)
              have h := h.2 hc14
              refine r_aload_n (pc := 171) hC 0 dX10_writes_171 rfl rfl ?_
              refine r_getr (r := 39) (pc := 172) hC dX10_writes_172 fl_RX10_139 lM_0 rfl ?_
              refine r_iload (pc := 175) hC dX10_writes_175 rfl ?_
              refine r_iconst (pc := 177) hC dX10_writes_177 (rng_lit rfl) ?_
              refine r_isub (pc := 178) hC dX10_writes_178 h.1 ?_
              have h := h.2
              refine r_zald (v := (m_softOn_13 (Int.toNat (x20 - 1)))) (pc := 179) hC dX10_writes_179 lM_39 h.1.1 h.1.2 rfl ?_
              have h := h.2
              refine r_if_eq (pc := 180) (tgt := 187) hC dX10_writes_180 rfl (fun hc13 => ?_) (fun hc13 => ?_)
              · have h := h.1 hc13
                exact r_to [true, true, true, false, false, true, true, false, false] rfl rfl (S13 h)
              have h := h.2 hc13
              refine r_iconst (pc := 183) hC dX10_writes_183 (rng_lit rfl) ?_
              refine r_goto (tgt := 188) (pc := 184) hC dX10_writes_184 rfl ?_
              exact r_to [true, true, true, false, false, true, true, false, false] rfl rfl (S4 1 h)
            obtain ⟨J14, hJ14, h⟩ := h
            have S14 : J14 → Wd p l e (rmD 6) s m args below meth c Q 0 0 9 D cA ad A LM (wI (wI (wI (wI (wI (wA (wA (wA (wA (wA w 35 m_out_14) 36 m_strongOver_10) 37 m_softOver_12) 38 m_strongOn_11) 39 m_softOn_13) 0 60 m_outMany_15) 0 61 m_strongMarks_16) 0 62 m_softMarks_17) 0 67 m_isStrongOpen_18) 0 68 m_isSoftOpen_19) 150 [some (aR 0), some (aI a1), some (aI a2), none, none, some (aI x20), none, none, none] [] := by
              intro hj
              have h := hJ14 hj
              refine r_iconst (pc := 150) hC dX10_writes_150 (rng_lit rfl) ?_
              exact r_to [true, true, true, false, false, true, false, false, false] rfl rfl (S3 0 h)
            refine r_ic_le (pc := 119) (tgt := 150) hC dX10_writes_119 rfl (fun hc18 => ?_) (fun hc18 => ?_)
            · have h := h.1 hc18
              exact r_to [true, true, true, false, false, true, false, false, false] rfl rfl (S14 h)
            have h := h.2 hc18
            refine r_aload_n (pc := 122) hC 0 dX10_writes_122 rfl rfl ?_
            refine r_getr (r := 36) (pc := 123) hC dX10_writes_123 fl_RX10_130 lM_0 rfl ?_
            refine r_iload (pc := 126) hC dX10_writes_126 rfl ?_
            refine r_iconst (pc := 128) hC dX10_writes_128 (rng_lit rfl) ?_
            refine r_isub (pc := 129) hC dX10_writes_129 h.1 ?_
            have h := h.2
            refine r_zald (v := (m_strongOver_10 (Int.toNat (x20 - 1)))) (pc := 130) hC dX10_writes_130 lM_36 h.1.1 h.1.2 rfl ?_
            have h := h.2
            refine r_if_eq (pc := 131) (tgt := 150) hC dX10_writes_131 rfl (fun hc17 => ?_) (fun hc17 => ?_)
            · have h := h.1 hc17
              exact r_to [true, true, true, false, false, true, false, false, false] rfl rfl (S14 h)
            have h := h.2 hc17
            refine r_aload_n (pc := 134) hC 0 dX10_writes_134 rfl rfl ?_
            refine r_getr (r := 38) (pc := 135) hC dX10_writes_135 fl_RX10_136 lM_0 rfl ?_
            refine r_iload (pc := 138) hC dX10_writes_138 rfl ?_
            refine r_iconst (pc := 140) hC dX10_writes_140 (rng_lit rfl) ?_
            refine r_isub (pc := 141) hC dX10_writes_141 h.1 ?_
            have h := h.2
            refine r_zald (v := (m_strongOn_11 (Int.toNat (x20 - 1)))) (pc := 142) hC dX10_writes_142 lM_38 h.1.1 h.1.2 rfl ?_
            have h := h.2
            refine r_if_eq (pc := 143) (tgt := 150) hC dX10_writes_143 rfl (fun hc16 => ?_) (fun hc16 => ?_)
            · have h := h.1 hc16
              exact r_to [true, true, true, false, false, true, false, false, false] rfl rfl (S14 h)
            have h := h.2 hc16
            refine r_iconst (pc := 146) hC dX10_writes_146 (rng_lit rfl) ?_
            refine r_goto (tgt := 151) (pc := 147) hC dX10_writes_147 rfl ?_
            exact r_to [true, true, true, false, false, true, false, false, false] rfl rfl (S3 1 h)
        exact r_to [true, true, true, false, false, true, false, false, false] rfl rfl (S2 _ (w.1 35) (w.1 0 60) (w.1 0 61) (w.1 0 62) (w.1 0 67) (w.1 0 68) a1 (Nat.lt_succ_self _) hI2)
      have h := h.2 hc20
      refine r_aload_n (pc := 9) hC 0 dX10_writes_9 rfl rfl ?_
      refine r_getr (r := 36) (pc := 10) hC dX10_writes_10 fl_RX10_130 lM_0 rfl ?_
      refine r_iload (pc := 13) hC dX10_writes_13 rfl ?_
      refine r_iconst (pc := 15) hC dX10_writes_15 (rng_lit rfl) ?_
      refine r_zast (pc := 16) hC dX10_writes_16 lM_36 h.1.1 h.1.2 okK1_0 ?_
      have h := h.2
      refine r_aload_n (pc := 17) hC 0 dX10_writes_17 rfl rfl ?_
      refine r_getr (r := 38) (pc := 18) hC dX10_writes_18 fl_RX10_136 lM_0 rfl ?_
      refine r_iload (pc := 21) hC dX10_writes_21 rfl ?_
      refine r_iconst (pc := 23) hC dX10_writes_23 (rng_lit rfl) ?_
      refine r_zast (pc := 24) hC dX10_writes_24 lM_38 h.1.1 h.1.2 okK1_0 ?_
      have h := h.2
      refine r_aload_n (pc := 25) hC 0 dX10_writes_25 rfl rfl ?_
      refine r_getr (r := 37) (pc := 26) hC dX10_writes_26 fl_RX10_133 lM_0 rfl ?_
      refine r_iload (pc := 29) hC dX10_writes_29 rfl ?_
      refine r_iconst (pc := 31) hC dX10_writes_31 (rng_lit rfl) ?_
      refine r_zast (pc := 32) hC dX10_writes_32 lM_37 h.1.1 h.1.2 okK1_0 ?_
      have h := h.2
      refine r_aload_n (pc := 33) hC 0 dX10_writes_33 rfl rfl ?_
      refine r_getr (r := 39) (pc := 34) hC dX10_writes_34 fl_RX10_139 lM_0 rfl ?_
      refine r_iload (pc := 37) hC dX10_writes_37 rfl ?_
      refine r_iconst (pc := 39) hC dX10_writes_39 (rng_lit rfl) ?_
      refine r_zast (pc := 40) hC dX10_writes_40 lM_39 h.1.1 h.1.2 okK1_0 ?_
      have h := h.2
      refine r_iinc (ls2 := [some (aR 0), some (aI a1), some (aI a2), some (aI a3), some (aI a4), some (aI (x5 + 1)), none, none, none]) (pc := 41) hC dX10_writes_41 rfl (by decide) rfl h.1 rfl ?_
      have h := h.2
      refine r_goto (tgt := 3) (pc := 44) hC dX10_writes_44 rfl ?_
      exact r_to [true, true, true, true, true, true, false, false, false] rfl rfl (ih1 (uI m_strongOver_1 x5 0) (uI m_softOver_2 x5 0) (uI m_strongOn_3 x5 0) (uI m_softOn_4 x5 0) (x5 + 1) (Nat.lt_of_lt_of_le h.2 (Nat.le_of_lt_succ hn1)) h.1)
  exact r_to [true, true, true, true, true, true, false, false, false] rfl rfl (S1 _ (w.1 36) (w.1 37) (w.1 38) (w.1 39) a1 (Nat.lt_succ_self _) hI1)
def wp_M_begins (m_outMany : Int) (m_strongMarks : Int) (m_softMarks : Int) (Q : Int → Int → Int → Prop) : Prop := Q 0 0 0
set_option maxHeartbeats 4000000 in
set_option maxRecDepth 20000 in
theorem s_M_begins (l : Launch) (w : St) (P : Int → Int → Int → Prop) (h : wp_M_begins (w.1 0 60) (w.1 0 61) (w.1 0 62) P) : Cn l yX10_begins cX10_begins 1 none 0 LM w [aR 0] (okV (fun w1 => ∃ (o0 : Int) (o1 : Int) (o2 : Int), w1 = (wI (wI (wI w 0 60 o0) 0 61 o1) 0 62 o2) ∧ P o0 o1 o2)) := by
  unfold wp_M_begins at h
  refine Cn.of2 [some (aR 0)] (by decide) (Nat.le_of_ble_eq_true rfl) rfl (fun p e s m args below meth c D cA ad A Q hQ hC hr hk => ?_)
  refine r_aload_n (pc := 0) hC 0 dX10_begins_0 rfl rfl ?_
  refine r_iconst (pc := 1) hC dX10_begins_1 (rng_lit rfl) ?_
  refine r_put (kd := 0) (pc := 2) hC dX10_begins_2 pl_RX10_396 lM_0 rfl (by decide) (Or.inl rfl) ?_
  refine r_aload_n (pc := 5) hC 0 dX10_begins_5 rfl rfl ?_
  refine r_iconst (pc := 6) hC dX10_begins_6 (rng_lit rfl) ?_
  refine r_put (kd := 0) (pc := 7) hC dX10_begins_7 pl_RX10_441 lM_0 rfl (by decide) (Or.inl rfl) ?_
  refine r_aload_n (pc := 10) hC 0 dX10_begins_10 rfl rfl ?_
  refine r_iconst (pc := 11) hC dX10_begins_11 (rng_lit rfl) ?_
  refine r_put (kd := 0) (pc := 12) hC dX10_begins_12 pl_RX10_446 lM_0 rfl (by decide) (Or.inl rfl) ?_
  refine r_conv (w2 := (wI (wI (wI w 0 60 0) 0 61 0) 0 62 0)) rfl ?_
  exact r_retv (pc := 15) hC hQ dX10_begins_15 hr hk ⟨0, 0, 0, rfl, h⟩
