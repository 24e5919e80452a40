def wp_Windows_findReach (qy_termCounts : (Nat → Int)) (mt_beginning : (Nat → Int)) (wi_nextEnds : (Nat → Int)) (wi_reach : (Nat → Int)) (pg_words : Int) (qy_items : Int) (a1 : Int) (Q : (Nat → Int) → (Nat → Int) → Prop) : Prop := wp_JA_fill_35 wi_nextEnds 100 (fun (wi_nextEnds_1 : (Nat → Int)) => (0 ≤ pg_words ∧ pg_words < 101) ∧ ((rng (pg_words - 1)) ∧ (lpw3 (fun (wi_nextEnds_2 : (Nat → Int)) (wi_reach_3 : (Nat → Int)) (x4 : Int) (k1 : (Nat → Int) → (Nat → Int) → Int → Prop) => (x4 < 0 → Q wi_nextEnds_2 wi_reach_3) ∧ (¬ x4 < 0 → (0 ≤ x4 ∧ x4 < 101) ∧ (lpw3 (fun (wi_nextEnds_5 : (Nat → Int)) (wi_reach_6 : (Nat → Int)) (x7 : Int) (k2 : (Nat → Int) → (Nat → Int) → Int → Prop) => (qy_items ≤ x7 → (rng (x4 + (-1))) ∧ (k1 wi_nextEnds_5 wi_reach_6 (x4 + (-1)))) ∧ (¬ qy_items ≤ x7 → (0 ≤ x4 ∧ x4 < 100) ∧ (wp_Picker_has (mt_beginning (Int.toNat x4)) x7 (fun (r8 : Int) => jn1 (fun (J3 : (Nat → Int) → Prop) => (r8 = 0 → J3 wi_nextEnds_5) ∧ (¬ r8 = 0 → (0 ≤ x7 ∧ x7 < 8) ∧ ((rng (x4 + (qy_termCounts (Int.toNat x7)))) ∧ ((rng ((x4 + (qy_termCounts (Int.toNat x7))) - 1)) ∧ ((0 ≤ x7 ∧ x7 < 8) ∧ (J3 (uI wi_nextEnds_5 x7 ((x4 + (qy_termCounts (Int.toNat x7))) - 1)))))))) (fun (wi_nextEnds_9 : (Nat → Int)) => wp_Picker_has a1 x7 (fun (r10 : Int) => jn1 (fun (J4 : (Nat → Int) → Prop) => (r10 = 0 → J4 wi_reach_6) ∧ (¬ r10 = 0 → (0 ≤ x4 ∧ x4 < 101) ∧ ((0 ≤ x7 ∧ x7 < 8) ∧ ((0 ≤ x4 ∧ x4 < 101) ∧ (J4 (uI wi_reach_6 x4 (max (wi_reach_6 (Int.toNat x4)) (wi_nextEnds_9 (Int.toNat x7))))))))) (fun (wi_reach_11 : (Nat → Int)) => (rng (x7 + 1)) ∧ (k2 wi_nextEnds_9 wi_reach_11 (x7 + 1))))))))) wi_nextEnds_2 (uI wi_reach_3 x4 0) 0))) wi_nextEnds_1 (uI wi_reach pg_words 100) (pg_words - 1))))
set_option maxHeartbeats 4000000 in
set_option maxRecDepth 20000 in
theorem s_Windows_findReach (l : Launch) (w : St) (a1 : Int) (P : (Nat → Int) → (Nat → Int) → Prop) (h : wp_Windows_findReach (w.1 20) (w.1 30) (w.1 35) (w.1 36) (w.1 3 16) (w.1 18 6) a1 P) : Cn l yX7_findReach cX7_findReach 4 none 1 LX w [aR 34, aI a1] (okV (fun w1 => ∃ (o0 : (Nat → Int)) (o1 : (Nat → Int)), w1 = (wA (wA w 35 o0) 36 o1) ∧ P o0 o1)) := by
  unfold wp_Windows_findReach at h
  refine Cn.of2 [some (aR 34), some (aI a1), none, none] (by decide) (Nat.le_of_ble_eq_true rfl) rfl (fun p e s m args below meth c D cA ad A Q hQ hC hr hk => ?_)
  refine r_aload_n (pc := 0) hC 0 dX7_findReach_0 rfl rfl ?_
  refine r_getr (r := 35) (pc := 1) hC dX7_findReach_1 fl_RX7_9 lX_34 rfl ?_
  refine r_bipush (pc := 4) hC dX7_findReach_4 ⟨rfl, rng_lit rfl⟩ ?_
  refine r_callSv (pc := 6) hC [aR 35, aI 100] [] dX7_findReach_6 ml_RX7_50 my_J7_fill_53178 ms_J7_fill_53178 rfl ⟨Nat.le_of_ble_eq_true rfl, Nat.le_of_ble_eq_true rfl⟩ ⟨Nat.le_of_ble_eq_true rfl, Nat.le_of_ble_eq_true rfl⟩ (Nat.le_of_ble_eq_true rfl) rfl (s_JA_fill_35 l _ _ _ h) (fun w1 hq => ?_)
  obtain ⟨wi_nextEnds_1, e9, h⟩ := hq
  rw [e9]
  refine r_aload_n (pc := 9) hC 0 dX7_findReach_9 rfl rfl ?_
  refine r_getr (r := 36) (pc := 10) hC dX7_findReach_10 fl_RX7_15 lX_34 rfl ?_
  refine r_aload_n (pc := 13) hC 0 dX7_findReach_13 rfl rfl ?_
  refine r_getr (r := 3) (pc := 14) hC dX7_findReach_14 fl_RX7_18 lX_34 rfl ?_
  refine r_get (kd := 0) (v := (w.1 3 16)) (pc := 17) hC dX7_findReach_17 fl_RX7_56 lX_3 rfl rfl ?_
  refine r_bipush (pc := 20) hC dX7_findReach_20 ⟨rfl, rng_lit rfl⟩ ?_
  refine r_iast (pc := 22) hC dX7_findReach_22 lX_36 h.1.1 h.1.2 ?_
  have h := h.2
  refine r_aload_n (pc := 23) hC 0 dX7_findReach_23 rfl rfl ?_
  refine r_getr (r := 3) (pc := 24) hC dX7_findReach_24 fl_RX7_18 lX_34 rfl ?_
  refine r_get (kd := 0) (v := (w.1 3 16)) (pc := 27) hC dX7_findReach_27 fl_RX7_56 lX_3 rfl rfl ?_
  refine r_iconst (pc := 30) hC dX7_findReach_30 (rng_lit rfl) ?_
  refine r_isub (pc := 31) hC dX7_findReach_31 h.1 ?_
  have h := h.2
  refine r_istore_n (ls2 := [some (aR 34), some (aI a1), some (aI ((w.1 3 16) - 1)), none]) (pc := 32) hC 2 dX7_findReach_32 rfl (by decide) rfl rfl ?_
  obtain ⟨I1, μ1, hI1, hB1⟩ := h
  have S1 : ∀ (nn : Nat) (wi_nextEnds_2 : (Nat → Int)) (wi_reach_3 : (Nat → Int)) (x4 : Int), μ1 wi_nextEnds_2 wi_reach_3 x4 < nn → I1 wi_nextEnds_2 wi_reach_3 x4 → Wd p l e (rmD 1) s m args below meth c Q 0 0 4 D cA ad A LX (wA (wA w 35 wi_nextEnds_2) 36 wi_reach_3) 33 [some (aR 34), some (aI a1), some (aI x4), none] [] := by
    intro nn
    induction nn with
    | zero => intro wi_nextEnds_2 wi_reach_3 x4 hn; exact absurd hn (Nat.not_lt_zero _)
    | succ nn ih1 =>
      intro wi_nextEnds_2 wi_reach_3 x4 hn1 hi
      have h := hB1 wi_nextEnds_2 wi_reach_3 x4 hi
      refine r_iload_n (pc := 33) hC 2 dX7_findReach_33 rfl rfl ?_
      refine r_if_lt (pc := 34) (tgt := 133) hC dX7_findReach_34 rfl (fun hc4 => ?_) (fun hc4 => ?_)
      · have h := h.1 hc4
        refine r_conv (w2 := (wA (wA w 35 wi_nextEnds_2) 36 wi_reach_3)) rfl ?_
        exact r_retv (pc := 133) hC hQ dX7_findReach_133 hr hk ⟨wi_nextEnds_2, wi_reach_3, rfl, h⟩
      have h := h.2 hc4
      refine r_aload_n (pc := 37) hC 0 dX7_findReach_37 rfl rfl ?_
      refine r_getr (r := 36) (pc := 38) hC dX7_findReach_38 fl_RX7_15 lX_34 rfl ?_
      refine r_iload_n (pc := 41) hC 2 dX7_findReach_41 rfl rfl ?_
      refine r_iconst (pc := 42) hC dX7_findReach_42 (rng_lit rfl) ?_
      refine r_iast (pc := 43) hC dX7_findReach_43 lX_36 h.1.1 h.1.2 ?_
      have h := h.2
      refine r_iconst (pc := 44) hC dX7_findReach_44 (rng_lit rfl) ?_
      refine r_istore_n (ls2 := [some (aR 34), some (aI a1), some (aI x4), some (aI 0)]) (pc := 45) hC 3 dX7_findReach_45 rfl (by decide) rfl rfl ?_
      obtain ⟨I2, μ2, hI2, hB2⟩ := h
      have S2 : ∀ (nn : Nat) (wi_nextEnds_5 : (Nat → Int)) (wi_reach_6 : (Nat → Int)) (x7 : Int), μ2 wi_nextEnds_5 wi_reach_6 x7 < nn → I2 wi_nextEnds_5 wi_reach_6 x7 → Wd p l e (rmD 1) s m args below meth c Q 0 0 4 D cA ad A LX (wA (wA w 35 wi_nextEnds_5) 36 wi_reach_6) 46 [some (aR 34), some (aI a1), some (aI x4), some (aI x7)] [] := by
        intro nn
        induction nn with
        | zero => intro wi_nextEnds_5 wi_reach_6 x7 hn; exact absurd hn (Nat.not_lt_zero _)
        | succ nn ih2 =>
          intro wi_nextEnds_5 wi_reach_6 x7 hn2 hi
          have h := hB2 wi_nextEnds_5 wi_reach_6 x7 hi
          refine r_iload_n (pc := 46) hC 3 dX7_findReach_46 rfl rfl ?_
          refine r_aload_n (pc := 47) hC 0 dX7_findReach_47 rfl rfl ?_
          refine r_getr (r := 18) (pc := 48) hC dX7_findReach_48 fl_RX7_22 lX_34 rfl ?_
          refine r_get (kd := 0) (v := (w.1 18 6)) (pc := 51) hC dX7_findReach_51 fl_RX7_59 lX_18 rfl rfl ?_
          refine r_ic_ge (pc := 54) (tgt := 127) hC dX7_findReach_54 rfl (fun hc3 => ?_) (fun hc3 => ?_)
          · have h := h.1 hc3
            refine r_iinc (ls2 := [some (aR 34), some (aI a1), some (aI (x4 + (-1))), some (aI x7)]) (pc := 127) hC dX7_findReach_127 rfl (by decide) rfl h.1 rfl ?_
            have h := h.2
            refine r_goto (tgt := 33) (pc := 130) hC dX7_findReach_130 rfl ?_
            exact r_to [true, true, true, false] rfl rfl (ih1 wi_nextEnds_5 wi_reach_6 (x4 + (-1)) (Nat.lt_of_lt_of_le h.2 (Nat.le_of_lt_succ hn1)) h.1)
          have h := h.2 hc3
          refine r_aload_n (pc := 57) hC 0 dX7_findReach_57 rfl rfl ?_
          refine r_getr (r := 29) (pc := 58) hC dX7_findReach_58 fl_RX7_26 lX_34 rfl ?_
          refine r_getr (r := 30) (pc := 61) hC dX7_findReach_61 fl_RX7_64 lX_29 rfl ?_
          refine r_iload_n (pc := 64) hC 2 dX7_findReach_64 rfl rfl ?_
          refine r_iald (v := ((w.1 30) (Int.toNat x4))) (pc := 65) hC dX7_findReach_65 lX_30 h.1.1 h.1.2 rfl ?_
          have h := h.2
          refine r_iload_n (pc := 66) hC 3 dX7_findReach_66 rfl rfl ?_
          refine r_callSNi (pc := 67) hC [aI ((w.1 30) (Int.toNat x4)), aI x7] [] dX7_findReach_67 nl_RX7_69 my_X9_has ms_X9_has rfl ⟨Nat.le_of_ble_eq_true rfl, Nat.le_of_ble_eq_true rfl⟩ ⟨Nat.le_of_ble_eq_true rfl, Nat.le_of_ble_eq_true rfl⟩ (Nat.le_of_ble_eq_true rfl) rfl (s_Picker_has l _ _ _ _ h) (fun r8 w1 hq => ?_)
          obtain ⟨e9, h⟩ := hq
          rw [e9]
          obtain ⟨J3, hJ3, h⟩ := h
          have S3 : ∀ (wi_nextEnds_9 : (Nat → Int)), J3 wi_nextEnds_9 → Wd p l e (rmD 1) s m args below meth c Q 0 0 4 D cA ad A LX (wA (wA w 35 wi_nextEnds_9) 36 wi_reach_6) 92 [some (aR 34), some (aI a1), some (aI x4), some (aI x7)] [] := by
            intro wi_nextEnds_9 hj
            have h := hJ3 wi_nextEnds_9 hj
            refine r_iload_n (pc := 92) hC 1 dX7_findReach_92 rfl rfl ?_
            refine r_iload_n (pc := 93) hC 3 dX7_findReach_93 rfl rfl ?_
            refine r_callSNi (pc := 94) hC [aI a1, aI x7] [] dX7_findReach_94 nl_RX7_69 my_X9_has ms_X9_has rfl ⟨Nat.le_of_ble_eq_true rfl, Nat.le_of_ble_eq_true rfl⟩ ⟨Nat.le_of_ble_eq_true rfl, Nat.le_of_ble_eq_true rfl⟩ (Nat.le_of_ble_eq_true rfl) rfl (s_Picker_has l _ _ _ _ h) (fun r10 w1 hq => ?_)
            obtain ⟨e9, h⟩ := hq
            rw [e9]
            obtain ⟨J4, hJ4, h⟩ := h
            have S4 : ∀ (wi_reach_11 : (Nat → Int)), J4 wi_reach_11 → Wd p l e (rmD 1) s m args below meth c Q 0 0 4 D cA ad A LX (wA (wA w 35 wi_nextEnds_9) 36 wi_reach_11) 121 [some (aR 34), some (aI a1), some (aI x4), some (aI x7)] [] := by
              intro wi_reach_11 hj
              have h := hJ4 wi_reach_11 hj
              refine r_iinc (ls2 := [some (aR 34), some (aI a1), some (aI x4), some (aI (x7 + 1))]) (pc := 121) hC dX7_findReach_121 rfl (by decide) rfl h.1 rfl ?_
              have h := h.2
              refine r_goto (tgt := 46) (pc := 124) hC dX7_findReach_124 rfl ?_
              exact r_to [true, true, true, true] rfl rfl (ih2 wi_nextEnds_9 wi_reach_11 (x7 + 1) (Nat.lt_of_lt_of_le h.2 (Nat.le_of_lt_succ hn2)) h.1)
            refine r_if_eq (pc := 97) (tgt := 121) hC dX7_findReach_97 rfl (fun hc1 => ?_) (fun hc1 => ?_)
            · have h := h.1 hc1
              exact r_to [true, true, true, true] rfl rfl (S4 wi_reach_6 h)
            have h := h.2 hc1
            refine r_aload_n (pc := 100) hC 0 dX7_findReach_100 rfl rfl ?_
            refine r_getr (r := 36) (pc := 101) hC dX7_findReach_101 fl_RX7_15 lX_34 rfl ?_
            refine r_iload_n (pc := 104) hC 2 dX7_findReach_104 rfl rfl ?_
            refine r_aload_n (pc := 105) hC 0 dX7_findReach_105 rfl rfl ?_
            refine r_getr (r := 36) (pc := 106) hC dX7_findReach_106 fl_RX7_15 lX_34 rfl ?_
            refine r_iload_n (pc := 109) hC 2 dX7_findReach_109 rfl rfl ?_
            refine r_iald (v := (wi_reach_6 (Int.toNat x4))) (pc := 110) hC dX7_findReach_110 lX_36 h.1.1 h.1.2 rfl ?_
            have h := h.2
            refine r_aload_n (pc := 111) hC 0 dX7_findReach_111 rfl rfl ?_
            refine r_getr (r := 35) (pc := 112) hC dX7_findReach_112 fl_RX7_9 lX_34 rfl ?_
            refine r_iload_n (pc := 115) hC 3 dX7_findReach_115 rfl rfl ?_
            refine r_iald (v := (wi_nextEnds_9 (Int.toNat x7))) (pc := 116) hC dX7_findReach_116 lX_35 h.1.1 h.1.2 rfl ?_
            have h := h.2
            refine r_max (pc := 117) hC dX7_findReach_117 ml_RX7_76 ks_max ks_Math kd_max ⟨Nat.le_of_ble_eq_true rfl, Nat.le_of_ble_eq_true rfl⟩ ⟨Nat.le_of_ble_eq_true rfl, Nat.le_of_ble_eq_true rfl⟩ (Nat.le_of_ble_eq_true rfl) ?_
            refine r_iast (pc := 120) hC dX7_findReach_120 lX_36 h.1.1 h.1.2 ?_
            have h := h.2
            exact r_to [true, true, true, true] rfl rfl (S4 (uI wi_reach_6 x4 (max (wi_reach_6 (Int.toNat x4)) (wi_nextEnds_9 (Int.toNat x7)))) h)
          refine r_if_eq (pc := 70) (tgt := 92) hC dX7_findReach_70 rfl (fun hc2 => ?_) (fun hc2 => ?_)
          · have h := h.1 hc2
            exact r_to [true, true, true, true] rfl rfl (S3 wi_nextEnds_5 h)
          have h := h.2 hc2
          refine r_aload_n (pc := 73) hC 0 dX7_findReach_73 rfl rfl ?_
          refine r_getr (r := 35) (pc := 74) hC dX7_findReach_74 fl_RX7_9 lX_34 rfl ?_
          refine r_iload_n (pc := 77) hC 3 dX7_findReach_77 rfl rfl ?_
          refine r_iload_n (pc := 78) hC 2 dX7_findReach_78 rfl rfl ?_
          refine r_aload_n (pc := 79) hC 0 dX7_findReach_79 rfl rfl ?_
          refine r_getr (r := 18) (pc := 80) hC dX7_findReach_80 fl_RX7_22 lX_34 rfl ?_
          refine r_getr (r := 20) (pc := 83) hC dX7_findReach_83 fl_RX7_73 lX_18 rfl ?_
          refine r_iload_n (pc := 86) hC 3 dX7_findReach_86 rfl rfl ?_
          refine r_iald (v := ((w.1 20) (Int.toNat x7))) (pc := 87) hC dX7_findReach_87 lX_20 h.1.1 h.1.2 rfl ?_
          have h := h.2
          refine r_iadd (pc := 88) hC dX7_findReach_88 h.1 ?_
          have h := h.2
          refine r_iconst (pc := 89) hC dX7_findReach_89 (rng_lit rfl) ?_
          refine r_isub (pc := 90) hC dX7_findReach_90 h.1 ?_
          have h := h.2
          refine r_iast (pc := 91) hC dX7_findReach_91 lX_35 h.1.1 h.1.2 ?_
          have h := h.2
          exact r_to [true, true, true, true] rfl rfl (S3 (uI wi_nextEnds_5 x7 ((x4 + ((w.1 20) (Int.toNat x7))) - 1)) h)
      exact r_to [true, true, true, true] rfl rfl (S2 _ wi_nextEnds_2 (uI wi_reach_3 x4 0) 0 (Nat.lt_succ_self _) hI2)
  exact r_to [true, true, true, false] rfl rfl (S1 _ wi_nextEnds_1 (uI (w.1 36) (w.1 3 16) 100) ((w.1 3 16) - 1) (Nat.lt_succ_self _) hI1)
def wp_Windows_isMinimalFrom (wi_reach : (Nat → Int)) (a1 : Int) (Q : Int → Prop) : Prop := (0 ≤ a1 ∧ a1 < 101) ∧ ((rng (a1 + 1)) ∧ ((0 ≤ (a1 + 1) ∧ (a1 + 1) < 101) ∧ (((wi_reach (Int.toNat (a1 + 1))) ≤ (wi_reach (Int.toNat a1)) → Q 0) ∧ (¬ (wi_reach (Int.toNat (a1 + 1))) ≤ (wi_reach (Int.toNat a1)) → Q 1))))
set_option maxHeartbeats 4000000 in
set_option maxRecDepth 20000 in
theorem s_Windows_isMinimalFrom (l : Launch) (w : St) (a1 : Int) (P : Int → Prop) (h : wp_Windows_isMinimalFrom (w.1 36) a1 P) : Cn l yX7_isMinimalFrom cX7_isMinimalFrom 2 (some .boolean) 0 LX w [aR 34, aI a1] (okI (fun r w1 => w1 = w ∧ P r)) := by
  unfold wp_Windows_isMinimalFrom at h
  refine Cn.of2 [some (aR 34), some (aI a1)] (by decide) (Nat.le_of_ble_eq_true rfl) rfl (fun p e s m args below meth c D cA ad A Q hQ hC hr hk => ?_)
  refine r_aload_n (pc := 0) hC 0 dX7_isMinimalFrom_0 rfl rfl ?_
  refine r_getr (r := 36) (pc := 1) hC dX7_isMinimalFrom_1 fl_RX7_15 lX_34 rfl ?_
  refine r_iload_n (pc := 4) hC 1 dX7_isMinimalFrom_4 rfl rfl ?_
  refine r_iald (v := ((w.1 36) (Int.toNat a1))) (pc := 5) hC dX7_isMinimalFrom_5 lX_36 h.1.1 h.1.2 rfl ?_
  have h := h.2
  refine r_aload_n (pc := 6) hC 0 dX7_isMinimalFrom_6 rfl rfl ?_
  refine r_getr (r := 36) (pc := 7) hC dX7_isMinimalFrom_7 fl_RX7_15 lX_34 rfl ?_
  refine r_iload_n (pc := 10) hC 1 dX7_isMinimalFrom_10 rfl rfl ?_
  refine r_iconst (pc := 11) hC dX7_isMinimalFrom_11 (rng_lit rfl) ?_
  refine r_iadd (pc := 12) hC dX7_isMinimalFrom_12 h.1 ?_
  have h := h.2
  refine r_iald (v := ((w.1 36) (Int.toNat (a1 + 1)))) (pc := 13) hC dX7_isMinimalFrom_13 lX_36 h.1.1 h.1.2 rfl ?_
  have h := h.2
  refine r_ic_ge (pc := 14) (tgt := 21) hC dX7_isMinimalFrom_14 rfl (fun hc1 => ?_) (fun hc1 => ?_)
  · have h := h.1 hc1
    refine r_iconst (pc := 21) hC dX7_isMinimalFrom_21 (rng_lit rfl) ?_
    exact r_reti (pc := 22) (kd := 1) hC hQ dX7_isMinimalFrom_22 hr hk (by decide) (Or.inr okK1_0) ⟨rfl, h⟩
  have h := h.2 hc1
  refine r_iconst (pc := 17) hC dX7_isMinimalFrom_17 (rng_lit rfl) ?_
  refine r_goto (tgt := 22) (pc := 18) hC dX7_isMinimalFrom_18 rfl ?_
  exact r_reti (pc := 22) (kd := 1) hC hQ dX7_isMinimalFrom_22 hr hk (by decide) (Or.inr okK1_1) ⟨rfl, h⟩
def wp_Windows_countMinimal (qy_termCounts : (Nat → Int)) (mt_beginning : (Nat → Int)) (wi_nextEnds : (Nat → Int)) (wi_reach : (Nat → Int)) (pg_words : Int) (qy_items : Int) (a1 : Int) (Q : Int → (Nat → Int) → (Nat → Int) → Prop) : Prop := wp_Windows_findReach qy_termCounts mt_beginning wi_nextEnds wi_reach pg_words qy_items a1 (fun (wi_nextEnds_1 : (Nat → Int)) (wi_reach_2 : (Nat → Int)) => lpw2 (fun (x3 : Int) (x4 : Int) (k1 : Int → Int → Prop) => (pg_words ≤ x4 → Q x3 wi_nextEnds_1 wi_reach_2) ∧ (¬ pg_words ≤ x4 → wp_Windows_isMinimalFrom wi_reach_2 x4 (fun (r5 : Int) => jn1 (fun (J2 : Int → Prop) => (r5 = 0 → J2 0) ∧ (¬ r5 = 0 → J2 1)) (fun (y6 : Int) => (rng (x3 + y6)) ∧ ((rng (x4 + 1)) ∧ (k1 (x3 + y6) (x4 + 1))))))) 0 0)
set_option maxHeartbeats 4000000 in
set_option maxRecDepth 20000 in
theorem s_Windows_countMinimal (l : Launch) (w : St) (a1 : Int) (P : Int → (Nat → Int) → (Nat → Int) → Prop) (h : wp_Windows_countMinimal (w.1 20) (w.1 30) (w.1 35) (w.1 36) (w.1 3 16) (w.1 18 6) a1 P) : Cn l yX7_countMinimal cX7_countMinimal 4 (some .int) 2 LX w [aR 34, aI a1] (okI (fun r w1 => ∃ (o0 : (Nat → Int)) (o1 : (Nat → Int)), w1 = (wA (wA w 35 o0) 36 o1) ∧ P r o0 o1)) := by
  unfold wp_Windows_countMinimal at h
  refine Cn.of2 [some (aR 34), some (aI a1), none, none] (by decide) (Nat.le_of_ble_eq_true rfl) rfl (fun p e s m args below meth c D cA ad A Q hQ hC hr hk => ?_)
  refine r_aload_n (pc := 0) hC 0 dX7_countMinimal_0 rfl rfl ?_
  refine r_iload_n (pc := 1) hC 1 dX7_countMinimal_1 rfl rfl ?_
  refine r_callVv (pc := 2) hC [aI a1] [] dX7_countMinimal_2 ml_RX7_81 my_X7_findReach mi_X7_findReach lX_34 rfl rfl ⟨Nat.le_of_ble_eq_true rfl, Nat.le_of_ble_eq_true rfl⟩ ⟨Nat.le_of_ble_eq_true rfl, Nat.le_of_ble_eq_true rfl⟩ (Nat.le_of_ble_eq_true rfl) rfl (s_Windows_findReach l _ _ _ h) (fun w1 hq => ?_)
  obtain ⟨wi_nextEnds_1, wi_reach_2, e9, h⟩ := hq
  rw [e9]
  refine r_iconst (pc := 5) hC dX7_countMinimal_5 (rng_lit rfl) ?_
  refine r_istore_n (ls2 := [some (aR 34), some (aI a1), some (aI 0), none]) (pc := 6) hC 2 dX7_countMinimal_6 rfl (by decide) rfl rfl ?_
  refine r_iconst (pc := 7) hC dX7_countMinimal_7 (rng_lit rfl) ?_
  refine r_istore_n (ls2 := [some (aR 34), some (aI a1), some (aI 0), some (aI 0)]) (pc := 8) hC 3 dX7_countMinimal_8 rfl (by decide) rfl rfl ?_
  obtain ⟨I1, μ1, hI1, hB1⟩ := h
  have S1 : ∀ (nn : Nat) (x3 : Int) (x4 : Int), μ1 x3 x4 < nn → I1 x3 x4 → Wd p l e (rmD 2) s m args below meth c Q 0 0 4 D cA ad A LX (wA (wA w 35 wi_nextEnds_1) 36 wi_reach_2) 9 [some (aR 34), none, some (aI x3), some (aI x4)] [] := by
    intro nn
    induction nn with
    | zero => intro x3 x4 hn; exact absurd hn (Nat.not_lt_zero _)
    | succ nn ih1 =>
      intro x3 x4 hn1 hi
      have h := hB1 x3 x4 hi
      refine r_iload_n (pc := 9) hC 3 dX7_countMinimal_9 rfl rfl ?_
      refine r_aload_n (pc := 10) hC 0 dX7_countMinimal_10 rfl rfl ?_
      refine r_getr (r := 3) (pc := 11) hC dX7_countMinimal_11 fl_RX7_18 lX_34 rfl ?_
      refine r_get (kd := 0) (v := (w.1 3 16)) (pc := 14) hC dX7_countMinimal_14 fl_RX7_56 lX_3 rfl rfl ?_
      refine r_ic_ge (pc := 17) (tgt := 42) hC dX7_countMinimal_17 rfl (fun hc2 => ?_) (fun hc2 => ?_)
      · have h := h.1 hc2
        refine r_iload_n (pc := 42) hC 2 dX7_countMinimal_42 rfl rfl ?_
        refine r_conv (w2 := (wA (wA w 35 wi_nextEnds_1) 36 wi_reach_2)) rfl ?_
        exact r_reti (pc := 43) (kd := 0) hC hQ dX7_countMinimal_43 hr hk (by decide) (Or.inl rfl) ⟨wi_nextEnds_1, wi_reach_2, rfl, h⟩
      have h := h.2 hc2
      refine r_iload_n (pc := 20) hC 2 dX7_countMinimal_20 rfl rfl ?_
      refine r_aload_n (pc := 21) hC 0 dX7_countMinimal_21 rfl rfl ?_
      refine r_iload_n (pc := 22) hC 3 dX7_countMinimal_22 rfl rfl ?_
      refine r_callVi (pc := 23) hC [aI x4] [aI x3] dX7_countMinimal_23 ml_RX7_85 my_X7_isMinimalFrom mi_X7_isMinimalFrom lX_34 rfl rfl ⟨Nat.le_of_ble_eq_true rfl, Nat.le_of_ble_eq_true rfl⟩ ⟨Nat.le_of_ble_eq_true rfl, Nat.le_of_ble_eq_true rfl⟩ (Nat.le_of_ble_eq_true rfl) rfl (s_Windows_isMinimalFrom l _ _ _ h) (fun r5 w1 hq => ?_)
      obtain ⟨e9, h⟩ := hq
      rw [e9]
      obtain ⟨J2, hJ2, h⟩ := h
      have S2 : ∀ (y6 : Int), J2 y6 → Wd p l e (rmD 2) s m args below meth c Q 0 0 4 D cA ad A LX (wA (wA w 35 wi_nextEnds_1) 36 wi_reach_2) 34 [some (aR 34), none, none, some (aI x4)] [aI y6, aI x3] := by
        intro y6 hj
        have h := hJ2 y6 hj
        refine r_iadd (pc := 34) hC dX7_countMinimal_34 h.1 ?_
        have h := h.2
        refine r_istore_n (ls2 := [some (aR 34), none, some (aI (x3 + y6)), some (aI x4)]) (pc := 35) hC 2 dX7_countMinimal_35 rfl (by decide) rfl rfl ?_
        refine r_iinc (ls2 := [some (aR 34), none, some (aI (x3 + y6)), some (aI (x4 + 1))]) (pc := 36) hC dX7_countMinimal_36 rfl (by decide) rfl h.1 rfl ?_
        have h := h.2
        refine r_goto (tgt := 9) (pc := 39) hC dX7_countMinimal_39 rfl ?_
        exact r_to [true, false, true, true] rfl rfl (ih1 (x3 + y6) (x4 + 1) (Nat.lt_of_lt_of_le h.2 (Nat.le_of_lt_succ hn1)) h.1)
      refine r_if_eq (pc := 26) (tgt := 33) hC dX7_countMinimal_26 rfl (fun hc1 => ?_) (fun hc1 => ?_)
      · have h := h.1 hc1
        refine r_iconst (pc := 33) hC dX7_countMinimal_33 (rng_lit rfl) ?_
        exact r_to [true, false, false, true] rfl rfl (S2 0 h)
      have h := h.2 hc1
      refine r_iconst (pc := 29) hC dX7_countMinimal_29 (rng_lit rfl) ?_
      refine r_goto (tgt := 34) (pc := 30) hC dX7_countMinimal_30 rfl ?_
      exact r_to [true, false, false, true] rfl rfl (S2 1 h)
  exact r_to [true, false, true, true] rfl rfl (S1 _ 0 0 (Nat.lt_succ_self _) hI1)
def wp_Windows_seekMinimal (qy_termCounts : (Nat → Int)) (mt_beginning : (Nat → Int)) (wi_nextEnds : (Nat → Int)) (wi_reach : (Nat → Int)) (pg_words : Int) (qy_items : Int) (wi_first : Int) (wi_last : Int) (wi_worth : Int) (wi_whole : Int) (a1 : Int) (a2 : Int) (Q : (Nat → Int) → (Nat → Int) → Int → Int → Int → Int → Prop) : Prop := wp_Windows_forget wi_first wi_last wi_worth wi_whole (fun (wi_first_1 : Int) (wi_last_2 : Int) (wi_worth_3 : Int) (wi_whole_4 : Int) => wp_Windows_findReach qy_termCounts mt_beginning wi_nextEnds wi_reach pg_words qy_items a1 (fun (wi_nextEnds_5 : (Nat → Int)) (wi_reach_6 : (Nat → Int)) => lpw4 (fun (wi_first_7 : Int) (wi_last_8 : Int) (x9 : Int) (x10 : Int) (k1 : Int → Int → Int → Int → Prop) => (pg_words ≤ x10 → Q wi_nextEnds_5 wi_reach_6 wi_first_7 wi_last_8 wi_worth_3 wi_whole_4) ∧ (¬ pg_words ≤ x10 → wp_Windows_isMinimalFrom wi_reach_6 x10 (fun (r11 : Int) => jn3 (fun (J2 : Int → Int → Int → Prop) => (r11 = 0 → J2 wi_first_7 wi_last_8 x9) ∧ (¬ r11 = 0 → jn2 (fun (J3 : Int → Int → Prop) => (¬ x9 = a2 → J3 wi_first_7 wi_last_8) ∧ (x9 = a2 → (0 ≤ x10 ∧ x10 < 101) ∧ (J3 x10 (wi_reach_6 (Int.toNat x10))))) (fun (wi_first_15 : Int) (wi_last_16 : Int) => (rng (x9 + 1)) ∧ (J2 wi_first_15 wi_last_16 (x9 + 1))))) (fun (wi_first_12 : Int) (wi_last_13 : Int) (x14 : Int) => (rng (x10 + 1)) ∧ (k1 wi_first_12 wi_last_13 x14 (x10 + 1)))))) wi_first_1 wi_last_2 0 0))
set_option maxHeartbeats 4000000 in
set_option maxRecDepth 20000 in
theorem s_Windows_seekMinimal (l : Launch) (w : St) (a1 : Int) (a2 : Int) (P : (Nat → Int) → (Nat → Int) → Int → Int → Int → Int → Prop) (h : wp_Windows_seekMinimal (w.1 20) (w.1 30) (w.1 35) (w.1 36) (w.1 3 16) (w.1 18 6) (w.1 34 5) (w.1 34 6) (w.1 34 7) (w.1 34 8) a1 a2 P) : Cn l yX7_seekMinimal cX7_seekMinimal 5 none 2 LX w [aR 34, aI a1, aI a2] (okV (fun w1 => ∃ (o0 : (Nat → Int)) (o1 : (Nat → Int)) (o2 : Int) (o3 : Int) (o4 : Int) (o5 : Int), w1 = (wI (wI (wI (wI (wA (wA w 35 o0) 36 o1) 34 5 o2) 34 6 o3) 34 7 o4) 34 8 o5) ∧ P o0 o1 o2 o3 o4 o5)) := by
  unfold wp_Windows_seekMinimal at h
  refine Cn.of2 [some (aR 34), some (aI a1), some (aI a2), none, none] (by decide) (Nat.le_of_ble_eq_true rfl) rfl (fun p e s m args below meth c D cA ad A Q hQ hC hr hk => ?_)
  refine r_aload_n (pc := 0) hC 0 dX7_seekMinimal_0 rfl rfl ?_
  refine r_callVv (pc := 1) hC [] [] dX7_seekMinimal_1 ml_RX7_89 my_X7_forget mi_X7_forget lX_34 rfl rfl ⟨Nat.le_of_ble_eq_true rfl, Nat.le_of_ble_eq_true rfl⟩ ⟨Nat.le_of_ble_eq_true rfl, Nat.le_of_ble_eq_true rfl⟩ (Nat.le_of_ble_eq_true rfl) rfl (s_Windows_forget l _ _ h) (fun w1 hq => ?_)
  obtain ⟨wi_first_1, wi_last_2, wi_worth_3, wi_whole_4, e9, h⟩ := hq
  rw [e9]
  refine r_aload_n (pc := 4) hC 0 dX7_seekMinimal_4 rfl rfl ?_
  refine r_iload_n (pc := 5) hC 1 dX7_seekMinimal_5 rfl rfl ?_
  refine r_callVv (pc := 6) hC [aI a1] [] dX7_seekMinimal_6 ml_RX7_81 my_X7_findReach mi_X7_findReach lX_34 rfl rfl ⟨Nat.le_of_ble_eq_true rfl, Nat.le_of_ble_eq_true rfl⟩ ⟨Nat.le_of_ble_eq_true rfl, Nat.le_of_ble_eq_true rfl⟩ (Nat.le_of_ble_eq_true rfl) rfl (s_Windows_findReach l _ _ _ h) (fun w1 hq => ?_)
  obtain ⟨wi_nextEnds_5, wi_reach_6, e9, h⟩ := hq
  rw [e9]
  refine r_iconst (pc := 9) hC dX7_seekMinimal_9 (rng_lit rfl) ?_
  refine r_istore_n (ls2 := [some (aR 34), some (aI a1), some (aI a2), some (aI 0), none]) (pc := 10) hC 3 dX7_seekMinimal_10 rfl (by decide) rfl rfl ?_
  refine r_iconst (pc := 11) hC dX7_seekMinimal_11 (rng_lit rfl) ?_
  refine r_istore (ls2 := [some (aR 34), some (aI a1), some (aI a2), some (aI 0), some (aI 0)]) (pc := 12) hC dX7_seekMinimal_12 (by decide) rfl rfl ?_
  obtain ⟨I1, μ1, hI1, hB1⟩ := h
  have S1 : ∀ (nn : Nat) (wi_first_7 : Int) (wi_last_8 : Int) (x9 : Int) (x10 : Int), μ1 wi_first_7 wi_last_8 x9 x10 < nn → I1 wi_first_7 wi_last_8 x9 x10 → Wd p l e (rmD 2) s m args below meth c Q 0 0 5 D cA ad A LX (wI (wI (wI (wI (wA (wA w 35 wi_nextEnds_5) 36 wi_reach_6) 34 5 wi_first_7) 34 6 wi_last_8) 34 7 wi_worth_3) 34 8 wi_whole_4) 14 [some (aR 34), none, some (aI a2), some (aI x9), some (aI x10)] [] := by
    intro nn
    induction nn with
    | zero => intro wi_first_7 wi_last_8 x9 x10 hn; exact absurd hn (Nat.not_lt_zero _)
    | succ nn ih1 =>
      intro wi_first_7 wi_last_8 x9 x10 hn1 hi
      have h := hB1 wi_first_7 wi_last_8 x9 x10 hi
      refine r_iload (pc := 14) hC dX7_seekMinimal_14 rfl ?_
      refine r_aload_n (pc := 16) hC 0 dX7_seekMinimal_16 rfl rfl ?_
      refine r_getr (r := 3) (pc := 17) hC dX7_seekMinimal_17 fl_RX7_18 lX_34 rfl ?_
      refine r_get (kd := 0) (v := (w.1 3 16)) (pc := 20) hC dX7_seekMinimal_20 fl_RX7_56 lX_3 rfl rfl ?_
      refine r_ic_ge (pc := 23) (tgt := 66) hC dX7_seekMinimal_23 rfl (fun hc3 => ?_) (fun hc3 => ?_)
      · have h := h.1 hc3
        refine r_conv (w2 := (wI (wI (wI (wI (wA (wA w 35 wi_nextEnds_5) 36 wi_reach_6) 34 5 wi_first_7) 34 6 wi_last_8) 34 7 wi_worth_3) 34 8 wi_whole_4)) rfl ?_
        exact r_retv (pc := 66) hC hQ dX7_seekMinimal_66 hr hk ⟨wi_nextEnds_5, wi_reach_6, wi_first_7, wi_last_8, wi_worth_3, wi_whole_4, rfl, h⟩
      have h := h.2 hc3
      refine r_aload_n (pc := 26) hC 0 dX7_seekMinimal_26 rfl rfl ?_
      refine r_iload (pc := 27) hC dX7_seekMinimal_27 rfl ?_
      refine r_callVi (pc := 29) hC [aI x10] [] dX7_seekMinimal_29 ml_RX7_85 my_X7_isMinimalFrom mi_X7_isMinimalFrom lX_34 rfl rfl ⟨Nat.le_of_ble_eq_true rfl, Nat.le_of_ble_eq_true rfl⟩ ⟨Nat.le_of_ble_eq_true rfl, Nat.le_of_ble_eq_true rfl⟩ (Nat.le_of_ble_eq_true rfl) rfl (s_Windows_isMinimalFrom l _ _ _ h) (fun r11 w1 hq => ?_)
      obtain ⟨e9, h⟩ := hq
      rw [e9]
      obtain ⟨J2, hJ2, h⟩ := h
      have S2 : ∀ (wi_first_12 : Int) (wi_last_13 : Int) (x14 : Int), J2 wi_first_12 wi_last_13 x14 → Wd p l e (rmD 2) s m args below meth c Q 0 0 5 D cA ad A LX (wI (wI (wI (wI (wA (wA w 35 wi_nextEnds_5) 36 wi_reach_6) 34 5 wi_first_12) 34 6 wi_last_13) 34 7 wi_worth_3) 34 8 wi_whole_4) 60 [some (aR 34), none, some (aI a2), some (aI x14), some (aI x10)] [] := by
        intro wi_first_12 wi_last_13 x14 hj
        have h := hJ2 wi_first_12 wi_last_13 x14 hj
        refine r_iinc (ls2 := [some (aR 34), none, some (aI a2), some (aI x14), some (aI (x10 + 1))]) (pc := 60) hC dX7_seekMinimal_60 rfl (by decide) rfl h.1 rfl ?_
        have h := h.2
        refine r_goto (tgt := 14) (pc := 63) hC dX7_seekMinimal_63 rfl ?_
        exact r_to [true, false, true, true, true] rfl rfl (ih1 wi_first_12 wi_last_13 x14 (x10 + 1) (Nat.lt_of_lt_of_le h.2 (Nat.le_of_lt_succ hn1)) h.1)
      refine r_if_eq (pc := 32) (tgt := 60) hC dX7_seekMinimal_32 rfl (fun hc2 => ?_) (fun hc2 => ?_)
      · have h := h.1 hc2
        exact r_to [true, false, true, true, true] rfl rfl (S2 wi_first_7 wi_last_8 x9 h)
      have h := h.2 hc2
      refine r_iload_n (pc := 35) hC 3 dX7_seekMinimal_35 rfl rfl ?_
      refine r_iload_n (pc := 36) hC 2 dX7_seekMinimal_36 rfl rfl ?_
      obtain ⟨J3, hJ3, h⟩ := h
      have S3 : ∀ (wi_first_15 : Int) (wi_last_16 : Int), J3 wi_first_15 wi_last_16 → Wd p l e (rmD 2) s m args below meth c Q 0 0 5 D cA ad A LX (wI (wI (wI (wI (wA (wA w 35 wi_nextEnds_5) 36 wi_reach_6) 34 5 wi_first_15) 34 6 wi_last_16) 34 7 wi_worth_3) 34 8 wi_whole_4) 57 [some (aR 34), none, some (aI a2), some (aI x9), some (aI x10)] [] := by
        intro wi_first_15 wi_last_16 hj
        have h := hJ3 wi_first_15 wi_last_16 hj
        refine r_iinc (ls2 := [some (aR 34), none, some (aI a2), some (aI (x9 + 1)), some (aI x10)]) (pc := 57) hC dX7_seekMinimal_57 rfl (by decide) rfl h.1 rfl ?_
        have h := h.2
        exact r_to [true, false, true, true, true] rfl rfl (S2 wi_first_15 wi_last_16 (x9 + 1) h)
      refine r_ic_ne (pc := 37) (tgt := 57) hC dX7_seekMinimal_37 rfl (fun hc1 => ?_) (fun hc1 => ?_)
      · have h := h.1 hc1
        exact r_to [true, false, true, true, true] rfl rfl (S3 wi_first_7 wi_last_8 h)
      have h := h.2 hc1
      refine r_aload_n (pc := 40) hC 0 dX7_seekMinimal_40 rfl rfl ?_
      refine r_iload (pc := 41) hC dX7_seekMinimal_41 rfl ?_
      refine r_put (kd := 0) (pc := 43) hC dX7_seekMinimal_43 pl_RX7_30 lX_34 rfl (by decide) (Or.inl rfl) ?_
      refine r_aload_n (pc := 46) hC 0 dX7_seekMinimal_46 rfl rfl ?_
      refine r_aload_n (pc := 47) hC 0 dX7_seekMinimal_47 rfl rfl ?_
      refine r_getr (r := 36) (pc := 48) hC dX7_seekMinimal_48 fl_RX7_15 lX_34 rfl ?_
      refine r_iload (pc := 51) hC dX7_seekMinimal_51 rfl ?_
      refine r_iald (v := (wi_reach_6 (Int.toNat x10))) (pc := 53) hC dX7_seekMinimal_53 lX_36 h.1.1 h.1.2 rfl ?_
      have h := h.2
      refine r_put (kd := 0) (pc := 54) hC dX7_seekMinimal_54 pl_RX7_34 lX_34 rfl (by decide) (Or.inl rfl) ?_
      exact r_to [true, false, true, true, true] rfl rfl (S3 x10 (wi_reach_6 (Int.toNat x10)) h)
  exact r_to [true, false, true, true, true] rfl rfl (S1 _ wi_first_1 wi_last_2 0 0 (Nat.lt_succ_self _) hI1)
def wp_Windows_seekLeast (pg_signAt : (Nat → Int)) (pg_wordBegin : (Nat → Int)) (pg_wordEnd : (Nat → Int)) (qy_termCounts : (Nat → Int)) (mt_beginning : (Nat → Int)) (wi_nextEnds : (Nat → Int)) (wi_reach : (Nat → Int)) (pg_words : Int) (qy_items : Int) (wi_first : Int) (wi_last : Int) (wi_worth : Int) (wi_whole : Int) (a1 : Int) (Q : (Nat → Int) → (Nat → Int) → Int → Int → Int → Int → Prop) : Prop := wp_Windows_forget wi_first wi_last wi_worth wi_whole (fun (wi_first_1 : Int) (wi_last_2 : Int) (wi_worth_3 : Int) (wi_whole_4 : Int) => wp_Windows_findReach qy_termCounts mt_beginning wi_nextEnds wi_reach pg_words qy_items a1 (fun (wi_nextEnds_5 : (Nat → Int)) (wi_reach_6 : (Nat → Int)) => lpw3 (fun (wi_first_7 : Int) (wi_last_8 : Int) (x9 : Int) (k1 : Int → Int → Int → Prop) => (pg_words ≤ x9 → Q wi_nextEnds_5 wi_reach_6 wi_first_7 wi_last_8 wi_worth_3 wi_whole_4) ∧ (¬ pg_words ≤ x9 → wp_Windows_isMinimalFrom wi_reach_6 x9 (fun (r10 : Int) => jn2 (fun (J2 : Int → Int → Prop) => (r10 = 0 → J2 wi_first_7 wi_last_8) ∧ (¬ r10 = 0 → jn0 (fun (J3 : Prop) => (wi_first_7 = (-1) → J3) ∧ (¬ wi_first_7 = (-1) → (0 ≤ x9 ∧ x9 < 101) ∧ (wp_Page_windowLength pg_signAt pg_wordBegin pg_wordEnd x9 (wi_reach_6 (Int.toNat x9)) (fun (r13 : Int) => wp_Page_windowLength pg_signAt pg_wordBegin pg_wordEnd wi_first_7 wi_last_8 (fun (r14 : Int) => (r14 ≤ r13 → J2 wi_first_7 wi_last_8) ∧ (¬ r14 ≤ r13 → J3)))))) ((0 ≤ x9 ∧ x9 < 101) ∧ (J2 x9 (wi_reach_6 (Int.toNat x9)))))) (fun (wi_first_11 : Int) (wi_last_12 : Int) => (rng (x9 + 1)) ∧ (k1 wi_first_11 wi_last_12 (x9 + 1)))))) wi_first_1 wi_last_2 0))
set_option maxHeartbeats 4000000 in
set_option maxRecDepth 20000 in
theorem s_Windows_seekLeast (l : Launch) (w : St) (a1 : Int) (P : (Nat → Int) → (Nat → Int) → Int → Int → Int → Int → Prop) (h : wp_Windows_seekLeast (w.1 6) (w.1 7) (w.1 8) (w.1 20) (w.1 30) (w.1 35) (w.1 36) (w.1 3 16) (w.1 18 6) (w.1 34 5) (w.1 34 6) (w.1 34 7) (w.1 34 8) a1 P) : Cn l yX7_seekLeast cX7_seekLeast 3 none 2 LX w [aR 34, aI a1] (okV (fun w1 => ∃ (o0 : (Nat → Int)) (o1 : (Nat → Int)) (o2 : Int) (o3 : Int) (o4 : Int) (o5 : Int), w1 = (wI (wI (wI (wI (wA (wA w 35 o0) 36 o1) 34 5 o2) 34 6 o3) 34 7 o4) 34 8 o5) ∧ P o0 o1 o2 o3 o4 o5)) := by
  unfold wp_Windows_seekLeast at h
  refine Cn.of2 [some (aR 34), some (aI a1), none] (by decide) (Nat.le_of_ble_eq_true rfl) rfl (fun p e s m args below meth c D cA ad A Q hQ hC hr hk => ?_)
  refine r_aload_n (pc := 0) hC 0 dX7_seekLeast_0 rfl rfl ?_
  refine r_callVv (pc := 1) hC [] [] dX7_seekLeast_1 ml_RX7_89 my_X7_forget mi_X7_forget lX_34 rfl rfl ⟨Nat.le_of_ble_eq_true rfl, Nat.le_of_ble_eq_true rfl⟩ ⟨Nat.le_of_ble_eq_true rfl, Nat.le_of_ble_eq_true rfl⟩ (Nat.le_of_ble_eq_true rfl) rfl (s_Windows_forget l _ _ h) (fun w1 hq => ?_)
  obtain ⟨wi_first_1, wi_last_2, wi_worth_3, wi_whole_4, e9, h⟩ := hq
  rw [e9]
  refine r_aload_n (pc := 4) hC 0 dX7_seekLeast_4 rfl rfl ?_
  refine r_iload_n (pc := 5) hC 1 dX7_seekLeast_5 rfl rfl ?_
  refine r_callVv (pc := 6) hC [aI a1] [] dX7_seekLeast_6 ml_RX7_81 my_X7_findReach mi_X7_findReach lX_34 rfl rfl ⟨Nat.le_of_ble_eq_true rfl, Nat.le_of_ble_eq_true rfl⟩ ⟨Nat.le_of_ble_eq_true rfl, Nat.le_of_ble_eq_true rfl⟩ (Nat.le_of_ble_eq_true rfl) rfl (s_Windows_findReach l _ _ _ h) (fun w1 hq => ?_)
  obtain ⟨wi_nextEnds_5, wi_reach_6, e9, h⟩ := hq
  rw [e9]
  refine r_iconst (pc := 9) hC dX7_seekLeast_9 (rng_lit rfl) ?_
  refine r_istore_n (ls2 := [some (aR 34), some (aI a1), some (aI 0)]) (pc := 10) hC 2 dX7_seekLeast_10 rfl (by decide) rfl rfl ?_
  obtain ⟨I1, μ1, hI1, hB1⟩ := h
  have S1 : ∀ (nn : Nat) (wi_first_7 : Int) (wi_last_8 : Int) (x9 : Int), μ1 wi_first_7 wi_last_8 x9 < nn → I1 wi_first_7 wi_last_8 x9 → Wd p l e (rmD 2) s m args below meth c Q 0 0 3 D cA ad A LX (wI (wI (wI (wI (wA (wA w 35 wi_nextEnds_5) 36 wi_reach_6) 34 5 wi_first_7) 34 6 wi_last_8) 34 7 wi_worth_3) 34 8 wi_whole_4) 11 [some (aR 34), none, some (aI x9)] [] := by
    intro nn
    induction nn with
    | zero => intro wi_first_7 wi_last_8 x9 hn; exact absurd hn (Nat.not_lt_zero _)
    | succ nn ih1 =>
      intro wi_first_7 wi_last_8 x9 hn1 hi
      have h := hB1 wi_first_7 wi_last_8 x9 hi
      refine r_iload_n (pc := 11) hC 2 dX7_seekLeast_11 rfl rfl ?_
      refine r_aload_n (pc := 12) hC 0 dX7_seekLeast_12 rfl rfl ?_
      refine r_getr (r := 3) (pc := 13) hC dX7_seekLeast_13 fl_RX7_18 lX_34 rfl ?_
      refine r_get (kd := 0) (v := (w.1 3 16)) (pc := 16) hC dX7_seekLeast_16 fl_RX7_56 lX_3 rfl rfl ?_
      refine r_ic_ge (pc := 19) (tgt := 91) hC dX7_seekLeast_19 rfl (fun hc4 => ?_) (fun hc4 => ?_)
      · have h := h.1 hc4
        refine r_conv (w2 := (wI (wI (wI (wI (wA (wA w 35 wi_nextEnds_5) 36 wi_reach_6) 34 5 wi_first_7) 34 6 wi_last_8) 34 7 wi_worth_3) 34 8 wi_whole_4)) rfl ?_
        exact r_retv (pc := 91) hC hQ dX7_seekLeast_91 hr hk ⟨wi_nextEnds_5, wi_reach_6, wi_first_7, wi_last_8, wi_worth_3, wi_whole_4, rfl, h⟩
      have h := h.2 hc4
      refine r_aload_n (pc := 22) hC 0 dX7_seekLeast_22 rfl rfl ?_
      refine r_iload_n (pc := 23) hC 2 dX7_seekLeast_23 rfl rfl ?_
      refine r_callVi (pc := 24) hC [aI x9] [] dX7_seekLeast_24 ml_RX7_85 my_X7_isMinimalFrom mi_X7_isMinimalFrom lX_34 rfl rfl ⟨Nat.le_of_ble_eq_true rfl, Nat.le_of_ble_eq_true rfl⟩ ⟨Nat.le_of_ble_eq_true rfl, Nat.le_of_ble_eq_true rfl⟩ (Nat.le_of_ble_eq_true rfl) rfl (s_Windows_isMinimalFrom l _ _ _ h) (fun r10 w1 hq => ?_)
      obtain ⟨e9, h⟩ := hq
      rw [e9]
      obtain ⟨J2, hJ2, h⟩ := h
      have S2 : ∀ (wi_first_11 : Int) (wi_last_12 : Int), J2 wi_first_11 wi_last_12 → Wd p l e (rmD 2) s m args below meth c Q 0 0 3 D cA ad A LX (wI (wI (wI (wI (wA (wA w 35 wi_nextEnds_5) 36 wi_reach_6) 34 5 wi_first_11) 34 6 wi_last_12) 34 7 wi_worth_3) 34 8 wi_whole_4) 85 [some (aR 34), none, some (aI x9)] [] := by
        intro wi_first_11 wi_last_12 hj
        have h := hJ2 wi_first_11 wi_last_12 hj
        refine r_iinc (ls2 := [some (aR 34), none, some (aI (x9 + 1))]) (pc := 85) hC dX7_seekLeast_85 rfl (by decide) rfl h.1 rfl ?_
        have h := h.2
        refine r_goto (tgt := 11) (pc := 88) hC dX7_seekLeast_88 rfl ?_
        exact r_to [true, false, true] rfl rfl (ih1 wi_first_11 wi_last_12 (x9 + 1) (Nat.lt_of_lt_of_le h.2 (Nat.le_of_lt_succ hn1)) h.1)
      refine r_if_eq (pc := 27) (tgt := 85) hC dX7_seekLeast_27 rfl (fun hc3 => ?_) (fun hc3 => ?_)
      · have h := h.1 hc3
        exact r_to [true, false, true] rfl rfl (S2 wi_first_7 wi_last_8 h)
      have h := h.2 hc3
      refine r_aload_n (pc := 30) hC 0 dX7_seekLeast_30 rfl rfl ?_
      refine r_get (kd := 0) (v := wi_first_7) (pc := 31) hC dX7_seekLeast_31 fl_RX7_30 lX_34 rfl rfl ?_
      refine r_iconst (pc := 34) hC dX7_seekLeast_34 (rng_lit rfl) ?_
      obtain ⟨J3, hJ3, h⟩ := h
      have S3 : J3 → Wd p l e (rmD 2) s m args below meth c Q 0 0 3 D cA ad A LX (wI (wI (wI (wI (wA (wA w 35 wi_nextEnds_5) 36 wi_reach_6) 34 5 wi_first_7) 34 6 wi_last_8) 34 7 wi_worth_3) 34 8 wi_whole_4) 70 [some (aR 34), none, some (aI x9)] [] := by
        intro hj
        have h := hJ3 hj
        refine r_aload_n (pc := 70) hC 0 dX7_seekLeast_70 rfl rfl ?_
        refine r_iload_n (pc := 71) hC 2 dX7_seekLeast_71 rfl rfl ?_
        refine r_put (kd := 0) (pc := 72) hC dX7_seekLeast_72 pl_RX7_30 lX_34 rfl (by decide) (Or.inl rfl) ?_
        refine r_aload_n (pc := 75) hC 0 dX7_seekLeast_75 rfl rfl ?_
        refine r_aload_n (pc := 76) hC 0 dX7_seekLeast_76 rfl rfl ?_
        refine r_getr (r := 36) (pc := 77) hC dX7_seekLeast_77 fl_RX7_15 lX_34 rfl ?_
        refine r_iload_n (pc := 80) hC 2 dX7_seekLeast_80 rfl rfl ?_
        refine r_iald (v := (wi_reach_6 (Int.toNat x9))) (pc := 81) hC dX7_seekLeast_81 lX_36 h.1.1 h.1.2 rfl ?_
        have h := h.2
        refine r_put (kd := 0) (pc := 82) hC dX7_seekLeast_82 pl_RX7_34 lX_34 rfl (by decide) (Or.inl rfl) ?_
        exact r_to [true, false, true] rfl rfl (S2 x9 (wi_reach_6 (Int.toNat x9)) h)
      refine r_ic_eq (pc := 35) (tgt := 70) hC dX7_seekLeast_35 rfl (fun hc2 => ?_) (fun hc2 => ?_)
      · have h := h.1 hc2
        exact r_to [true, false, true] rfl rfl (S3 h)
      have h := h.2 hc2
      refine r_aload_n (pc := 38) hC 0 dX7_seekLeast_38 rfl rfl ?_
      refine r_getr (r := 3) (pc := 39) hC dX7_seekLeast_39 fl_RX7_18 lX_34 rfl ?_
      refine r_iload_n (pc := 42) hC 2 dX7_seekLeast_42 rfl rfl ?_
      refine r_aload_n (pc := 43) hC 0 dX7_seekLeast_43 rfl rfl ?_
      refine r_getr (r := 36) (pc := 44) hC dX7_seekLeast_44 fl_RX7_15 lX_34 rfl ?_
      refine r_iload_n (pc := 47) hC 2 dX7_seekLeast_47 rfl rfl ?_
      refine r_iald (v := (wi_reach_6 (Int.toNat x9))) (pc := 48) hC dX7_seekLeast_48 lX_36 h.1.1 h.1.2 rfl ?_
      have h := h.2
      refine r_callVi (pc := 49) hC [aI x9, aI (wi_reach_6 (Int.toNat x9))] [] dX7_seekLeast_49 ml_RX7_44 my_X1_windowLength mi_X1_windowLength lX_3 rfl rfl ⟨Nat.le_of_ble_eq_true rfl, Nat.le_of_ble_eq_true rfl⟩ ⟨Nat.le_of_ble_eq_true rfl, Nat.le_of_ble_eq_true rfl⟩ (Nat.le_of_ble_eq_true rfl) rfl (s_Page_windowLength l _ _ _ _ h) (fun r13 w1 hq => ?_)
      obtain ⟨e9, h⟩ := hq
      rw [e9]
      refine r_aload_n (pc := 52) hC 0 dX7_seekLeast_52 rfl rfl ?_
      refine r_getr (r := 3) (pc := 53) hC dX7_seekLeast_53 fl_RX7_18 lX_34 rfl ?_
      refine r_aload_n (pc := 56) hC 0 dX7_seekLeast_56 rfl rfl ?_
      refine r_get (kd := 0) (v := wi_first_7) (pc := 57) hC dX7_seekLeast_57 fl_RX7_30 lX_34 rfl rfl ?_
      refine r_aload_n (pc := 60) hC 0 dX7_seekLeast_60 rfl rfl ?_
      refine r_get (kd := 0) (v := wi_last_8) (pc := 61) hC dX7_seekLeast_61 fl_RX7_34 lX_34 rfl rfl ?_
      refine r_callVi (pc := 64) hC [aI wi_first_7, aI wi_last_8] [aI r13] dX7_seekLeast_64 ml_RX7_44 my_X1_windowLength mi_X1_windowLength lX_3 rfl rfl ⟨Nat.le_of_ble_eq_true rfl, Nat.le_of_ble_eq_true rfl⟩ ⟨Nat.le_of_ble_eq_true rfl, Nat.le_of_ble_eq_true rfl⟩ (Nat.le_of_ble_eq_true rfl) rfl (s_Page_windowLength l _ _ _ _ h) (fun r14 w1 hq => ?_)
      obtain ⟨e9, h⟩ := hq
      rw [e9]
      refine r_ic_ge (pc := 67) (tgt := 85) hC dX7_seekLeast_67 rfl (fun hc1 => ?_) (fun hc1 => ?_)
      · have h := h.1 hc1
        exact r_to [true, false, true] rfl rfl (S2 wi_first_7 wi_last_8 h)
      have h := h.2 hc1
      exact r_to [true, false, true] rfl rfl (S3 h)
  exact r_to [true, false, true] rfl rfl (S1 _ wi_first_1 wi_last_2 0 (Nat.lt_succ_self _) hI1)
def wp_Windows_endingWithin (qy_termCounts : (Nat → Int)) (mt_ending : (Nat → Int)) (qy_items : Int) (a1 : Int) (a2 : Int) (Q : Int → Prop) : Prop := lpw2 (fun (x1 : Int) (x2 : Int) (k1 : Int → Int → Prop) => (qy_items ≤ x2 → Q x1) ∧ (¬ qy_items ≤ x2 → (0 ≤ a2 ∧ a2 < 100) ∧ (((mt_ending (Int.toNat a2)) = 0 → Q x1) ∧ (¬ (mt_ending (Int.toNat a2)) = 0 → (0 ≤ a2 ∧ a2 < 100) ∧ (wp_Picker_has (mt_ending (Int.toNat a2)) x2 (fun (r3 : Int) => jn1 (fun (J2 : Int → Prop) => (r3 = 0 → J2 x1) ∧ (¬ r3 = 0 → (0 ≤ x2 ∧ x2 < 8) ∧ ((rng (a2 - (qy_termCounts (Int.toNat x2)))) ∧ ((rng ((a2 - (qy_termCounts (Int.toNat x2))) + 1)) ∧ ((((a2 - (qy_termCounts (Int.toNat x2))) + 1) < a1 → J2 x1) ∧ (¬ ((a2 - (qy_termCounts (Int.toNat x2))) + 1) < a1 → J2 (iOr x1 (iShl 1 x2)))))))) (fun (x4 : Int) => (rng (x2 + 1)) ∧ (k1 x4 (x2 + 1))))))))) 0 0
set_option maxHeartbeats 4000000 in
set_option maxRecDepth 20000 in
theorem s_Windows_endingWithin (l : Launch) (w : St) (a1 : Int) (a2 : Int) (P : Int → Prop) (h : wp_Windows_endingWithin (w.1 20) (w.1 31) (w.1 18 6) a1 a2 P) : Cn l yX7_endingWithin cX7_endingWithin 5 (some .int) 1 LX w [aR 34, aI a1, aI a2] (okI (fun r w1 => w1 = w ∧ P r)) := by
  unfold wp_Windows_endingWithin at h
  refine Cn.of2 [some (aR 34), some (aI a1), some (aI a2), none, none] (by decide) (Nat.le_of_ble_eq_true rfl) rfl (fun p e s m args below meth c D cA ad A Q hQ hC hr hk => ?_)
  refine r_iconst (pc := 0) hC dX7_endingWithin_0 (rng_lit rfl) ?_
  refine r_istore_n (ls2 := [some (aR 34), some (aI a1), some (aI a2), some (aI 0), none]) (pc := 1) hC 3 dX7_endingWithin_1 rfl (by decide) rfl rfl ?_
  refine r_iconst (pc := 2) hC dX7_endingWithin_2 (rng_lit rfl) ?_
  refine r_istore (ls2 := [some (aR 34), some (aI a1), some (aI a2), some (aI 0), some (aI 0)]) (pc := 3) hC dX7_endingWithin_3 (by decide) rfl rfl ?_
  obtain ⟨I1, μ1, hI1, hB1⟩ := h
  have S1 : ∀ (nn : Nat) (x1 : Int) (x2 : Int), μ1 x1 x2 < nn → I1 x1 x2 → Wd p l e (rmD 1) s m args below meth c Q 0 0 5 D cA ad A LX w 5 [some (aR 34), some (aI a1), some (aI a2), some (aI x1), some (aI x2)] [] := by
    intro nn
    induction nn with
    | zero => intro x1 x2 hn; exact absurd hn (Nat.not_lt_zero _)
    | succ nn ih1 =>
      intro x1 x2 hn1 hi
      have h := hB1 x1 x2 hi
      refine r_iload (pc := 5) hC dX7_endingWithin_5 rfl ?_
      refine r_aload_n (pc := 7) hC 0 dX7_endingWithin_7 rfl rfl ?_
      refine r_getr (r := 18) (pc := 8) hC dX7_endingWithin_8 fl_RX7_22 lX_34 rfl ?_
      refine r_get (kd := 0) (v := (w.1 18 6)) (pc := 11) hC dX7_endingWithin_11 fl_RX7_59 lX_18 rfl rfl ?_
      refine r_ic_ge (pc := 14) (tgt := 77) hC dX7_endingWithin_14 rfl (fun hc4 => ?_) (fun hc4 => ?_)
      · have h := h.1 hc4
        refine r_iload_n (pc := 77) hC 3 dX7_endingWithin_77 rfl rfl ?_
        exact r_reti (pc := 78) (kd := 0) hC hQ dX7_endingWithin_78 hr hk (by decide) (Or.inl rfl) ⟨rfl, h⟩
      have h := h.2 hc4
      refine r_aload_n (pc := 17) hC 0 dX7_endingWithin_17 rfl rfl ?_
      refine r_getr (r := 29) (pc := 18) hC dX7_endingWithin_18 fl_RX7_26 lX_34 rfl ?_
      refine r_getr (r := 31) (pc := 21) hC dX7_endingWithin_21 fl_RX7_92 lX_29 rfl ?_
      refine r_iload_n (pc := 24) hC 2 dX7_endingWithin_24 rfl rfl ?_
      refine r_iald (v := ((w.1 31) (Int.toNat a2))) (pc := 25) hC dX7_endingWithin_25 lX_31 h.1.1 h.1.2 rfl ?_
      have h := h.2
      refine r_if_eq (pc := 26) (tgt := 77) hC dX7_endingWithin_26 rfl (fun hc3 => ?_) (fun hc3 => ?_)
      · have h := h.1 hc3
        refine r_iload_n (pc := 77) hC 3 dX7_endingWithin_77 rfl rfl ?_
        exact r_reti (pc := 78) (kd := 0) hC hQ dX7_endingWithin_78 hr hk (by decide) (Or.inl rfl) ⟨rfl, h⟩
      have h := h.2 hc3
      refine r_aload_n (pc := 29) hC 0 dX7_endingWithin_29 rfl rfl ?_
      refine r_getr (r := 29) (pc := 30) hC dX7_endingWithin_30 fl_RX7_26 lX_34 rfl ?_
      refine r_getr (r := 31) (pc := 33) hC dX7_endingWithin_33 fl_RX7_92 lX_29 rfl ?_
      refine r_iload_n (pc := 36) hC 2 dX7_endingWithin_36 rfl rfl ?_
      refine r_iald (v := ((w.1 31) (Int.toNat a2))) (pc := 37) hC dX7_endingWithin_37 lX_31 h.1.1 h.1.2 rfl ?_
      have h := h.2
      refine r_iload (pc := 38) hC dX7_endingWithin_38 rfl ?_
      refine r_callSNi (pc := 40) hC [aI ((w.1 31) (Int.toNat a2)), aI x2] [] dX7_endingWithin_40 nl_RX7_69 my_X9_has ms_X9_has rfl ⟨Nat.le_of_ble_eq_true rfl, Nat.le_of_ble_eq_true rfl⟩ ⟨Nat.le_of_ble_eq_true rfl, Nat.le_of_ble_eq_true rfl⟩ (Nat.le_of_ble_eq_true rfl) rfl (s_Picker_has l _ _ _ _ h) (fun r3 w1 hq => ?_)
      obtain ⟨e9, h⟩ := hq
      rw [e9]
      obtain ⟨J2, hJ2, h⟩ := h
      have S2 : ∀ (x4 : Int), J2 x4 → Wd p l e (rmD 1) s m args below meth c Q 0 0 5 D cA ad A LX w 71 [some (aR 34), some (aI a1), some (aI a2), some (aI x4), some (aI x2)] [] := by
        intro x4 hj
        have h := hJ2 x4 hj
        refine r_iinc (ls2 := [some (aR 34), some (aI a1), some (aI a2), some (aI x4), some (aI (x2 + 1))]) (pc := 71) hC dX7_endingWithin_71 rfl (by decide) rfl h.1 rfl ?_
        have h := h.2
        refine r_goto (tgt := 5) (pc := 74) hC dX7_endingWithin_74 rfl ?_
        exact r_to [true, true, true, true, true] rfl rfl (ih1 x4 (x2 + 1) (Nat.lt_of_lt_of_le h.2 (Nat.le_of_lt_succ hn1)) h.1)
      refine r_if_eq (pc := 43) (tgt := 71) hC dX7_endingWithin_43 rfl (fun hc2 => ?_) (fun hc2 => ?_)
      · have h := h.1 hc2
        exact r_to [true, true, true, true, true] rfl rfl (S2 x1 h)
      have h := h.2 hc2
      refine r_iload_n (pc := 46) hC 2 dX7_endingWithin_46 rfl rfl ?_
      refine r_aload_n (pc := 47) hC 0 dX7_endingWithin_47 rfl rfl ?_
      refine r_getr (r := 18) (pc := 48) hC dX7_endingWithin_48 fl_RX7_22 lX_34 rfl ?_
      refine r_getr (r := 20) (pc := 51) hC dX7_endingWithin_51 fl_RX7_73 lX_18 rfl ?_
      refine r_iload (pc := 54) hC dX7_endingWithin_54 rfl ?_
      refine r_iald (v := ((w.1 20) (Int.toNat x2))) (pc := 56) hC dX7_endingWithin_56 lX_20 h.1.1 h.1.2 rfl ?_
      have h := h.2
      refine r_isub (pc := 57) hC dX7_endingWithin_57 h.1 ?_
      have h := h.2
      refine r_iconst (pc := 58) hC dX7_endingWithin_58 (rng_lit rfl) ?_
      refine r_iadd (pc := 59) hC dX7_endingWithin_59 h.1 ?_
      have h := h.2
      refine r_iload_n (pc := 60) hC 1 dX7_endingWithin_60 rfl rfl ?_
      refine r_ic_lt (pc := 61) (tgt := 71) hC dX7_endingWithin_61 rfl (fun hc1 => ?_) (fun hc1 => ?_)
      · have h := h.1 hc1
        exact r_to [true, true, true, true, true] rfl rfl (S2 x1 h)
      have h := h.2 hc1
      refine r_iload_n (pc := 64) hC 3 dX7_endingWithin_64 rfl rfl ?_
      refine r_iconst (pc := 65) hC dX7_endingWithin_65 (rng_lit rfl) ?_
      refine r_iload (pc := 66) hC dX7_endingWithin_66 rfl ?_
      refine r_ishl (pc := 68) hC dX7_endingWithin_68 ?_
      refine r_ior (pc := 69) hC dX7_endingWithin_69 ?_
      refine r_istore_n (ls2 := [some (aR 34), some (aI a1), some (aI a2), some (aI (iOr x1 (iShl 1 x2))), some (aI x2)]) (pc := 70) hC 3 dX7_endingWithin_70 rfl (by decide) rfl rfl ?_
      exact r_to [true, true, true, true, true] rfl rfl (S2 (iOr x1 (iShl 1 x2)) h)
  exact r_to [true, true, true, true, true] rfl rfl (S1 _ 0 0 (Nat.lt_succ_self _) hI1)
def wp_Windows_mostItems (pg_signAt : (Nat → Int)) (pg_wordBegin : (Nat → Int)) (pg_wordEnd : (Nat → Int)) (qy_termCounts : (Nat → Int)) (mt_ending : (Nat → Int)) (pg_words : Int) (qy_items : Int) (a1 : Int) (Q : Int → Prop) : Prop := lpw2 (fun (x1 : Int) (x2 : Int) (k1 : Int → Int → Prop) => (pg_words ≤ x2 → Q x1) ∧ (¬ pg_words ≤ x2 → lpw2 (fun (x3 : Int) (x4 : Int) (k2 : Int → Int → Prop) => jn0 (fun (J3 : Prop) => (pg_words ≤ x4 → J3) ∧ (¬ pg_words ≤ x4 → wp_Page_windowLength pg_signAt pg_wordBegin pg_wordEnd x2 x4 (fun (r6 : Int) => (a1 < r6 → J3) ∧ (¬ a1 < r6 → wp_Windows_endingWithin qy_termCounts mt_ending qy_items x2 x4 (fun (r7 : Int) => (rng (x4 + 1)) ∧ (k2 (iOr x3 r7) (x4 + 1))))))) (wp_JI_bitCount x3 (fun (r5 : Int) => (rng (x2 + 1)) ∧ (k1 (max x1 r5) (x2 + 1))))) 0 x2)) 0 0
set_option maxHeartbeats 4000000 in
set_option maxRecDepth 20000 in
theorem s_Windows_mostItems (l : Launch) (w : St) (a1 : Int) (P : Int → Prop) (h : wp_Windows_mostItems (w.1 6) (w.1 7) (w.1 8) (w.1 20) (w.1 31) (w.1 3 16) (w.1 18 6) a1 P) : Cn l yX7_mostItems cX7_mostItems 6 (some .int) 2 LX w [aR 34, aI a1] (okI (fun r w1 => w1 = w ∧ P r)) := by
  unfold wp_Windows_mostItems at h
  refine Cn.of2 [some (aR 34), some (aI a1), none, none, none, none] (by decide) (Nat.le_of_ble_eq_true rfl) rfl (fun p e s m args below meth c D cA ad A Q hQ hC hr hk => ?_)
  refine r_iconst (pc := 0) hC dX7_mostItems_0 (rng_lit rfl) ?_
  refine r_istore_n (ls2 := [some (aR 34), some (aI a1), some (aI 0), none, none, none]) (pc := 1) hC 2 dX7_mostItems_1 rfl (by decide) rfl rfl ?_
  refine r_iconst (pc := 2) hC dX7_mostItems_2 (rng_lit rfl) ?_
  refine r_istore_n (ls2 := [some (aR 34), some (aI a1), some (aI 0), some (aI 0), none, none]) (pc := 3) hC 3 dX7_mostItems_3 rfl (by decide) rfl rfl ?_
  obtain ⟨I1, μ1, hI1, hB1⟩ := h
  have S1 : ∀ (nn : Nat) (x1 : Int) (x2 : Int), μ1 x1 x2 < nn → I1 x1 x2 → Wd p l e (rmD 2) s m args below meth c Q 0 0 6 D cA ad A LX w 4 [some (aR 34), some (aI a1), some (aI x1), some (aI x2), none, none] [] := by
    intro nn
    induction nn with
    | zero => intro x1 x2 hn; exact absurd hn (Nat.not_lt_zero _)
    | succ nn ih1 =>
      intro x1 x2 hn1 hi
      have h := hB1 x1 x2 hi
      refine r_iload_n (pc := 4) hC 3 dX7_mostItems_4 rfl rfl ?_
      refine r_aload_n (pc := 5) hC 0 dX7_mostItems_5 rfl rfl ?_
      refine r_getr (r := 3) (pc := 6) hC dX7_mostItems_6 fl_RX7_18 lX_34 rfl ?_
      refine r_get (kd := 0) (v := (w.1 3 16)) (pc := 9) hC dX7_mostItems_9 fl_RX7_56 lX_3 rfl rfl ?_
      refine r_ic_ge (pc := 12) (tgt := 81) hC dX7_mostItems_12 rfl (fun hc3 => ?_) (fun hc3 => ?_)
      · have h := h.1 hc3
        refine r_iload_n (pc := 81) hC 2 dX7_mostItems_81 rfl rfl ?_
        exact r_reti (pc := 82) (kd := 0) hC hQ dX7_mostItems_82 hr hk (by decide) (Or.inl rfl) ⟨rfl, h⟩
      have h := h.2 hc3
      refine r_iconst (pc := 15) hC dX7_mostItems_15 (rng_lit rfl) ?_
      refine r_istore (ls2 := [some (aR 34), some (aI a1), some (aI x1), some (aI x2), some (aI 0), none]) (pc := 16) hC dX7_mostItems_16 (by decide) rfl rfl ?_
      refine r_iload_n (pc := 18) hC 3 dX7_mostItems_18 rfl rfl ?_
      refine r_istore (ls2 := [some (aR 34), some (aI a1), some (aI x1), some (aI x2), some (aI 0), some (aI x2)]) (pc := 19) hC dX7_mostItems_19 (by decide) rfl rfl ?_
      obtain ⟨I2, μ2, hI2, hB2⟩ := h
      have S2 : ∀ (nn : Nat) (x3 : Int) (x4 : Int), μ2 x3 x4 < nn → I2 x3 x4 → Wd p l e (rmD 2) s m args below meth c Q 0 0 6 D cA ad A LX w 21 [some (aR 34), some (aI a1), some (aI x1), some (aI x2), some (aI x3), some (aI x4)] [] := by
        intro nn
        induction nn with
        | zero => intro x3 x4 hn; exact absurd hn (Nat.not_lt_zero _)
        | succ nn ih2 =>
          intro x3 x4 hn2 hi
          have h := hB2 x3 x4 hi
          refine r_iload (pc := 21) hC dX7_mostItems_21 rfl ?_
          refine r_aload_n (pc := 23) hC 0 dX7_mostItems_23 rfl rfl ?_
          refine r_getr (r := 3) (pc := 24) hC dX7_mostItems_24 fl_RX7_18 lX_34 rfl ?_
          refine r_get (kd := 0) (v := (w.1 3 16)) (pc := 27) hC dX7_mostItems_27 fl_RX7_56 lX_3 rfl rfl ?_
          obtain ⟨J3, hJ3, h⟩ := h
          have S3 : J3 → Wd p l e (rmD 2) s m args below meth c Q 0 0 6 D cA ad A LX w 65 [some (aR 34), some (aI a1), some (aI x1), some (aI x2), some (aI x3), none] [] := by
            intro hj
            have h := hJ3 hj
            refine r_iload_n (pc := 65) hC 2 dX7_mostItems_65 rfl rfl ?_
            refine r_iload (pc := 66) hC dX7_mostItems_66 rfl ?_
            refine r_callSi (pc := 68) hC [aI x3] [aI x1] dX7_mostItems_68 ml_RX7_98 my_J6_bitCount_0f7a4 ms_J6_bitCount_0f7a4 rfl ⟨Nat.le_of_ble_eq_true rfl, Nat.le_of_ble_eq_true rfl⟩ ⟨Nat.le_of_ble_eq_true rfl, Nat.le_of_ble_eq_true rfl⟩ (Nat.le_of_ble_eq_true rfl) rfl (s_JI_bitCount l _ _ _ h) (fun r5 w1 hq => ?_)
            obtain ⟨e9, h⟩ := hq
            rw [e9]
            refine r_max (pc := 71) hC dX7_mostItems_71 ml_RX7_76 ks_max ks_Math kd_max ⟨Nat.le_of_ble_eq_true rfl, Nat.le_of_ble_eq_true rfl⟩ ⟨Nat.le_of_ble_eq_true rfl, Nat.le_of_ble_eq_true rfl⟩ (Nat.le_of_ble_eq_true rfl) ?_
            refine r_istore_n (ls2 := [some (aR 34), some (aI a1), some (aI (max x1 r5)), some (aI x2), some (aI x3), none]) (pc := 74) hC 2 dX7_mostItems_74 rfl (by decide) rfl rfl ?_
            refine r_iinc (ls2 := [some (aR 34), some (aI a1), some (aI (max x1 r5)), some (aI (x2 + 1)), some (aI x3), none]) (pc := 75) hC dX7_mostItems_75 rfl (by decide) rfl h.1 rfl ?_
            have h := h.2
            refine r_goto (tgt := 4) (pc := 78) hC dX7_mostItems_78 rfl ?_
            exact r_to [true, true, true, true, false, false] rfl rfl (ih1 (max x1 r5) (x2 + 1) (Nat.lt_of_lt_of_le h.2 (Nat.le_of_lt_succ hn1)) h.1)
          refine r_ic_ge (pc := 30) (tgt := 65) hC dX7_mostItems_30 rfl (fun hc2 => ?_) (fun hc2 => ?_)
          · have h := h.1 hc2
            exact r_to [true, true, true, true, true, false] rfl rfl (S3 h)
          have h := h.2 hc2
          refine r_aload_n (pc := 33) hC 0 dX7_mostItems_33 rfl rfl ?_
          refine r_getr (r := 3) (pc := 34) hC dX7_mostItems_34 fl_RX7_18 lX_34 rfl ?_
          refine r_iload_n (pc := 37) hC 3 dX7_mostItems_37 rfl rfl ?_
          refine r_iload (pc := 38) hC dX7_mostItems_38 rfl ?_
          refine r_callVi (pc := 40) hC [aI x2, aI x4] [] dX7_mostItems_40 ml_RX7_44 my_X1_windowLength mi_X1_windowLength lX_3 rfl rfl ⟨Nat.le_of_ble_eq_true rfl, Nat.le_of_ble_eq_true rfl⟩ ⟨Nat.le_of_ble_eq_true rfl, Nat.le_of_ble_eq_true rfl⟩ (Nat.le_of_ble_eq_true rfl) rfl (s_Page_windowLength l _ _ _ _ h) (fun r6 w1 hq => ?_)
          obtain ⟨e9, h⟩ := hq
          rw [e9]
          refine r_iload_n (pc := 43) hC 1 dX7_mostItems_43 rfl rfl ?_
          refine r_ic_gt (pc := 44) (tgt := 65) hC dX7_mostItems_44 rfl (fun hc1 => ?_) (fun hc1 => ?_)
          · have h := h.1 hc1
            exact r_to [true, true, true, true, true, false] rfl rfl (S3 h)
          have h := h.2 hc1
          refine r_iload (pc := 47) hC dX7_mostItems_47 rfl ?_
          refine r_aload_n (pc := 49) hC 0 dX7_mostItems_49 rfl rfl ?_
          refine r_iload_n (pc := 50) hC 3 dX7_mostItems_50 rfl rfl ?_
          refine r_iload (pc := 51) hC dX7_mostItems_51 rfl ?_
          refine r_callVi (pc := 53) hC [aI x2, aI x4] [aI x3] dX7_mostItems_53 ml_RX7_95 my_X7_endingWithin mi_X7_endingWithin lX_34 rfl rfl ⟨Nat.le_of_ble_eq_true rfl, Nat.le_of_ble_eq_true rfl⟩ ⟨Nat.le_of_ble_eq_true rfl, Nat.le_of_ble_eq_true rfl⟩ (Nat.le_of_ble_eq_true rfl) rfl (s_Windows_endingWithin l _ _ _ _ h) (fun r7 w1 hq => ?_)
          obtain ⟨e9, h⟩ := hq
          rw [e9]
          refine r_ior (pc := 56) hC dX7_mostItems_56 ?_
          refine r_istore (ls2 := [some (aR 34), some (aI a1), some (aI x1), some (aI x2), some (aI (iOr x3 r7)), some (aI x4)]) (pc := 57) hC dX7_mostItems_57 (by decide) rfl rfl ?_
          refine r_iinc (ls2 := [some (aR 34), some (aI a1), some (aI x1), some (aI x2), some (aI (iOr x3 r7)), some (aI (x4 + 1))]) (pc := 59) hC dX7_mostItems_59 rfl (by decide) rfl h.1 rfl ?_
          have h := h.2
          refine r_goto (tgt := 21) (pc := 62) hC dX7_mostItems_62 rfl ?_
          exact r_to [true, true, true, true, true, true] rfl rfl (ih2 (iOr x3 r7) (x4 + 1) (Nat.lt_of_lt_of_le h.2 (Nat.le_of_lt_succ hn2)) h.1)
      exact r_to [true, true, true, true, true, true] rfl rfl (S2 _ 0 x2 (Nat.lt_succ_self _) hI2)
  exact r_to [true, true, true, true, false, false] rfl rfl (S1 _ 0 0 (Nat.lt_succ_self _) hI1)
def wp_Windows_keepIfWorthier (pg_signAt : (Nat → Int)) (pg_wordBegin : (Nat → Int)) (pg_wordEnd : (Nat → Int)) (wi_first : Int) (wi_last : Int) (wi_worth : Int) (a1 : Int) (a2 : Int) (a3 : Int) (Q : Int → Int → Int → Prop) : Prop := jn1 (fun (J1 : Int → Prop) => jn0 (fun (J3 : Prop) => (wi_first = (-1) → J3) ∧ (¬ wi_first = (-1) → wp_Page_windowLength pg_signAt pg_wordBegin pg_wordEnd a1 a2 (fun (r2 : Int) => wp_Page_windowLength pg_signAt pg_wordBegin pg_wordEnd wi_first wi_last (fun (r3 : Int) => (r3 ≤ r2 → J3) ∧ (¬ r3 ≤ r2 → J1 1))))) (J1 0)) (fun (y1 : Int) => jn0 (fun (J2 : Prop) => (wi_worth < a3 → J2) ∧ (¬ wi_worth < a3 → (¬ a3 = wi_worth → Q wi_first wi_last wi_worth) ∧ (a3 = wi_worth → (y1 = 0 → Q wi_first wi_last wi_worth) ∧ (¬ y1 = 0 → J2)))) (Q a1 a2 a3))
set_option maxHeartbeats 4000000 in
set_option maxRecDepth 20000 in
theorem s_Windows_keepIfWorthier (l : Launch) (w : St) (a1 : Int) (a2 : Int) (a3 : Int) (P : Int → Int → Int → Prop) (h : wp_Windows_keepIfWorthier (w.1 6) (w.1 7) (w.1 8) (w.1 34 5) (w.1 34 6) (w.1 34 7) a1 a2 a3 P) : Cn l yX7_keepIfWorthier cX7_keepIfWorthier 5 none 1 LX w [aR 34, aI a1, aI a2, aI a3] (okV (fun w1 => ∃ (o0 : Int) (o1 : Int) (o2 : Int), w1 = (wI (wI (wI w 34 5 o0) 34 6 o1) 34 7 o2) ∧ P o0 o1 o2)) := by
  unfold wp_Windows_keepIfWorthier at h
  refine Cn.of2 [some (aR 34), some (aI a1), some (aI a2), some (aI a3), none] (by decide) (Nat.le_of_ble_eq_true rfl) rfl (fun p e s m args below meth c D cA ad A Q hQ hC hr hk => ?_)
  refine r_aload_n (pc := 0) hC 0 dX7_keepIfWorthier_0 rfl rfl ?_
  refine r_get (kd := 0) (v := (w.1 34 5)) (pc := 1) hC dX7_keepIfWorthier_1 fl_RX7_30 lX_34 rfl rfl ?_
  refine r_iconst (pc := 4) hC dX7_keepIfWorthier_4 (rng_lit rfl) ?_
  obtain ⟨J1, hJ1, h⟩ := h
  have S1 : ∀ (y1 : Int), J1 y1 → Wd p l e (rmD 1) s m args below meth c Q 0 0 5 D cA ad A LX w 40 [some (aR 34), some (aI a1), some (aI a2), some (aI a3), none] [aI y1] := by
    intro y1 hj
    have h := hJ1 y1 hj
    refine r_istore (ls2 := [some (aR 34), some (aI a1), some (aI a2), some (aI a3), some (aI y1)]) (pc := 40) hC dX7_keepIfWorthier_40 (by decide) rfl rfl ?_
    refine r_iload_n (pc := 42) hC 3 dX7_keepIfWorthier_42 rfl rfl ?_
    refine r_aload_n (pc := 43) hC 0 dX7_keepIfWorthier_43 rfl rfl ?_
    refine r_get (kd := 0) (v := (w.1 34 7)) (pc := 44) hC dX7_keepIfWorthier_44 fl_RX7_37 lX_34 rfl rfl ?_
    obtain ⟨J2, hJ2, h⟩ := h
    have S2 : J2 → Wd p l e (rmD 1) s m args below meth c Q 0 0 5 D cA ad A LX w 63 [some (aR 34), some (aI a1), some (aI a2), some (aI a3), none] [] := by
      intro hj
      have h := hJ2 hj
      refine r_aload_n (pc := 63) hC 0 dX7_keepIfWorthier_63 rfl rfl ?_
      refine r_iload_n (pc := 64) hC 1 dX7_keepIfWorthier_64 rfl rfl ?_
      refine r_put (kd := 0) (pc := 65) hC dX7_keepIfWorthier_65 pl_RX7_30 lX_34 rfl (by decide) (Or.inl rfl) ?_
      refine r_aload_n (pc := 68) hC 0 dX7_keepIfWorthier_68 rfl rfl ?_
      refine r_iload_n (pc := 69) hC 2 dX7_keepIfWorthier_69 rfl rfl ?_
      refine r_put (kd := 0) (pc := 70) hC dX7_keepIfWorthier_70 pl_RX7_34 lX_34 rfl (by decide) (Or.inl rfl) ?_
      refine r_aload_n (pc := 73) hC 0 dX7_keepIfWorthier_73 rfl rfl ?_
      refine r_iload_n (pc := 74) hC 3 dX7_keepIfWorthier_74 rfl rfl ?_
      refine r_put (kd := 0) (pc := 75) hC dX7_keepIfWorthier_75 pl_RX7_37 lX_34 rfl (by decide) (Or.inl rfl) ?_
      refine r_conv (w2 := (wI (wI (wI w 34 5 a1) 34 6 a2) 34 7 a3)) rfl ?_
      exact r_retv (pc := 78) hC hQ dX7_keepIfWorthier_78 hr hk ⟨a1, a2, a3, rfl, h⟩
    refine r_ic_gt (pc := 47) (tgt := 63) hC dX7_keepIfWorthier_47 rfl (fun hc3 => ?_) (fun hc3 => ?_)
    · have h := h.1 hc3
      exact r_to [true, true, true, true, false] rfl rfl (S2 h)
    have h := h.2 hc3
    refine r_iload_n (pc := 50) hC 3 dX7_keepIfWorthier_50 rfl rfl ?_
    refine r_aload_n (pc := 51) hC 0 dX7_keepIfWorthier_51 rfl rfl ?_
    refine r_get (kd := 0) (v := (w.1 34 7)) (pc := 52) hC dX7_keepIfWorthier_52 fl_RX7_37 lX_34 rfl rfl ?_
    refine r_ic_ne (pc := 55) (tgt := 78) hC dX7_keepIfWorthier_55 rfl (fun hc2 => ?_) (fun hc2 => ?_)
    · have h := h.1 hc2
      refine r_conv (w2 := (wI (wI (wI w 34 5 (w.1 34 5)) 34 6 (w.1 34 6)) 34 7 (w.1 34 7))) rfl ?_
      exact r_retv (pc := 78) hC hQ dX7_keepIfWorthier_78 hr hk ⟨(w.1 34 5), (w.1 34 6), (w.1 34 7), rfl, h⟩
    have h := h.2 hc2
    refine r_iload (pc := 58) hC dX7_keepIfWorthier_58 rfl ?_
    refine r_if_eq (pc := 60) (tgt := 78) hC dX7_keepIfWorthier_60 rfl (fun hc1 => ?_) (fun hc1 => ?_)
    · have h := h.1 hc1
      refine r_conv (w2 := (wI (wI (wI w 34 5 (w.1 34 5)) 34 6 (w.1 34 6)) 34 7 (w.1 34 7))) rfl ?_
      exact r_retv (pc := 78) hC hQ dX7_keepIfWorthier_78 hr hk ⟨(w.1 34 5), (w.1 34 6), (w.1 34 7), rfl, h⟩
    have h := h.2 hc1
    exact r_to [true, true, true, true, false] rfl rfl (S2 h)
  obtain ⟨J3, hJ3, h⟩ := h
  have S3 : J3 → Wd p l e (rmD 1) s m args below meth c Q 0 0 5 D cA ad A LX w 39 [some (aR 34), some (aI a1), some (aI a2), some (aI a3), none] [] := by
    intro hj
    have h := hJ3 hj
    refine r_iconst (pc := 39) hC dX7_keepIfWorthier_39 (rng_lit rfl) ?_
    exact r_to [true, true, true, true, false] rfl rfl (S1 0 h)
  refine r_ic_eq (pc := 5) (tgt := 39) hC dX7_keepIfWorthier_5 rfl (fun hc5 => ?_) (fun hc5 => ?_)
  · have h := h.1 hc5
    exact r_to [true, true, true, true, false] rfl rfl (S3 h)
  have h := h.2 hc5
  refine r_aload_n (pc := 8) hC 0 dX7_keepIfWorthier_8 rfl rfl ?_
  refine r_getr (r := 3) (pc := 9) hC dX7_keepIfWorthier_9 fl_RX7_18 lX_34 rfl ?_
  refine r_iload_n (pc := 12) hC 1 dX7_keepIfWorthier_12 rfl rfl ?_
  refine r_iload_n (pc := 13) hC 2 dX7_keepIfWorthier_13 rfl rfl ?_
  refine r_callVi (pc := 14) hC [aI a1, aI a2] [] dX7_keepIfWorthier_14 ml_RX7_44 my_X1_windowLength mi_X1_windowLength lX_3 rfl rfl ⟨Nat.le_of_ble_eq_true rfl, Nat.le_of_ble_eq_true rfl⟩ ⟨Nat.le_of_ble_eq_true rfl, Nat.le_of_ble_eq_true rfl⟩ (Nat.le_of_ble_eq_true rfl) rfl (s_Page_windowLength l _ _ _ _ h) (fun r2 w1 hq => ?_)
  obtain ⟨e9, h⟩ := hq
  rw [e9]
  refine r_aload_n (pc := 17) hC 0 dX7_keepIfWorthier_17 rfl rfl ?_
  refine r_getr (r := 3) (pc := 18) hC dX7_keepIfWorthier_18 fl_RX7_18 lX_34 rfl ?_
  refine r_aload_n (pc := 21) hC 0 dX7_keepIfWorthier_21 rfl rfl ?_
  refine r_get (kd := 0) (v := (w.1 34 5)) (pc := 22) hC dX7_keepIfWorthier_22 fl_RX7_30 lX_34 rfl rfl ?_
  refine r_aload_n (pc := 25) hC 0 dX7_keepIfWorthier_25 rfl rfl ?_
  refine r_get (kd := 0) (v := (w.1 34 6)) (pc := 26) hC dX7_keepIfWorthier_26 fl_RX7_34 lX_34 rfl rfl ?_
  refine r_callVi (pc := 29) hC [aI (w.1 34 5), aI (w.1 34 6)] [aI r2] dX7_keepIfWorthier_29 ml_RX7_44 my_X1_windowLength mi_X1_windowLength lX_3 rfl rfl ⟨Nat.le_of_ble_eq_true rfl, Nat.le_of_ble_eq_true rfl⟩ ⟨Nat.le_of_ble_eq_true rfl, Nat.le_of_ble_eq_true rfl⟩ (Nat.le_of_ble_eq_true rfl) rfl (s_Page_windowLength l _ _ _ _ h) (fun r3 w1 hq => ?_)
  obtain ⟨e9, h⟩ := hq
  rw [e9]
  refine r_ic_ge (pc := 32) (tgt := 39) hC dX7_keepIfWorthier_32 rfl (fun hc4 => ?_) (fun hc4 => ?_)
  · have h := h.1 hc4
    exact r_to [true, true, true, true, false] rfl rfl (S3 h)
  have h := h.2 hc4
  refine r_iconst (pc := 35) hC dX7_keepIfWorthier_35 (rng_lit rfl) ?_
  refine r_goto (tgt := 40) (pc := 36) hC dX7_keepIfWorthier_36 rfl ?_
  exact r_to [true, true, true, true, false] rfl rfl (S1 1 h)
def wp_Windows_widenFrom (pg_signAt : (Nat → Int)) (pg_wordBegin : (Nat → Int)) (pg_wordEnd : (Nat → Int)) (qy_weights : (Nat → Int)) (qy_termCounts : (Nat → Int)) (mt_ending : (Nat → Int)) (qy_items : Int) (wi_first : Int) (wi_last : Int) (wi_worth : Int) (a1 : Int) (a2 : Int) (a3 : Int) (Q : Int → Int → Int → Prop) : Prop := lpw5 (fun (wi_first_1 : Int) (wi_last_2 : Int) (wi_worth_3 : Int) (x4 : Int64) (x5 : Int) (k1 : Int → Int → Int → Int64 → Int → Prop) => (a2 < x5 → Q wi_first_1 wi_last_2 wi_worth_3) ∧ (¬ a2 < x5 → wp_Page_windowLength pg_signAt pg_wordBegin pg_wordEnd a1 x5 (fun (r6 : Int) => (a3 < r6 → Q wi_first_1 wi_last_2 wi_worth_3) ∧ (¬ a3 < r6 → wp_Windows_endingWithin qy_termCounts mt_ending qy_items a1 x5 (fun (r7 : Int) => lpw2 (fun (x8 : Int64) (x9 : Int) (k2 : Int64 → Int → Prop) => jn0 (fun (J3 : Prop) => (qy_items ≤ x9 → J3) ∧ (¬ qy_items ≤ x9 → (r7 = 0 → J3) ∧ (¬ r7 = 0 → wp_Picker_has r7 x9 (fun (r17 : Int) => jn1 (fun (J5 : Int64 → Prop) => (r17 = 0 → J5 0) ∧ (¬ r17 = 0 → wp_Query_oneOf x9 (fun (r19 : Int64) => J5 r19))) (fun (y18 : Int64) => (rng (x9 + 1)) ∧ (k2 (x8 + y18) (x9 + 1))))))) (jn3 (fun (J4 : Int → Int → Int → Prop) => (r7 = 0 → J4 wi_first_1 wi_last_2 wi_worth_3) ∧ (¬ r7 = 0 → wp_Query_worthOf qy_weights qy_items x8 (fun (r13 : Int) => wp_Windows_keepIfWorthier pg_signAt pg_wordBegin pg_wordEnd wi_first_1 wi_last_2 wi_worth_3 a1 x5 r13 (fun (wi_first_14 : Int) (wi_last_15 : Int) (wi_worth_16 : Int) => J4 wi_first_14 wi_last_15 wi_worth_16)))) (fun (wi_first_10 : Int) (wi_last_11 : Int) (wi_worth_12 : Int) => (rng (x5 + 1)) ∧ (k1 wi_first_10 wi_last_11 wi_worth_12 x8 (x5 + 1))))) x4 0))))) wi_first wi_last wi_worth 0 a1
set_option maxHeartbeats 4000000 in
set_option maxRecDepth 20000 in
theorem s_Windows_widenFrom (l : Launch) (w : St) (a1 : Int) (a2 : Int) (a3 : Int) (P : Int → Int → Int → Prop) (h : wp_Windows_widenFrom (w.1 6) (w.1 7) (w.1 8) (w.1 19) (w.1 20) (w.1 31) (w.1 18 6) (w.1 34 5) (w.1 34 6) (w.1 34 7) a1 a2 a3 P) : Cn l yX7_widenFrom cX7_widenFrom 9 none 2 LX w [aR 34, aI a1, aI a2, aI a3] (okV (fun w1 => ∃ (o0 : Int) (o1 : Int) (o2 : Int), w1 = (wI (wI (wI w 34 5 o0) 34 6 o1) 34 7 o2) ∧ P o0 o1 o2)) := by
  unfold wp_Windows_widenFrom at h
  refine Cn.of2 [some (aR 34), some (aI a1), some (aI a2), some (aI a3), none, none, none, none, none] (by decide) (Nat.le_of_ble_eq_true rfl) rfl (fun p e s m args below meth c D cA ad A Q hQ hC hr hk => ?_)
  refine r_lconst (x := 0) (pc := 0) hC dX7_widenFrom_0 rfl ?_
  refine r_lstore (ls2 := [some (aR 34), some (aI a1), some (aI a2), some (aI a3), some (aL 0), none, none, none, none]) (pc := 1) hC dX7_widenFrom_1 (by decide) rfl rfl ?_
  refine r_iload_n (pc := 3) hC 1 dX7_widenFrom_3 rfl rfl ?_
  refine r_istore (ls2 := [some (aR 34), some (aI a1), some (aI a2), some (aI a3), some (aL 0), none, some (aI a1), none, none]) (pc := 4) hC dX7_widenFrom_4 (by decide) rfl rfl ?_
  obtain ⟨I1, μ1, hI1, hB1⟩ := h
  have S1 : ∀ (nn : Nat) (wi_first_1 : Int) (wi_last_2 : Int) (wi_worth_3 : Int) (x4 : Int64) (x5 : Int), μ1 wi_first_1 wi_last_2 wi_worth_3 x4 x5 < nn → I1 wi_first_1 wi_last_2 wi_worth_3 x4 x5 → Wd p l e (rmD 2) s m args below meth c Q 0 0 9 D cA ad A LX (wI (wI (wI w 34 5 wi_first_1) 34 6 wi_last_2) 34 7 wi_worth_3) 6 [some (aR 34), some (aI a1), some (aI a2), some (aI a3), some (aL x4), none, some (aI x5), none, none] [] := by
    intro nn
    induction nn with
    | zero => intro wi_first_1 wi_last_2 wi_worth_3 x4 x5 hn; exact absurd hn (Nat.not_lt_zero _)
    | succ nn ih1 =>
      intro wi_first_1 wi_last_2 wi_worth_3 x4 x5 hn1 hi
      have h := hB1 wi_first_1 wi_last_2 wi_worth_3 x4 x5 hi
      refine r_iload (pc := 6) hC dX7_widenFrom_6 rfl ?_
      refine r_iload_n (pc := 8) hC 2 dX7_widenFrom_8 rfl rfl ?_
      refine r_ic_gt (pc := 9) (tgt := 116) hC dX7_widenFrom_9 rfl (fun hc6 => ?_) (fun hc6 => ?_)
      · have h := h.1 hc6
        refine r_conv (w2 := (wI (wI (wI w 34 5 wi_first_1) 34 6 wi_last_2) 34 7 wi_worth_3)) rfl ?_
        exact r_retv (pc := 116) hC hQ dX7_widenFrom_116 hr hk ⟨wi_first_1, wi_last_2, wi_worth_3, rfl, h⟩
      have h := h.2 hc6
      refine r_aload_n (pc := 12) hC 0 dX7_widenFrom_12 rfl rfl ?_
      refine r_getr (r := 3) (pc := 13) hC dX7_widenFrom_13 fl_RX7_18 lX_34 rfl ?_
      refine r_iload_n (pc := 16) hC 1 dX7_widenFrom_16 rfl rfl ?_
      refine r_iload (pc := 17) hC dX7_widenFrom_17 rfl ?_
      refine r_callVi (pc := 19) hC [aI a1, aI x5] [] dX7_widenFrom_19 ml_RX7_44 my_X1_windowLength mi_X1_windowLength lX_3 rfl rfl ⟨Nat.le_of_ble_eq_true rfl, Nat.le_of_ble_eq_true rfl⟩ ⟨Nat.le_of_ble_eq_true rfl, Nat.le_of_ble_eq_true rfl⟩ (Nat.le_of_ble_eq_true rfl) rfl (s_Page_windowLength l _ _ _ _ h) (fun r6 w1 hq => ?_)
      obtain ⟨e9, h⟩ := hq
      rw [e9]
      refine r_iload_n (pc := 22) hC 3 dX7_widenFrom_22 rfl rfl ?_
      refine r_ic_gt (pc := 23) (tgt := 116) hC dX7_widenFrom_23 rfl (fun hc5 => ?_) (fun hc5 => ?_)
      · have h := h.1 hc5
        refine r_conv (w2 := (wI (wI (wI w 34 5 wi_first_1) 34 6 wi_last_2) 34 7 wi_worth_3)) rfl ?_
        exact r_retv (pc := 116) hC hQ dX7_widenFrom_116 hr hk ⟨wi_first_1, wi_last_2, wi_worth_3, rfl, h⟩
      have h := h.2 hc5
      refine r_aload_n (pc := 26) hC 0 dX7_widenFrom_26 rfl rfl ?_
      refine r_iload_n (pc := 27) hC 1 dX7_widenFrom_27 rfl rfl ?_
      refine r_iload (pc := 28) hC dX7_widenFrom_28 rfl ?_
      refine r_callVi (pc := 30) hC [aI a1, aI x5] [] dX7_widenFrom_30 ml_RX7_95 my_X7_endingWithin mi_X7_endingWithin lX_34 rfl rfl ⟨Nat.le_of_ble_eq_true rfl, Nat.le_of_ble_eq_true rfl⟩ ⟨Nat.le_of_ble_eq_true rfl, Nat.le_of_ble_eq_true rfl⟩ (Nat.le_of_ble_eq_true rfl) rfl (s_Windows_endingWithin l _ _ _ _ h) (fun r7 w1 hq => ?_)
      obtain ⟨e9, h⟩ := hq
      rw [e9]
      refine r_istore (ls2 := [some (aR 34), some (aI a1), some (aI a2), some (aI a3), some (aL x4), none, some (aI x5), some (aI r7), none]) (pc := 33) hC dX7_widenFrom_33 (by decide) rfl rfl ?_
      refine r_iconst (pc := 35) hC dX7_widenFrom_35 (rng_lit rfl) ?_
      refine r_istore (ls2 := [some (aR 34), some (aI a1), some (aI a2), some (aI a3), some (aL x4), none, some (aI x5), some (aI r7), some (aI 0)]) (pc := 36) hC dX7_widenFrom_36 (by decide) rfl rfl ?_
      obtain ⟨I2, μ2, hI2, hB2⟩ := h
      have S2 : ∀ (nn : Nat) (x8 : Int64) (x9 : Int), μ2 x8 x9 < nn → I2 x8 x9 → Wd p l e (rmD 2) s m args below meth c Q 0 0 9 D cA ad A LX (wI (wI (wI w 34 5 wi_first_1) 34 6 wi_last_2) 34 7 wi_worth_3) 38 [some (aR 34), some (aI a1), some (aI a2), some (aI a3), some (aL x8), none, some (aI x5), some (aI r7), some (aI x9)] [] := by
        intro nn
        induction nn with
        | zero => intro x8 x9 hn; exact absurd hn (Nat.not_lt_zero _)
        | succ nn ih2 =>
          intro x8 x9 hn2 hi
          have h := hB2 x8 x9 hi
          refine r_iload (pc := 38) hC dX7_widenFrom_38 rfl ?_
          refine r_aload_n (pc := 40) hC 0 dX7_widenFrom_40 rfl rfl ?_
          refine r_getr (r := 18) (pc := 41) hC dX7_widenFrom_41 fl_RX7_22 lX_34 rfl ?_
          refine r_get (kd := 0) (v := (w.1 18 6)) (pc := 44) hC dX7_widenFrom_44 fl_RX7_59 lX_18 rfl rfl ?_
          obtain ⟨J3, hJ3, h⟩ := h
          have S3 : J3 → Wd p l e (rmD 2) s m args below meth c Q 0 0 9 D cA ad A LX (wI (wI (wI w 34 5 wi_first_1) 34 6 wi_last_2) 34 7 wi_worth_3) 89 [some (aR 34), some (aI a1), some (aI a2), some (aI a3), some (aL x8), none, some (aI x5), some (aI r7), none] [] := by
            intro hj
            have h := hJ3 hj
            refine r_iload (pc := 89) hC dX7_widenFrom_89 rfl ?_
            obtain ⟨J4, hJ4, h⟩ := h
            have S4 : ∀ (wi_first_10 : Int) (wi_last_11 : Int) (wi_worth_12 : Int), J4 wi_first_10 wi_last_11 wi_worth_12 → Wd p l e (rmD 2) s m args below meth c Q 0 0 9 D cA ad A LX (wI (wI (wI w 34 5 wi_first_10) 34 6 wi_last_11) 34 7 wi_worth_12) 110 [some (aR 34), some (aI a1), some (aI a2), some (aI a3), some (aL x8), none, some (aI x5), none, none] [] := by
              intro wi_first_10 wi_last_11 wi_worth_12 hj
              have h := hJ4 wi_first_10 wi_last_11 wi_worth_12 hj
              refine r_iinc (ls2 := [some (aR 34), some (aI a1), some (aI a2), some (aI a3), some (aL x8), none, some (aI (x5 + 1)), none, none]) (pc := 110) hC dX7_widenFrom_110 rfl (by decide) rfl h.1 rfl ?_
              have h := h.2
              refine r_goto (tgt := 6) (pc := 113) hC dX7_widenFrom_113 rfl ?_
              exact r_to [true, true, true, true, true, false, true, false, false] rfl rfl (ih1 wi_first_10 wi_last_11 wi_worth_12 x8 (x5 + 1) (Nat.lt_of_lt_of_le h.2 (Nat.le_of_lt_succ hn1)) h.1)
            refine r_if_eq (pc := 91) (tgt := 110) hC dX7_widenFrom_91 rfl (fun hc1 => ?_) (fun hc1 => ?_)
            · have h := h.1 hc1
              exact r_to [true, true, true, true, true, false, true, false, false] rfl rfl (S4 wi_first_1 wi_last_2 wi_worth_3 h)
            have h := h.2 hc1
            refine r_aload_n (pc := 94) hC 0 dX7_widenFrom_94 rfl rfl ?_
            refine r_iload_n (pc := 95) hC 1 dX7_widenFrom_95 rfl rfl ?_
            refine r_iload (pc := 96) hC dX7_widenFrom_96 rfl ?_
            refine r_aload_n (pc := 98) hC 0 dX7_widenFrom_98 rfl rfl ?_
            refine r_getr (r := 18) (pc := 99) hC dX7_widenFrom_99 fl_RX7_22 lX_34 rfl ?_
            refine r_lload (pc := 102) hC dX7_widenFrom_102 rfl ?_
            refine r_callVi (pc := 104) hC [aL x8] [aI x5, aI a1, aR 34] dX7_widenFrom_104 ml_RX7_112 my_X2_worthOf mi_X2_worthOf lX_18 rfl rfl ⟨Nat.le_of_ble_eq_true rfl, Nat.le_of_ble_eq_true rfl⟩ ⟨Nat.le_of_ble_eq_true rfl, Nat.le_of_ble_eq_true rfl⟩ (Nat.le_of_ble_eq_true rfl) rfl (s_Query_worthOf l _ _ _ h) (fun r13 w1 hq => ?_)
            obtain ⟨e9, h⟩ := hq
            rw [e9]
            refine r_callVv (pc := 107) hC [aI a1, aI x5, aI r13] [] dX7_widenFrom_107 ml_RX7_116 my_X7_keepIfWorthier mi_X7_keepIfWorthier lX_34 rfl rfl ⟨Nat.le_of_ble_eq_true rfl, Nat.le_of_ble_eq_true rfl⟩ ⟨Nat.le_of_ble_eq_true rfl, Nat.le_of_ble_eq_true rfl⟩ (Nat.le_of_ble_eq_true rfl) rfl (s_Windows_keepIfWorthier l _ _ _ _ _ h) (fun w1 hq => ?_)
            obtain ⟨wi_first_14, wi_last_15, wi_worth_16, e9, h⟩ := hq
            rw [e9]
            exact r_to [true, true, true, true, true, false, true, false, false] rfl rfl (S4 wi_first_14 wi_last_15 wi_worth_16 h)
          refine r_ic_ge (pc := 47) (tgt := 89) hC dX7_widenFrom_47 rfl (fun hc4 => ?_) (fun hc4 => ?_)
          · have h := h.1 hc4
            exact r_to [true, true, true, true, true, false, true, true, false] rfl rfl (S3 h)
          have h := h.2 hc4
          refine r_iload (pc := 50) hC dX7_widenFrom_50 rfl ?_
          refine r_if_eq (pc := 52) (tgt := 89) hC dX7_widenFrom_52 rfl (fun hc3 => ?_) (fun hc3 => ?_)
          · have h := h.1 hc3
            exact r_to [true, true, true, true, true, false, true, true, false] rfl rfl (S3 h)
          have h := h.2 hc3
          refine r_lload (pc := 55) hC dX7_widenFrom_55 rfl ?_
          refine r_iload (pc := 57) hC dX7_widenFrom_57 rfl ?_
          refine r_iload (pc := 59) hC dX7_widenFrom_59 rfl ?_
          refine r_callSNi (pc := 61) hC [aI r7, aI x9] [aL x8] dX7_widenFrom_61 nl_RX7_69 my_X9_has ms_X9_has rfl ⟨Nat.le_of_ble_eq_true rfl, Nat.le_of_ble_eq_true rfl⟩ ⟨Nat.le_of_ble_eq_true rfl, Nat.le_of_ble_eq_true rfl⟩ (Nat.le_of_ble_eq_true rfl) rfl (s_Picker_has l _ _ _ _ h) (fun r17 w1 hq => ?_)
          obtain ⟨e9, h⟩ := hq
          rw [e9]
          obtain ⟨J5, hJ5, h⟩ := h
          have S5 : ∀ (y18 : Int64), J5 y18 → Wd p l e (rmD 2) s m args below meth c Q 0 0 9 D cA ad A LX (wI (wI (wI w 34 5 wi_first_1) 34 6 wi_last_2) 34 7 wi_worth_3) 80 [some (aR 34), some (aI a1), some (aI a2), some (aI a3), none, none, some (aI x5), some (aI r7), some (aI x9)] [aL y18, aL x8] := by
            intro y18 hj
            have h := hJ5 y18 hj
            refine r_ladd (pc := 80) hC dX7_widenFrom_80 ?_
            refine r_lstore (ls2 := [some (aR 34), some (aI a1), some (aI a2), some (aI a3), some (aL (x8 + y18)), none, some (aI x5), some (aI r7), some (aI x9)]) (pc := 81) hC dX7_widenFrom_81 (by decide) rfl rfl ?_
            refine r_iinc (ls2 := [some (aR 34), some (aI a1), some (aI a2), some (aI a3), some (aL (x8 + y18)), none, some (aI x5), some (aI r7), some (aI (x9 + 1))]) (pc := 83) hC dX7_widenFrom_83 rfl (by decide) rfl h.1 rfl ?_
            have h := h.2
            refine r_goto (tgt := 38) (pc := 86) hC dX7_widenFrom_86 rfl ?_
            exact r_to [true, true, true, true, true, false, true, true, true] rfl rfl (ih2 (x8 + y18) (x9 + 1) (Nat.lt_of_lt_of_le h.2 (Nat.le_of_lt_succ hn2)) h.1)
          refine r_if_eq (pc := 64) (tgt := 79) hC dX7_widenFrom_64 rfl (fun hc2 => ?_) (fun hc2 => ?_)
          · have h := h.1 hc2
            refine r_lconst (x := 0) (pc := 79) hC dX7_widenFrom_79 rfl ?_
            exact r_to [true, true, true, true, false, false, true, true, true] rfl rfl (S5 0 h)
          have h := h.2 hc2
          refine r_aload_n (pc := 67) hC 0 dX7_widenFrom_67 rfl rfl ?_
          refine r_getr (r := 18) (pc := 68) hC dX7_widenFrom_68 fl_RX7_22 lX_34 rfl ?_
          refine r_iload (pc := 71) hC dX7_widenFrom_71 rfl ?_
          refine r_callVl (pc := 73) hC [aI x9] [aL x8] dX7_widenFrom_73 ml_RX7_108 my_X2_oneOf mi_X2_oneOf lX_18 rfl rfl ⟨Nat.le_of_ble_eq_true rfl, Nat.le_of_ble_eq_true rfl⟩ ⟨Nat.le_of_ble_eq_true rfl, Nat.le_of_ble_eq_true rfl⟩ (Nat.le_of_ble_eq_true rfl) rfl (s_Query_oneOf l _ _ _ h) (fun r19 w1 hq => ?_)
          obtain ⟨e9, h⟩ := hq
          rw [e9]
          refine r_goto (tgt := 80) (pc := 76) hC dX7_widenFrom_76 rfl ?_
          exact r_to [true, true, true, true, false, false, true, true, true] rfl rfl (S5 r19 h)
      exact r_to [true, true, true, true, true, false, true, true, true] rfl rfl (S2 _ x4 0 (Nat.lt_succ_self _) hI2)
  exact r_to [true, true, true, true, true, false, true, false, false] rfl rfl (S1 _ (w.1 34 5) (w.1 34 6) (w.1 34 7) 0 a1 (Nat.lt_succ_self _) hI1)
def wp_Windows_seekWidest (pg_signAt : (Nat → Int)) (pg_wordBegin : (Nat → Int)) (pg_wordEnd : (Nat → Int)) (qy_weights : (Nat → Int)) (qy_termCounts : (Nat → Int)) (mt_beginning : (Nat → Int)) (mt_ending : (Nat → Int)) (qy_items : Int) (wi_first : Int) (wi_last : Int) (wi_worth : Int) (wi_whole : Int) (a1 : Int) (a2 : Int) (a3 : Int) (Q : Int → Int → Int → Int → Prop) : Prop := wp_Windows_forget wi_first wi_last wi_worth wi_whole (fun (wi_first_1 : Int) (wi_last_2 : Int) (wi_worth_3 : Int) (wi_whole_4 : Int) => lpw4 (fun (wi_first_5 : Int) (wi_last_6 : Int) (wi_worth_7 : Int) (x8 : Int) (k1 : Int → Int → Int → Int → Prop) => (a2 < x8 → Q wi_first_5 wi_last_6 wi_worth_7 wi_whole_4) ∧ (¬ a2 < x8 → (0 ≤ x8 ∧ x8 < 100) ∧ (jn3 (fun (J2 : Int → Int → Int → Prop) => ((mt_beginning (Int.toNat x8)) = 0 → J2 wi_first_5 wi_last_6 wi_worth_7) ∧ (¬ (mt_beginning (Int.toNat x8)) = 0 → wp_Windows_widenFrom pg_signAt pg_wordBegin pg_wordEnd qy_weights qy_termCounts mt_ending qy_items wi_first_5 wi_last_6 wi_worth_7 x8 a2 a3 (fun (wi_first_12 : Int) (wi_last_13 : Int) (wi_worth_14 : Int) => J2 wi_first_12 wi_last_13 wi_worth_14))) (fun (wi_first_9 : Int) (wi_last_10 : Int) (wi_worth_11 : Int) => (rng (x8 + 1)) ∧ (k1 wi_first_9 wi_last_10 wi_worth_11 (x8 + 1)))))) wi_first_1 wi_last_2 wi_worth_3 (max a1 0))
set_option maxHeartbeats 4000000 in
set_option maxRecDepth 20000 in
theorem s_Windows_seekWidest (l : Launch) (w : St) (a1 : Int) (a2 : Int) (a3 : Int) (P : Int → Int → Int → Int → Prop) (h : wp_Windows_seekWidest (w.1 6) (w.1 7) (w.1 8) (w.1 19) (w.1 20) (w.1 30) (w.1 31) (w.1 18 6) (w.1 34 5) (w.1 34 6) (w.1 34 7) (w.1 34 8) a1 a2 a3 P) : Cn l yX7_seekWidest cX7_seekWidest 5 none 3 LX w [aR 34, aI a1, aI a2, aI a3] (okV (fun w1 => ∃ (o0 : Int) (o1 : Int) (o2 : Int) (o3 : Int), w1 = (wI (wI (wI (wI w 34 5 o0) 34 6 o1) 34 7 o2) 34 8 o3) ∧ P o0 o1 o2 o3)) := by
  unfold wp_Windows_seekWidest at h
  refine Cn.of2 [some (aR 34), some (aI a1), some (aI a2), some (aI a3), none] (by decide) (Nat.le_of_ble_eq_true rfl) rfl (fun p e s m args below meth c D cA ad A Q hQ hC hr hk => ?_)
  refine r_aload_n (pc := 0) hC 0 dX7_seekWidest_0 rfl rfl ?_
  refine r_callVv (pc := 1) hC [] [] dX7_seekWidest_1 ml_RX7_89 my_X7_forget mi_X7_forget lX_34 rfl rfl ⟨Nat.le_of_ble_eq_true rfl, Nat.le_of_ble_eq_true rfl⟩ ⟨Nat.le_of_ble_eq_true rfl, Nat.le_of_ble_eq_true rfl⟩ (Nat.le_of_ble_eq_true rfl) rfl (s_Windows_forget l _ _ h) (fun w1 hq => ?_)
  obtain ⟨wi_first_1, wi_last_2, wi_worth_3, wi_whole_4, e9, h⟩ := hq
  rw [e9]
  refine r_iload_n (pc := 4) hC 1 dX7_seekWidest_4 rfl rfl ?_
  refine r_iconst (pc := 5) hC dX7_seekWidest_5 (rng_lit rfl) ?_
  refine r_max (pc := 6) hC dX7_seekWidest_6 ml_RX7_76 ks_max ks_Math kd_max ⟨Nat.le_of_ble_eq_true rfl, Nat.le_of_ble_eq_true rfl⟩ ⟨Nat.le_of_ble_eq_true rfl, Nat.le_of_ble_eq_true rfl⟩ (Nat.le_of_ble_eq_true rfl) ?_
  refine r_istore (ls2 := [some (aR 34), some (aI a1), some (aI a2), some (aI a3), some (aI (max a1 0))]) (pc := 9) hC dX7_seekWidest_9 (by decide) rfl rfl ?_
  obtain ⟨I1, μ1, hI1, hB1⟩ := h
  have S1 : ∀ (nn : Nat) (wi_first_5 : Int) (wi_last_6 : Int) (wi_worth_7 : Int) (x8 : Int), μ1 wi_first_5 wi_last_6 wi_worth_7 x8 < nn → I1 wi_first_5 wi_last_6 wi_worth_7 x8 → Wd p l e (rmD 3) s m args below meth c Q 0 0 5 D cA ad A LX (wI (wI (wI (wI w 34 5 wi_first_5) 34 6 wi_last_6) 34 7 wi_worth_7) 34 8 wi_whole_4) 11 [some (aR 34), none, some (aI a2), some (aI a3), some (aI x8)] [] := by
    intro nn
    induction nn with
    | zero => intro wi_first_5 wi_last_6 wi_worth_7 x8 hn; exact absurd hn (Nat.not_lt_zero _)
    | succ nn ih1 =>
      intro wi_first_5 wi_last_6 wi_worth_7 x8 hn1 hi
      have h := hB1 wi_first_5 wi_last_6 wi_worth_7 x8 hi
      refine r_iload (pc := 11) hC dX7_seekWidest_11 rfl ?_
      refine r_iload_n (pc := 13) hC 2 dX7_seekWidest_13 rfl rfl ?_
      refine r_ic_gt (pc := 14) (tgt := 44) hC dX7_seekWidest_14 rfl (fun hc2 => ?_) (fun hc2 => ?_)
      · have h := h.1 hc2
        refine r_conv (w2 := (wI (wI (wI (wI w 34 5 wi_first_5) 34 6 wi_last_6) 34 7 wi_worth_7) 34 8 wi_whole_4)) rfl ?_
        exact r_retv (pc := 44) hC hQ dX7_seekWidest_44 hr hk ⟨wi_first_5, wi_last_6, wi_worth_7, wi_whole_4, rfl, h⟩
      have h := h.2 hc2
      refine r_aload_n (pc := 17) hC 0 dX7_seekWidest_17 rfl rfl ?_
      refine r_getr (r := 29) (pc := 18) hC dX7_seekWidest_18 fl_RX7_26 lX_34 rfl ?_
      refine r_getr (r := 30) (pc := 21) hC dX7_seekWidest_21 fl_RX7_64 lX_29 rfl ?_
      refine r_iload (pc := 24) hC dX7_seekWidest_24 rfl ?_
      refine r_iald (v := ((w.1 30) (Int.toNat x8))) (pc := 26) hC dX7_seekWidest_26 lX_30 h.1.1 h.1.2 rfl ?_
      have h := h.2
      obtain ⟨J2, hJ2, h⟩ := h
      have S2 : ∀ (wi_first_9 : Int) (wi_last_10 : Int) (wi_worth_11 : Int), J2 wi_first_9 wi_last_10 wi_worth_11 → Wd p l e (rmD 3) s m args below meth c Q 0 0 5 D cA ad A LX (wI (wI (wI (wI w 34 5 wi_first_9) 34 6 wi_last_10) 34 7 wi_worth_11) 34 8 wi_whole_4) 38 [some (aR 34), none, some (aI a2), some (aI a3), some (aI x8)] [] := by
        intro wi_first_9 wi_last_10 wi_worth_11 hj
        have h := hJ2 wi_first_9 wi_last_10 wi_worth_11 hj
        refine r_iinc (ls2 := [some (aR 34), none, some (aI a2), some (aI a3), some (aI (x8 + 1))]) (pc := 38) hC dX7_seekWidest_38 rfl (by decide) rfl h.1 rfl ?_
        have h := h.2
        refine r_goto (tgt := 11) (pc := 41) hC dX7_seekWidest_41 rfl ?_
        exact r_to [true, false, true, true, true] rfl rfl (ih1 wi_first_9 wi_last_10 wi_worth_11 (x8 + 1) (Nat.lt_of_lt_of_le h.2 (Nat.le_of_lt_succ hn1)) h.1)
      refine r_if_eq (pc := 27) (tgt := 38) hC dX7_seekWidest_27 rfl (fun hc1 => ?_) (fun hc1 => ?_)
      · have h := h.1 hc1
        exact r_to [true, false, true, true, true] rfl rfl (S2 wi_first_5 wi_last_6 wi_worth_7 h)
      have h := h.2 hc1
      refine r_aload_n (pc := 30) hC 0 dX7_seekWidest_30 rfl rfl ?_
      refine r_iload (pc := 31) hC dX7_seekWidest_31 rfl ?_
      refine r_iload_n (pc := 33) hC 2 dX7_seekWidest_33 rfl rfl ?_
      refine r_iload_n (pc := 34) hC 3 dX7_seekWidest_34 rfl rfl ?_
      refine r_callVv (pc := 35) hC [aI x8, aI a2, aI a3] [] dX7_seekWidest_35 ml_RX7_104 my_X7_widenFrom mi_X7_widenFrom lX_34 rfl rfl ⟨Nat.le_of_ble_eq_true rfl, Nat.le_of_ble_eq_true rfl⟩ ⟨Nat.le_of_ble_eq_true rfl, Nat.le_of_ble_eq_true rfl⟩ (Nat.le_of_ble_eq_true rfl) rfl (s_Windows_widenFrom l _ _ _ _ _ h) (fun w1 hq => ?_)
      obtain ⟨wi_first_12, wi_last_13, wi_worth_14, e9, h⟩ := hq
      rw [e9]
      exact r_to [true, false, true, true, true] rfl rfl (S2 wi_first_12 wi_last_13 wi_worth_14 h)
  exact r_to [true, false, true, true, true] rfl rfl (S1 _ wi_first_1 wi_last_2 wi_worth_3 (max a1 0) (Nat.lt_succ_self _) hI1)
def wp_Windows_seekBeginning (pg_signAt : (Nat → Int)) (pg_wordBegin : (Nat → Int)) (pg_wordEnd : (Nat → Int)) (wi_first : Int) (wi_last : Int) (a1 : Int) (a2 : Int) (a3 : Int) (Q : Int → Int → Prop) : Prop := lpw3 (fun (wi_first_1 : Int) (wi_last_2 : Int) (x3 : Int) (k1 : Int → Int → Int → Prop) => (a2 < x3 → Q wi_first_1 wi_last_2) ∧ (¬ a2 < x3 → wp_Page_windowLength pg_signAt pg_wordBegin pg_wordEnd a1 x3 (fun (r4 : Int) => (a3 < r4 → Q wi_first_1 wi_last_2) ∧ (¬ a3 < r4 → (rng (x3 + 1)) ∧ (k1 a1 x3 (x3 + 1)))))) wi_first wi_last a1
set_option maxHeartbeats 4000000 in
set_option maxRecDepth 20000 in
theorem s_Windows_seekBeginning (l : Launch) (w : St) (a1 : Int) (a2 : Int) (a3 : Int) (P : Int → Int → Prop) (h : wp_Windows_seekBeginning (w.1 6) (w.1 7) (w.1 8) (w.1 34 5) (w.1 34 6) a1 a2 a3 P) : Cn l yX7_seekBeginning cX7_seekBeginning 5 none 1 LX w [aR 34, aI a1, aI a2, aI a3] (okV (fun w1 => ∃ (o0 : Int) (o1 : Int), w1 = (wI (wI w 34 5 o0) 34 6 o1) ∧ P o0 o1)) := by
  unfold wp_Windows_seekBeginning at h
  refine Cn.of2 [some (aR 34), some (aI a1), some (aI a2), some (aI a3), none] (by decide) (Nat.le_of_ble_eq_true rfl) rfl (fun p e s m args below meth c D cA ad A Q hQ hC hr hk => ?_)
  refine r_iload_n (pc := 0) hC 1 dX7_seekBeginning_0 rfl rfl ?_
  refine r_istore (ls2 := [some (aR 34), some (aI a1), some (aI a2), some (aI a3), some (aI a1)]) (pc := 1) hC dX7_seekBeginning_1 (by decide) rfl rfl ?_
  obtain ⟨I1, μ1, hI1, hB1⟩ := h
  have S1 : ∀ (nn : Nat) (wi_first_1 : Int) (wi_last_2 : Int) (x3 : Int), μ1 wi_first_1 wi_last_2 x3 < nn → I1 wi_first_1 wi_last_2 x3 → Wd p l e (rmD 1) s m args below meth c Q 0 0 5 D cA ad A LX (wI (wI w 34 5 wi_first_1) 34 6 wi_last_2) 3 [some (aR 34), some (aI a1), some (aI a2), some (aI a3), some (aI x3)] [] := by
    intro nn
    induction nn with
    | zero => intro wi_first_1 wi_last_2 x3 hn; exact absurd hn (Nat.not_lt_zero _)
    | succ nn ih1 =>
      intro wi_first_1 wi_last_2 x3 hn1 hi
      have h := hB1 wi_first_1 wi_last_2 x3 hi
      refine r_iload (pc := 3) hC dX7_seekBeginning_3 rfl ?_
      refine r_iload_n (pc := 5) hC 2 dX7_seekBeginning_5 rfl rfl ?_
      refine r_ic_gt (pc := 6) (tgt := 40) hC dX7_seekBeginning_6 rfl (fun hc2 => ?_) (fun hc2 => ?_)
      · have h := h.1 hc2
        refine r_conv (w2 := (wI (wI w 34 5 wi_first_1) 34 6 wi_last_2)) rfl ?_
        exact r_retv (pc := 40) hC hQ dX7_seekBeginning_40 hr hk ⟨wi_first_1, wi_last_2, rfl, h⟩
      have h := h.2 hc2
      refine r_aload_n (pc := 9) hC 0 dX7_seekBeginning_9 rfl rfl ?_
      refine r_getr (r := 3) (pc := 10) hC dX7_seekBeginning_10 fl_RX7_18 lX_34 rfl ?_
      refine r_iload_n (pc := 13) hC 1 dX7_seekBeginning_13 rfl rfl ?_
      refine r_iload (pc := 14) hC dX7_seekBeginning_14 rfl ?_
      refine r_callVi (pc := 16) hC [aI a1, aI x3] [] dX7_seekBeginning_16 ml_RX7_44 my_X1_windowLength mi_X1_windowLength lX_3 rfl rfl ⟨Nat.le_of_ble_eq_true rfl, Nat.le_of_ble_eq_true rfl⟩ ⟨Nat.le_of_ble_eq_true rfl, Nat.le_of_ble_eq_true rfl⟩ (Nat.le_of_ble_eq_true rfl) rfl (s_Page_windowLength l _ _ _ _ h) (fun r4 w1 hq => ?_)
      obtain ⟨e9, h⟩ := hq
      rw [e9]
      refine r_iload_n (pc := 19) hC 3 dX7_seekBeginning_19 rfl rfl ?_
      refine r_ic_gt (pc := 20) (tgt := 40) hC dX7_seekBeginning_20 rfl (fun hc1 => ?_) (fun hc1 => ?_)
      · have h := h.1 hc1
        refine r_conv (w2 := (wI (wI w 34 5 wi_first_1) 34 6 wi_last_2)) rfl ?_
        exact r_retv (pc := 40) hC hQ dX7_seekBeginning_40 hr hk ⟨wi_first_1, wi_last_2, rfl, h⟩
      have h := h.2 hc1
      refine r_aload_n (pc := 23) hC 0 dX7_seekBeginning_23 rfl rfl ?_
      refine r_iload_n (pc := 24) hC 1 dX7_seekBeginning_24 rfl rfl ?_
      refine r_put (kd := 0) (pc := 25) hC dX7_seekBeginning_25 pl_RX7_30 lX_34 rfl (by decide) (Or.inl rfl) ?_
      refine r_aload_n (pc := 28) hC 0 dX7_seekBeginning_28 rfl rfl ?_
      refine r_iload (pc := 29) hC dX7_seekBeginning_29 rfl ?_
      refine r_put (kd := 0) (pc := 31) hC dX7_seekBeginning_31 pl_RX7_34 lX_34 rfl (by decide) (Or.inl rfl) ?_
      refine r_iinc (ls2 := [some (aR 34), some (aI a1), some (aI a2), some (aI a3), some (aI (x3 + 1))]) (pc := 34) hC dX7_seekBeginning_34 rfl (by decide) rfl h.1 rfl ?_
      have h := h.2
      refine r_goto (tgt := 3) (pc := 37) hC dX7_seekBeginning_37 rfl ?_
      exact r_to [true, true, true, true, true] rfl rfl (ih1 a1 x3 (x3 + 1) (Nat.lt_of_lt_of_le h.2 (Nat.le_of_lt_succ hn1)) h.1)
  exact r_to [true, true, true, true, true] rfl rfl (S1 _ (w.1 34 5) (w.1 34 6) a1 (Nat.lt_succ_self _) hI1)
def wp_Windows_seekCut (pg_signAt : (Nat → Int)) (pg_wordBegin : (Nat → Int)) (pg_wordEnd : (Nat → Int)) (pg_sentenceSigns : (Nat → Int)) (pg_sentenceFirst : (Nat → Int)) (pg_sentenceWords : (Nat → Int)) (qy_weights : (Nat → Int)) (qy_termCounts : (Nat → Int)) (mt_beginning : (Nat → Int)) (mt_ending : (Nat → Int)) (qy_items : Int) (wi_first : Int) (wi_last : Int) (wi_worth : Int) (wi_whole : Int) (a1 : Int) (a2 : Int) (Q : Int → Int → Int → Int → Prop) : Prop := (0 ≤ a1 ∧ a1 < 14) ∧ (wp_Page_lastWordOf pg_sentenceFirst pg_sentenceWords a1 (fun (r1 : Int) => (0 ≤ a1 ∧ a1 < 14) ∧ ((a2 < (pg_sentenceSigns (Int.toNat a1)) → wp_Windows_seekWidest pg_signAt pg_wordBegin pg_wordEnd qy_weights qy_termCounts mt_beginning mt_ending qy_items wi_first wi_last wi_worth wi_whole (pg_sentenceFirst (Int.toNat a1)) r1 a2 (fun (wi_first_2 : Int) (wi_last_3 : Int) (wi_worth_4 : Int) (wi_whole_5 : Int) => (¬ wi_first_2 = (-1) → Q wi_first_2 wi_last_3 wi_worth_4 wi_whole_5) ∧ (wi_first_2 = (-1) → ((pg_sentenceFirst (Int.toNat a1)) = (-1) → Q wi_first_2 wi_last_3 wi_worth_4 wi_whole_5) ∧ (¬ (pg_sentenceFirst (Int.toNat a1)) = (-1) → wp_Windows_seekBeginning pg_signAt pg_wordBegin pg_wordEnd wi_first_2 wi_last_3 (pg_sentenceFirst (Int.toNat a1)) r1 a2 (fun (wi_first_6 : Int) (wi_last_7 : Int) => Q wi_first_6 wi_last_7 wi_worth_4 wi_whole_5))))) ∧ (¬ a2 < (pg_sentenceSigns (Int.toNat a1)) → wp_Windows_forget wi_first wi_last wi_worth wi_whole (fun (wi_first_8 : Int) (wi_last_9 : Int) (wi_worth_10 : Int) (wi_whole_11 : Int) => Q (pg_sentenceFirst (Int.toNat a1)) r1 wi_worth_10 1)))))
set_option maxHeartbeats 4000000 in
set_option maxRecDepth 20000 in
theorem s_Windows_seekCut (l : Launch) (w : St) (a1 : Int) (a2 : Int) (P : Int → Int → Int → Int → Prop) (h : wp_Windows_seekCut (w.1 6) (w.1 7) (w.1 8) (w.1 13) (w.1 14) (w.1 15) (w.1 19) (w.1 20) (w.1 30) (w.1 31) (w.1 18 6) (w.1 34 5) (w.1 34 6) (w.1 34 7) (w.1 34 8) a1 a2 P) : Cn l yX7_seekCut cX7_seekCut 5 none 4 LX w [aR 34, aI a1, aI a2] (okV (fun w1 => ∃ (o0 : Int) (o1 : Int) (o2 : Int) (o3 : Int), w1 = (wI (wI (wI (wI w 34 5 o0) 34 6 o1) 34 7 o2) 34 8 o3) ∧ P o0 o1 o2 o3)) := by
  unfold wp_Windows_seekCut at h
  refine Cn.of2 [some (aR 34), some (aI a1), some (aI a2), none, none] (by decide) (Nat.le_of_ble_eq_true rfl) rfl (fun p e s m args below meth c D cA ad A Q hQ hC hr hk => ?_)
  refine r_aload_n (pc := 0) hC 0 dX7_seekCut_0 rfl rfl ?_
  refine r_getr (r := 3) (pc := 1) hC dX7_seekCut_1 fl_RX7_18 lX_34 rfl ?_
  refine r_getr (r := 14) (pc := 4) hC dX7_seekCut_4 fl_RX7_119 lX_3 rfl ?_
  refine r_iload_n (pc := 7) hC 1 dX7_seekCut_7 rfl rfl ?_
  refine r_iald (v := ((w.1 14) (Int.toNat a1))) (pc := 8) hC dX7_seekCut_8 lX_14 h.1.1 h.1.2 rfl ?_
  have h := h.2
  refine r_istore_n (ls2 := [some (aR 34), some (aI a1), some (aI a2), some (aI ((w.1 14) (Int.toNat a1))), none]) (pc := 9) hC 3 dX7_seekCut_9 rfl (by decide) rfl rfl ?_
  refine r_aload_n (pc := 10) hC 0 dX7_seekCut_10 rfl rfl ?_
  refine r_getr (r := 3) (pc := 11) hC dX7_seekCut_11 fl_RX7_18 lX_34 rfl ?_
  refine r_iload_n (pc := 14) hC 1 dX7_seekCut_14 rfl rfl ?_
  refine r_callVi (pc := 15) hC [aI a1] [] dX7_seekCut_15 ml_RX7_122 my_X1_lastWordOf mi_X1_lastWordOf lX_3 rfl rfl ⟨Nat.le_of_ble_eq_true rfl, Nat.le_of_ble_eq_true rfl⟩ ⟨Nat.le_of_ble_eq_true rfl, Nat.le_of_ble_eq_true rfl⟩ (Nat.le_of_ble_eq_true rfl) rfl (s_Page_lastWordOf l _ _ _ h) (fun r1 w1 hq => ?_)
  obtain ⟨e9, h⟩ := hq
  rw [e9]
  refine r_istore (ls2 := [some (aR 34), some (aI a1), some (aI a2), some (aI ((w.1 14) (Int.toNat a1))), some (aI r1)]) (pc := 18) hC dX7_seekCut_18 (by decide) rfl rfl ?_
  refine r_aload_n (pc := 20) hC 0 dX7_seekCut_20 rfl rfl ?_
  refine r_getr (r := 3) (pc := 21) hC dX7_seekCut_21 fl_RX7_18 lX_34 rfl ?_
  refine r_getr (r := 13) (pc := 24) hC dX7_seekCut_24 fl_RX7_125 lX_3 rfl ?_
  refine r_iload_n (pc := 27) hC 1 dX7_seekCut_27 rfl rfl ?_
  refine r_iald (v := ((w.1 13) (Int.toNat a1))) (pc := 28) hC dX7_seekCut_28 lX_13 h.1.1 h.1.2 rfl ?_
  have h := h.2
  refine r_iload_n (pc := 29) hC 2 dX7_seekCut_29 rfl rfl ?_
  refine r_ic_gt (pc := 30) (tgt := 54) hC dX7_seekCut_30 rfl (fun hc3 => ?_) (fun hc3 => ?_)
  · have h := h.1 hc3
    refine r_aload_n (pc := 54) hC 0 dX7_seekCut_54 rfl rfl ?_
    refine r_iload_n (pc := 55) hC 3 dX7_seekCut_55 rfl rfl ?_
    refine r_iload (pc := 56) hC dX7_seekCut_56 rfl ?_
    refine r_iload_n (pc := 58) hC 2 dX7_seekCut_58 rfl rfl ?_
    refine r_callVv (pc := 59) hC [aI ((w.1 14) (Int.toNat a1)), aI r1, aI a2] [] dX7_seekCut_59 ml_RX7_128 my_X7_seekWidest mi_X7_seekWidest lX_34 rfl rfl ⟨Nat.le_of_ble_eq_true rfl, Nat.le_of_ble_eq_true rfl⟩ ⟨Nat.le_of_ble_eq_true rfl, Nat.le_of_ble_eq_true rfl⟩ (Nat.le_of_ble_eq_true rfl) rfl (s_Windows_seekWidest l _ _ _ _ _ h) (fun w1 hq => ?_)
    obtain ⟨wi_first_2, wi_last_3, wi_worth_4, wi_whole_5, e9, h⟩ := hq
    rw [e9]
    refine r_aload_n (pc := 62) hC 0 dX7_seekCut_62 rfl rfl ?_
    refine r_get (kd := 0) (v := wi_first_2) (pc := 63) hC dX7_seekCut_63 fl_RX7_30 lX_34 rfl rfl ?_
    refine r_iconst (pc := 66) hC dX7_seekCut_66 (rng_lit rfl) ?_
    refine r_ic_ne (pc := 67) (tgt := 83) hC dX7_seekCut_67 rfl (fun hc2 => ?_) (fun hc2 => ?_)
    · have h := h.1 hc2
      refine r_conv (w2 := (wI (wI (wI (wI w 34 5 wi_first_2) 34 6 wi_last_3) 34 7 wi_worth_4) 34 8 wi_whole_5)) rfl ?_
      exact r_retv (pc := 83) hC hQ dX7_seekCut_83 hr hk ⟨wi_first_2, wi_last_3, wi_worth_4, wi_whole_5, rfl, h⟩
    have h := h.2 hc2
    refine r_iload_n (pc := 70) hC 3 dX7_seekCut_70 rfl rfl ?_
    refine r_iconst (pc := 71) hC dX7_seekCut_71 (rng_lit rfl) ?_
    refine r_ic_eq (pc := 72) (tgt := 83) hC dX7_seekCut_72 rfl (fun hc1 => ?_) (fun hc1 => ?_)
    · have h := h.1 hc1
      refine r_conv (w2 := (wI (wI (wI (wI w 34 5 wi_first_2) 34 6 wi_last_3) 34 7 wi_worth_4) 34 8 wi_whole_5)) rfl ?_
      exact r_retv (pc := 83) hC hQ dX7_seekCut_83 hr hk ⟨wi_first_2, wi_last_3, wi_worth_4, wi_whole_5, rfl, h⟩
    have h := h.2 hc1
    refine r_aload_n (pc := 75) hC 0 dX7_seekCut_75 rfl rfl ?_
    refine r_iload_n (pc := 76) hC 3 dX7_seekCut_76 rfl rfl ?_
    refine r_iload (pc := 77) hC dX7_seekCut_77 rfl ?_
    refine r_iload_n (pc := 79) hC 2 dX7_seekCut_79 rfl rfl ?_
    refine r_callVv (pc := 80) hC [aI ((w.1 14) (Int.toNat a1)), aI r1, aI a2] [] dX7_seekCut_80 ml_RX7_131 my_X7_seekBeginning mi_X7_seekBeginning lX_34 rfl rfl ⟨Nat.le_of_ble_eq_true rfl, Nat.le_of_ble_eq_true rfl⟩ ⟨Nat.le_of_ble_eq_true rfl, Nat.le_of_ble_eq_true rfl⟩ (Nat.le_of_ble_eq_true rfl) rfl (s_Windows_seekBeginning l _ _ _ _ _ h) (fun w1 hq => ?_)
    obtain ⟨wi_first_6, wi_last_7, e9, h⟩ := hq
    rw [e9]
    refine r_conv (w2 := (wI (wI (wI (wI w 34 5 wi_first_6) 34 6 wi_last_7) 34 7 wi_worth_4) 34 8 wi_whole_5)) rfl ?_
    exact r_retv (pc := 83) hC hQ dX7_seekCut_83 hr hk ⟨wi_first_6, wi_last_7, wi_worth_4, wi_whole_5, rfl, h⟩
  have h := h.2 hc3
  refine r_aload_n (pc := 33) hC 0 dX7_seekCut_33 rfl rfl ?_
  refine r_callVv (pc := 34) hC [] [] dX7_seekCut_34 ml_RX7_89 my_X7_forget mi_X7_forget lX_34 rfl rfl ⟨Nat.le_of_ble_eq_true rfl, Nat.le_of_ble_eq_true rfl⟩ ⟨Nat.le_of_ble_eq_true rfl, Nat.le_of_ble_eq_true rfl⟩ (Nat.le_of_ble_eq_true rfl) rfl (s_Windows_forget l _ _ h) (fun w1 hq => ?_)
  obtain ⟨wi_first_8, wi_last_9, wi_worth_10, wi_whole_11, e9, h⟩ := hq
  rw [e9]
  refine r_aload_n (pc := 37) hC 0 dX7_seekCut_37 rfl rfl ?_
  refine r_iload_n (pc := 38) hC 3 dX7_seekCut_38 rfl rfl ?_
  refine r_put (kd := 0) (pc := 39) hC dX7_seekCut_39 pl_RX7_30 lX_34 rfl (by decide) (Or.inl rfl) ?_
  refine r_aload_n (pc := 42) hC 0 dX7_seekCut_42 rfl rfl ?_
  refine r_iload (pc := 43) hC dX7_seekCut_43 rfl ?_
  refine r_put (kd := 0) (pc := 45) hC dX7_seekCut_45 pl_RX7_34 lX_34 rfl (by decide) (Or.inl rfl) ?_
  refine r_aload_n (pc := 48) hC 0 dX7_seekCut_48 rfl rfl ?_
  refine r_iconst (pc := 49) hC dX7_seekCut_49 (rng_lit rfl) ?_
  refine r_put (kd := 1) (pc := 50) hC dX7_seekCut_50 pl_RX7_40 lX_34 rfl (by decide) (Or.inr okK1_1) ?_
  refine r_conv (w2 := (wI (wI (wI (wI w 34 5 ((w.1 14) (Int.toNat a1))) 34 6 r1) 34 7 wi_worth_10) 34 8 1)) rfl ?_
  exact r_retv (pc := 53) hC hQ dX7_seekCut_53 hr hk ⟨((w.1 14) (Int.toNat a1)), r1, wi_worth_10, 1, rfl, h⟩
def wp_JA_fill_42 (wr_layers : (Nat → Int)) (a1 : Int) (Q : (Nat → Int) → Prop) : Prop := lpw2 (fun (wr_layers_1 : (Nat → Int)) (x2 : Int) (k1 : (Nat → Int) → Int → Prop) => (600 ≤ x2 → Q wr_layers_1) ∧ (¬ 600 ≤ x2 → (0 ≤ x2 ∧ x2 < 600) ∧ ((rng (x2 + 1)) ∧ (k1 (uI wr_layers_1 x2 a1) (x2 + 1))))) wr_layers 0
set_option maxHeartbeats 4000000 in
set_option maxRecDepth 20000 in
theorem s_JA_fill_42 (l : Launch) (w : St) (a1 : Int) (P : (Nat → Int) → Prop) (h : wp_JA_fill_42 (w.1 42) a1 P) : Cn l yJ7_fill_53178 cJ7_fill_53178 4 none 0 LX w [aR 42, aI a1] (okV (fun w1 => ∃ (o0 : (Nat → Int)), w1 = (wA w 42 o0) ∧ P o0)) := by
  unfold wp_JA_fill_42 at h
  refine Cn.of2 [some (aR 42), some (aI a1), none, none] (by decide) (Nat.le_of_ble_eq_true rfl) rfl (fun p e s m args below meth c D cA ad A Q hQ hC hr hk => ?_)
  refine r_iconst (pc := 0) hC dJ7_fill_53178_0 (rng_lit rfl) ?_
  refine r_istore_n (ls2 := [some (aR 42), some (aI a1), some (aI 0), none]) (pc := 1) hC 2 dJ7_fill_53178_1 rfl (by decide) rfl rfl ?_
  refine r_aload_n (pc := 2) hC 0 dJ7_fill_53178_2 rfl rfl ?_
  refine r_alen (pc := 3) hC dJ7_fill_53178_3 lX_42 (by decide) (by decide) ?_
  refine r_istore_n (ls2 := [some (aR 42), some (aI a1), some (aI 0), some (aI 600)]) (pc := 4) hC 3 dJ7_fill_53178_4 rfl (by decide) rfl rfl ?_
  obtain ⟨I1, μ1, hI1, hB1⟩ := h
  have S1 : ∀ (nn : Nat) (wr_layers_1 : (Nat → Int)) (x2 : Int), μ1 wr_layers_1 x2 < nn → I1 wr_layers_1 x2 → Wd p l e (rmD 0) s m args below meth c Q 0 0 4 D cA ad A LX (wA w 42 wr_layers_1) 5 [some (aR 42), some (aI a1), some (aI x2), some (aI 600)] [] := by
    intro nn
    induction nn with
    | zero => intro wr_layers_1 x2 hn; exact absurd hn (Nat.not_lt_zero _)
    | succ nn ih1 =>
      intro wr_layers_1 x2 hn1 hi
      have h := hB1 wr_layers_1 x2 hi
      refine r_iload_n (pc := 5) hC 2 dJ7_fill_53178_5 rfl rfl ?_
      refine r_iload_n (pc := 6) hC 3 dJ7_fill_53178_6 rfl rfl ?_
      refine r_ic_ge (pc := 7) (tgt := 20) hC dJ7_fill_53178_7 rfl (fun hc1 => ?_) (fun hc1 => ?_)
      · have h := h.1 hc1
        refine r_conv (w2 := (wA w 42 wr_layers_1)) rfl ?_
        exact r_retv (pc := 20) hC hQ dJ7_fill_53178_20 hr hk ⟨wr_layers_1, rfl, h⟩
      have h := h.2 hc1
      refine r_aload_n (pc := 10) hC 0 dJ7_fill_53178_10 rfl rfl ?_
      refine r_iload_n (pc := 11) hC 2 dJ7_fill_53178_11 rfl rfl ?_
      refine r_iload_n (pc := 12) hC 1 dJ7_fill_53178_12 rfl rfl ?_
      refine r_iast (pc := 13) hC dJ7_fill_53178_13 lX_42 h.1.1 h.1.2 ?_
      have h := h.2
      refine r_iinc (ls2 := [some (aR 42), some (aI a1), some (aI (x2 + 1)), some (aI 600)]) (pc := 14) hC dJ7_fill_53178_14 rfl (by decide) rfl h.1 rfl ?_
      have h := h.2
      refine r_goto (tgt := 5) (pc := 17) hC dJ7_fill_53178_17 rfl ?_
      exact r_to [true, true, true, true] rfl rfl (ih1 (uI wr_layers_1 x2 a1) (x2 + 1) (Nat.lt_of_lt_of_le h.2 (Nat.le_of_lt_succ hn1)) h.1)
  exact r_to [true, true, true, true] rfl rfl (S1 _ (w.1 42) 0 (Nat.lt_succ_self _) hI1)
