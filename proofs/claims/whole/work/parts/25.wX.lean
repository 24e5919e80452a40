def wp_Sets_makeSteps (pg_sentenceSigns : (Nat → Int)) (qy_weights : (Nat → Int)) (se_steps : (Nat → Int)) (sr_tooLike : (Nat → Int)) (pg_sentences : Int) (qy_items : Int) (se_budget : Int) (se_most : Int) (se_stepCount : Int) (mt_tallies : (Nat → Int64)) (Q : Int → (Nat → Int) → Int → Prop) : Prop := lpw4 (fun (se_steps_1 : (Nat → Int)) (se_stepCount_2 : Int) (x3 : Int) (x4 : Int) (k1 : (Nat → Int) → Int → Int → Int → Prop) => (6 ≤ x4 → Q x3 se_steps_1 se_stepCount_2) ∧ (¬ 6 ≤ x4 → wp_Sets_nextStep pg_sentenceSigns qy_weights sr_tooLike pg_sentences qy_items se_budget se_most mt_tallies x3 (fun (r5 : Int) => (¬ r5 = (-1) → (0 ≤ x4 ∧ x4 < 6) ∧ ((rng (se_stepCount_2 + 1)) ∧ ((rng (x4 + 1)) ∧ (k1 (uI se_steps_1 x4 r5) (se_stepCount_2 + 1) (iOr x3 (iShl 1 r5)) (x4 + 1))))) ∧ (r5 = (-1) → Q x3 se_steps_1 se_stepCount_2)))) se_steps 0 0 0
set_option maxHeartbeats 4000000 in
set_option maxRecDepth 20000 in
theorem s_Sets_makeSteps (l : Launch) (w : St) (P : Int → (Nat → Int) → Int → Prop) (h : wp_Sets_makeSteps (w.1 13) (w.1 19) (w.1 38) (w.1 40) (w.1 3 17) (w.1 18 6) (w.1 37 4) (w.1 37 5) (w.1 37 9) (w.2 33) P) : Cn l yX5_makeSteps cX5_makeSteps 4 (some .int) 4 LX w [aR 37] (okI (fun r w1 => ∃ (o0 : (Nat → Int)) (o1 : Int), w1 = (wI (wA w 38 o0) 37 9 o1) ∧ P r o0 o1)) := by
  unfold wp_Sets_makeSteps at h
  refine Cn.of2 [some (aR 37), none, none, none] (by decide) (Nat.le_of_ble_eq_true rfl) rfl (fun p e s m args below meth c D cA ad A Q hQ hC hr hk => ?_)
  refine r_aload_n (pc := 0) hC 0 dX5_makeSteps_0 rfl rfl ?_
  refine r_iconst (pc := 1) hC dX5_makeSteps_1 (rng_lit rfl) ?_
  refine r_put (kd := 0) (pc := 2) hC dX5_makeSteps_2 pl_RX5_100 lX_37 rfl (by decide) (Or.inl rfl) ?_
  refine r_iconst (pc := 5) hC dX5_makeSteps_5 (rng_lit rfl) ?_
  refine r_istore_n (ls2 := [some (aR 37), some (aI 0), none, none]) (pc := 6) hC 1 dX5_makeSteps_6 rfl (by decide) rfl rfl ?_
  refine r_iconst (pc := 7) hC dX5_makeSteps_7 (rng_lit rfl) ?_
  refine r_istore_n (ls2 := [some (aR 37), some (aI 0), some (aI 0), none]) (pc := 8) hC 2 dX5_makeSteps_8 rfl (by decide) rfl rfl ?_
  obtain ⟨I1, μ1, hI1, hB1⟩ := h
  have S1 : ∀ (nn : Nat) (se_steps_1 : (Nat → Int)) (se_stepCount_2 : Int) (x3 : Int) (x4 : Int), μ1 se_steps_1 se_stepCount_2 x3 x4 < nn → I1 se_steps_1 se_stepCount_2 x3 x4 → Wd p l e (rmD 4) s m args below meth c Q 0 0 4 D cA ad A LX (wI (wA w 38 se_steps_1) 37 9 se_stepCount_2) 9 [some (aR 37), some (aI x3), some (aI x4), none] [] := by
    intro nn
    induction nn with
    | zero => intro se_steps_1 se_stepCount_2 x3 x4 hn; exact absurd hn (Nat.not_lt_zero _)
    | succ nn ih1 =>
      intro se_steps_1 se_stepCount_2 x3 x4 hn1 hi
      have h := hB1 se_steps_1 se_stepCount_2 x3 x4 hi
      refine r_iload_n (pc := 9) hC 2 dX5_makeSteps_9 rfl rfl ?_
      refine r_bipush (pc := 10) hC dX5_makeSteps_10 ⟨rfl, rng_lit rfl⟩ ?_
      refine r_ic_ge (pc := 12) (tgt := 58) hC dX5_makeSteps_12 rfl (fun hc2 => ?_) (fun hc2 => ?_)
      · have h := h.1 hc2
        refine r_iload_n (pc := 58) hC 1 dX5_makeSteps_58 rfl rfl ?_
        refine r_conv (w2 := (wI (wA w 38 se_steps_1) 37 9 se_stepCount_2)) rfl ?_
        exact r_reti (pc := 59) (kd := 0) hC hQ dX5_makeSteps_59 hr hk (by decide) (Or.inl rfl) ⟨se_steps_1, se_stepCount_2, rfl, h⟩
      have h := h.2 hc2
      refine r_aload_n (pc := 15) hC 0 dX5_makeSteps_15 rfl rfl ?_
      refine r_iload_n (pc := 16) hC 1 dX5_makeSteps_16 rfl rfl ?_
      refine r_callVi (pc := 17) hC [aI x3] [] dX5_makeSteps_17 ml_RX5_103 my_X5_nextStep mi_X5_nextStep lX_37 rfl rfl ⟨Nat.le_of_ble_eq_true rfl, Nat.le_of_ble_eq_true rfl⟩ ⟨Nat.le_of_ble_eq_true rfl, Nat.le_of_ble_eq_true rfl⟩ (Nat.le_of_ble_eq_true rfl) rfl (s_Sets_nextStep l _ _ _ h) (fun r5 w1 hq => ?_)
      obtain ⟨e9, h⟩ := hq
      rw [e9]
      refine r_istore_n (ls2 := [some (aR 37), some (aI x3), some (aI x4), some (aI r5)]) (pc := 20) hC 3 dX5_makeSteps_20 rfl (by decide) rfl rfl ?_
      refine r_iload_n (pc := 21) hC 3 dX5_makeSteps_21 rfl rfl ?_
      refine r_iconst (pc := 22) hC dX5_makeSteps_22 (rng_lit rfl) ?_
      refine r_ic_ne (pc := 23) (tgt := 29) hC dX5_makeSteps_23 rfl (fun hc1 => ?_) (fun hc1 => ?_)
      · have h := h.1 hc1
        refine r_aload_n (pc := 29) hC 0 dX5_makeSteps_29 rfl rfl ?_
        refine r_getr (r := 38) (pc := 30) hC dX5_makeSteps_30 fl_RX5_21 lX_37 rfl ?_
        refine r_iload_n (pc := 33) hC 2 dX5_makeSteps_33 rfl rfl ?_
        refine r_iload_n (pc := 34) hC 3 dX5_makeSteps_34 rfl rfl ?_
        refine r_iast (pc := 35) hC dX5_makeSteps_35 lX_38 h.1.1 h.1.2 ?_
        have h := h.2
        refine r_aload_n (pc := 36) hC 0 dX5_makeSteps_36 rfl rfl ?_
        refine r_dup (pc := 37) hC dX5_makeSteps_37 rfl ?_
        refine r_get (kd := 0) (v := se_stepCount_2) (pc := 38) hC dX5_makeSteps_38 fl_RX5_100 lX_37 rfl rfl ?_
        refine r_iconst (pc := 41) hC dX5_makeSteps_41 (rng_lit rfl) ?_
        refine r_iadd (pc := 42) hC dX5_makeSteps_42 h.1 ?_
        have h := h.2
        refine r_put (kd := 0) (pc := 43) hC dX5_makeSteps_43 pl_RX5_100 lX_37 rfl (by decide) (Or.inl rfl) ?_
        refine r_iload_n (pc := 46) hC 1 dX5_makeSteps_46 rfl rfl ?_
        refine r_iconst (pc := 47) hC dX5_makeSteps_47 (rng_lit rfl) ?_
        refine r_iload_n (pc := 48) hC 3 dX5_makeSteps_48 rfl rfl ?_
        refine r_ishl (pc := 49) hC dX5_makeSteps_49 ?_
        refine r_ior (pc := 50) hC dX5_makeSteps_50 ?_
        refine r_istore_n (ls2 := [some (aR 37), some (aI (iOr x3 (iShl 1 r5))), some (aI x4), some (aI r5)]) (pc := 51) hC 1 dX5_makeSteps_51 rfl (by decide) rfl rfl ?_
        refine r_iinc (ls2 := [some (aR 37), some (aI (iOr x3 (iShl 1 r5))), some (aI (x4 + 1)), some (aI r5)]) (pc := 52) hC dX5_makeSteps_52 rfl (by decide) rfl h.1 rfl ?_
        have h := h.2
        refine r_goto (tgt := 9) (pc := 55) hC dX5_makeSteps_55 rfl ?_
        exact r_to [true, true, true, false] rfl rfl (ih1 (uI se_steps_1 x4 r5) (se_stepCount_2 + 1) (iOr x3 (iShl 1 r5)) (x4 + 1) (Nat.lt_of_lt_of_le h.2 (Nat.le_of_lt_succ hn1)) h.1)
      have h := h.2 hc1
      refine r_goto (tgt := 58) (pc := 26) hC dX5_makeSteps_26 rfl ?_
      refine r_iload_n (pc := 58) hC 1 dX5_makeSteps_58 rfl rfl ?_
      refine r_conv (w2 := (wI (wA w 38 se_steps_1) 37 9 se_stepCount_2)) rfl ?_
      exact r_reti (pc := 59) (kd := 0) hC hQ dX5_makeSteps_59 hr hk (by decide) (Or.inl rfl) ⟨se_steps_1, se_stepCount_2, rfl, h⟩
  exact r_to [true, true, true, false] rfl rfl (S1 _ (w.1 38) 0 0 0 (Nat.lt_succ_self _) hI1)
def wp_Sets_greedySet (pg_sentenceSigns : (Nat → Int)) (qy_weights : (Nat → Int)) (se_steps : (Nat → Int)) (sr_tooLike : (Nat → Int)) (pg_sentences : Int) (qy_items : Int) (se_budget : Int) (se_most : Int) (se_stepCount : Int) (mt_tallies : (Nat → Int64)) (Q : Int → (Nat → Int) → Int → Prop) : Prop := wp_Sets_makeSteps pg_sentenceSigns qy_weights se_steps sr_tooLike pg_sentences qy_items se_budget se_most se_stepCount mt_tallies (fun (r1 : Int) (se_steps_2 : (Nat → Int)) (se_stepCount_3 : Int) => wp_Sets_worthOfSet qy_weights pg_sentences qy_items mt_tallies r1 (fun (r4 : Int) => lpw3 (fun (x5 : Int) (x6 : Int) (x7 : Int) (k1 : Int → Int → Int → Prop) => (pg_sentences ≤ x7 → Q x5 se_steps_2 se_stepCount_3) ∧ (¬ pg_sentences ≤ x7 → wp_Sets_worthOfSet qy_weights pg_sentences qy_items mt_tallies (iShl 1 x7) (fun (r8 : Int) => jn2 (fun (J2 : Int → Int → Prop) => (r8 ≤ x6 → J2 x5 x6) ∧ (¬ r8 ≤ x6 → wp_Sets_mayBe pg_sentenceSigns sr_tooLike pg_sentences se_budget se_most (iShl 1 x7) (fun (r11 : Int) => (r11 = 0 → J2 x5 x6) ∧ (¬ r11 = 0 → wp_Sets_worthOfSet qy_weights pg_sentences qy_items mt_tallies (iShl 1 x7) (fun (r12 : Int) => J2 (iShl 1 x7) r12))))) (fun (x9 : Int) (x10 : Int) => (rng (x7 + 1)) ∧ (k1 x9 x10 (x7 + 1)))))) r1 r4 0))
set_option maxHeartbeats 4000000 in
set_option maxRecDepth 20000 in
theorem s_Sets_greedySet (l : Launch) (w : St) (P : Int → (Nat → Int) → Int → Prop) (h : wp_Sets_greedySet (w.1 13) (w.1 19) (w.1 38) (w.1 40) (w.1 3 17) (w.1 18 6) (w.1 37 4) (w.1 37 5) (w.1 37 9) (w.2 33) P) : Cn l yX5_greedySet cX5_greedySet 4 (some .int) 5 LX w [aR 37] (okI (fun r w1 => ∃ (o0 : (Nat → Int)) (o1 : Int), w1 = (wI (wA w 38 o0) 37 9 o1) ∧ P r o0 o1)) := by
  unfold wp_Sets_greedySet at h
  refine Cn.of2 [some (aR 37), none, none, none] (by decide) (Nat.le_of_ble_eq_true rfl) rfl (fun p e s m args below meth c D cA ad A Q hQ hC hr hk => ?_)
  refine r_aload_n (pc := 0) hC 0 dX5_greedySet_0 rfl rfl ?_
  refine r_callVi (pc := 1) hC [] [] dX5_greedySet_1 ml_RX5_110 my_X5_makeSteps mi_X5_makeSteps lX_37 rfl rfl ⟨Nat.le_of_ble_eq_true rfl, Nat.le_of_ble_eq_true rfl⟩ ⟨Nat.le_of_ble_eq_true rfl, Nat.le_of_ble_eq_true rfl⟩ (Nat.le_of_ble_eq_true rfl) rfl (s_Sets_makeSteps l _ _ h) (fun r1 w1 hq => ?_)
  obtain ⟨se_steps_2, se_stepCount_3, e9, h⟩ := hq
  rw [e9]
  refine r_istore_n (ls2 := [some (aR 37), some (aI r1), none, none]) (pc := 4) hC 1 dX5_greedySet_4 rfl (by decide) rfl rfl ?_
  refine r_aload_n (pc := 5) hC 0 dX5_greedySet_5 rfl rfl ?_
  refine r_iload_n (pc := 6) hC 1 dX5_greedySet_6 rfl rfl ?_
  refine r_callVi (pc := 7) hC [aI r1] [] dX5_greedySet_7 ml_RX5_97 my_X5_worthOfSet mi_X5_worthOfSet lX_37 rfl rfl ⟨Nat.le_of_ble_eq_true rfl, Nat.le_of_ble_eq_true rfl⟩ ⟨Nat.le_of_ble_eq_true rfl, Nat.le_of_ble_eq_true rfl⟩ (Nat.le_of_ble_eq_true rfl) rfl (s_Sets_worthOfSet l _ _ _ h) (fun r4 w1 hq => ?_)
  obtain ⟨e9, h⟩ := hq
  rw [e9]
  refine r_istore_n (ls2 := [some (aR 37), some (aI r1), some (aI r4), none]) (pc := 10) hC 2 dX5_greedySet_10 rfl (by decide) rfl rfl ?_
  refine r_iconst (pc := 11) hC dX5_greedySet_11 (rng_lit rfl) ?_
  refine r_istore_n (ls2 := [some (aR 37), some (aI r1), some (aI r4), some (aI 0)]) (pc := 12) hC 3 dX5_greedySet_12 rfl (by decide) rfl rfl ?_
  obtain ⟨I1, μ1, hI1, hB1⟩ := h
  have S1 : ∀ (nn : Nat) (x5 : Int) (x6 : Int) (x7 : Int), μ1 x5 x6 x7 < nn → I1 x5 x6 x7 → Wd p l e (rmD 5) s m args below meth c Q 0 0 4 D cA ad A LX (wI (wA w 38 se_steps_2) 37 9 se_stepCount_3) 13 [some (aR 37), some (aI x5), some (aI x6), some (aI x7)] [] := by
    intro nn
    induction nn with
    | zero => intro x5 x6 x7 hn; exact absurd hn (Nat.not_lt_zero _)
    | succ nn ih1 =>
      intro x5 x6 x7 hn1 hi
      have h := hB1 x5 x6 x7 hi
      refine r_iload_n (pc := 13) hC 3 dX5_greedySet_13 rfl rfl ?_
      refine r_aload_n (pc := 14) hC 0 dX5_greedySet_14 rfl rfl ?_
      refine r_getr (r := 3) (pc := 15) hC dX5_greedySet_15 fl_RX5_25 lX_37 rfl ?_
      refine r_get (kd := 0) (v := (w.1 3 17)) (pc := 18) hC dX5_greedySet_18 fl_RX5_57 lX_3 rfl rfl ?_
      refine r_ic_ge (pc := 21) (tgt := 61) hC dX5_greedySet_21 rfl (fun hc3 => ?_) (fun hc3 => ?_)
      · have h := h.1 hc3
        refine r_iload_n (pc := 61) hC 1 dX5_greedySet_61 rfl rfl ?_
        refine r_conv (w2 := (wI (wA w 38 se_steps_2) 37 9 se_stepCount_3)) rfl ?_
        exact r_reti (pc := 62) (kd := 0) hC hQ dX5_greedySet_62 hr hk (by decide) (Or.inl rfl) ⟨se_steps_2, se_stepCount_3, rfl, h⟩
      have h := h.2 hc3
      refine r_aload_n (pc := 24) hC 0 dX5_greedySet_24 rfl rfl ?_
      refine r_iconst (pc := 25) hC dX5_greedySet_25 (rng_lit rfl) ?_
      refine r_iload_n (pc := 26) hC 3 dX5_greedySet_26 rfl rfl ?_
      refine r_ishl (pc := 27) hC dX5_greedySet_27 ?_
      refine r_callVi (pc := 28) hC [aI (iShl 1 x7)] [] dX5_greedySet_28 ml_RX5_97 my_X5_worthOfSet mi_X5_worthOfSet lX_37 rfl rfl ⟨Nat.le_of_ble_eq_true rfl, Nat.le_of_ble_eq_true rfl⟩ ⟨Nat.le_of_ble_eq_true rfl, Nat.le_of_ble_eq_true rfl⟩ (Nat.le_of_ble_eq_true rfl) rfl (s_Sets_worthOfSet l _ _ _ h) (fun r8 w1 hq => ?_)
      obtain ⟨e9, h⟩ := hq
      rw [e9]
      refine r_iload_n (pc := 31) hC 2 dX5_greedySet_31 rfl rfl ?_
      obtain ⟨J2, hJ2, h⟩ := h
      have S2 : ∀ (x9 : Int) (x10 : Int), J2 x9 x10 → Wd p l e (rmD 5) s m args below meth c Q 0 0 4 D cA ad A LX (wI (wA w 38 se_steps_2) 37 9 se_stepCount_3) 55 [some (aR 37), some (aI x9), some (aI x10), some (aI x7)] [] := by
        intro x9 x10 hj
        have h := hJ2 x9 x10 hj
        refine r_iinc (ls2 := [some (aR 37), some (aI x9), some (aI x10), some (aI (x7 + 1))]) (pc := 55) hC dX5_greedySet_55 rfl (by decide) rfl h.1 rfl ?_
        have h := h.2
        refine r_goto (tgt := 13) (pc := 58) hC dX5_greedySet_58 rfl ?_
        exact r_to [true, true, true, true] rfl rfl (ih1 x9 x10 (x7 + 1) (Nat.lt_of_lt_of_le h.2 (Nat.le_of_lt_succ hn1)) h.1)
      refine r_ic_le (pc := 32) (tgt := 55) hC dX5_greedySet_32 rfl (fun hc2 => ?_) (fun hc2 => ?_)
      · have h := h.1 hc2
        exact r_to [true, true, true, true] rfl rfl (S2 x5 x6 h)
      have h := h.2 hc2
      refine r_aload_n (pc := 35) hC 0 dX5_greedySet_35 rfl rfl ?_
      refine r_iconst (pc := 36) hC dX5_greedySet_36 (rng_lit rfl) ?_
      refine r_iload_n (pc := 37) hC 3 dX5_greedySet_37 rfl rfl ?_
      refine r_ishl (pc := 38) hC dX5_greedySet_38 ?_
      refine r_callVi (pc := 39) hC [aI (iShl 1 x7)] [] dX5_greedySet_39 ml_RX5_94 my_X5_mayBe mi_X5_mayBe lX_37 rfl rfl ⟨Nat.le_of_ble_eq_true rfl, Nat.le_of_ble_eq_true rfl⟩ ⟨Nat.le_of_ble_eq_true rfl, Nat.le_of_ble_eq_true rfl⟩ (Nat.le_of_ble_eq_true rfl) rfl (s_Sets_mayBe l _ _ _ h) (fun r11 w1 hq => ?_)
      obtain ⟨e9, h⟩ := hq
      rw [e9]
      refine r_if_eq (pc := 42) (tgt := 55) hC dX5_greedySet_42 rfl (fun hc1 => ?_) (fun hc1 => ?_)
      · have h := h.1 hc1
        exact r_to [true, true, true, true] rfl rfl (S2 x5 x6 h)
      have h := h.2 hc1
      refine r_iconst (pc := 45) hC dX5_greedySet_45 (rng_lit rfl) ?_
      refine r_iload_n (pc := 46) hC 3 dX5_greedySet_46 rfl rfl ?_
      refine r_ishl (pc := 47) hC dX5_greedySet_47 ?_
      refine r_istore_n (ls2 := [some (aR 37), some (aI (iShl 1 x7)), some (aI x6), some (aI x7)]) (pc := 48) hC 1 dX5_greedySet_48 rfl (by decide) rfl rfl ?_
      refine r_aload_n (pc := 49) hC 0 dX5_greedySet_49 rfl rfl ?_
      refine r_iload_n (pc := 50) hC 1 dX5_greedySet_50 rfl rfl ?_
      refine r_callVi (pc := 51) hC [aI (iShl 1 x7)] [] dX5_greedySet_51 ml_RX5_97 my_X5_worthOfSet mi_X5_worthOfSet lX_37 rfl rfl ⟨Nat.le_of_ble_eq_true rfl, Nat.le_of_ble_eq_true rfl⟩ ⟨Nat.le_of_ble_eq_true rfl, Nat.le_of_ble_eq_true rfl⟩ (Nat.le_of_ble_eq_true rfl) rfl (s_Sets_worthOfSet l _ _ _ h) (fun r12 w1 hq => ?_)
      obtain ⟨e9, h⟩ := hq
      rw [e9]
      refine r_istore_n (ls2 := [some (aR 37), some (aI (iShl 1 x7)), some (aI r12), some (aI x7)]) (pc := 54) hC 2 dX5_greedySet_54 rfl (by decide) rfl rfl ?_
      exact r_to [true, true, true, true] rfl rfl (S2 (iShl 1 x7) r12 h)
  exact r_to [true, true, true, true] rfl rfl (S1 _ r1 r4 0 (Nat.lt_succ_self _) hI1)
def wp_Sets_sentencesOfWorth (pg_sentences : Int) (mt_tallies : (Nat → Int64)) (Q : Int → Prop) : Prop := lpw2 (fun (x1 : Int) (x2 : Int) (k1 : Int → Int → Prop) => (pg_sentences ≤ x2 → Q x1) ∧ (¬ pg_sentences ≤ x2 → (0 ≤ x2 ∧ x2 < 14) ∧ (jn1 (fun (J2 : Int → Prop) => ((lCmp (mt_tallies (Int.toNat x2)) 0) = 0 → J2 0) ∧ (¬ (lCmp (mt_tallies (Int.toNat x2)) 0) = 0 → J2 (iShl 1 x2))) (fun (y3 : Int) => (rng (x2 + 1)) ∧ (k1 (iOr x1 y3) (x2 + 1)))))) 0 0
set_option maxHeartbeats 4000000 in
set_option maxRecDepth 20000 in
theorem s_Sets_sentencesOfWorth (l : Launch) (w : St) (P : Int → Prop) (h : wp_Sets_sentencesOfWorth (w.1 3 17) (w.2 33) P) : Cn l yX5_sentencesOfWorth cX5_sentencesOfWorth 3 (some .int) 0 LX w [aR 37] (okI (fun r w1 => w1 = w ∧ P r)) := by
  unfold wp_Sets_sentencesOfWorth at h
  refine Cn.of2 [some (aR 37), none, none] (by decide) (Nat.le_of_ble_eq_true rfl) rfl (fun p e s m args below meth c D cA ad A Q hQ hC hr hk => ?_)
  refine r_iconst (pc := 0) hC dX5_sentencesOfWorth_0 (rng_lit rfl) ?_
  refine r_istore_n (ls2 := [some (aR 37), some (aI 0), none]) (pc := 1) hC 1 dX5_sentencesOfWorth_1 rfl (by decide) rfl rfl ?_
  refine r_iconst (pc := 2) hC dX5_sentencesOfWorth_2 (rng_lit rfl) ?_
  refine r_istore_n (ls2 := [some (aR 37), some (aI 0), some (aI 0)]) (pc := 3) hC 2 dX5_sentencesOfWorth_3 rfl (by decide) rfl rfl ?_
  obtain ⟨I1, μ1, hI1, hB1⟩ := h
  have S1 : ∀ (nn : Nat) (x1 : Int) (x2 : Int), μ1 x1 x2 < nn → I1 x1 x2 → Wd p l e (rmD 0) s m args below meth c Q 0 0 3 D cA ad A LX w 4 [some (aR 37), some (aI x1), some (aI x2)] [] := by
    intro nn
    induction nn with
    | zero => intro x1 x2 hn; exact absurd hn (Nat.not_lt_zero _)
    | succ nn ih1 =>
      intro x1 x2 hn1 hi
      have h := hB1 x1 x2 hi
      refine r_iload_n (pc := 4) hC 2 dX5_sentencesOfWorth_4 rfl rfl ?_
      refine r_aload_n (pc := 5) hC 0 dX5_sentencesOfWorth_5 rfl rfl ?_
      refine r_getr (r := 3) (pc := 6) hC dX5_sentencesOfWorth_6 fl_RX5_25 lX_37 rfl ?_
      refine r_get (kd := 0) (v := (w.1 3 17)) (pc := 9) hC dX5_sentencesOfWorth_9 fl_RX5_57 lX_3 rfl rfl ?_
      refine r_ic_ge (pc := 12) (tgt := 45) hC dX5_sentencesOfWorth_12 rfl (fun hc2 => ?_) (fun hc2 => ?_)
      · have h := h.1 hc2
        refine r_iload_n (pc := 45) hC 1 dX5_sentencesOfWorth_45 rfl rfl ?_
        exact r_reti (pc := 46) (kd := 0) hC hQ dX5_sentencesOfWorth_46 hr hk (by decide) (Or.inl rfl) ⟨rfl, h⟩
      have h := h.2 hc2
      refine r_iload_n (pc := 15) hC 1 dX5_sentencesOfWorth_15 rfl rfl ?_
      refine r_aload_n (pc := 16) hC 0 dX5_sentencesOfWorth_16 rfl rfl ?_
      refine r_getr (r := 29) (pc := 17) hC dX5_sentencesOfWorth_17 fl_RX5_33 lX_37 rfl ?_
      refine r_getr (r := 33) (pc := 20) hC dX5_sentencesOfWorth_20 fl_RX5_127 lX_29 rfl ?_
      refine r_iload_n (pc := 23) hC 2 dX5_sentencesOfWorth_23 rfl rfl ?_
      refine r_lald (v := ((w.2 33) (Int.toNat x2))) (pc := 24) hC dX5_sentencesOfWorth_24 lX_33 h.1.1 h.1.2 rfl ?_
      have h := h.2
      refine r_lconst (x := 0) (pc := 25) hC dX5_sentencesOfWorth_25 rfl ?_
      refine r_lcmp (pc := 26) hC dX5_sentencesOfWorth_26 ?_
      obtain ⟨J2, hJ2, h⟩ := h
      have S2 : ∀ (y3 : Int), J2 y3 → Wd p l e (rmD 0) s m args below meth c Q 0 0 3 D cA ad A LX w 37 [some (aR 37), none, some (aI x2)] [aI y3, aI x1] := by
        intro y3 hj
        have h := hJ2 y3 hj
        refine r_ior (pc := 37) hC dX5_sentencesOfWorth_37 ?_
        refine r_istore_n (ls2 := [some (aR 37), some (aI (iOr x1 y3)), some (aI x2)]) (pc := 38) hC 1 dX5_sentencesOfWorth_38 rfl (by decide) rfl rfl ?_
        refine r_iinc (ls2 := [some (aR 37), some (aI (iOr x1 y3)), some (aI (x2 + 1))]) (pc := 39) hC dX5_sentencesOfWorth_39 rfl (by decide) rfl h.1 rfl ?_
        have h := h.2
        refine r_goto (tgt := 4) (pc := 42) hC dX5_sentencesOfWorth_42 rfl ?_
        exact r_to [true, true, true] rfl rfl (ih1 (iOr x1 y3) (x2 + 1) (Nat.lt_of_lt_of_le h.2 (Nat.le_of_lt_succ hn1)) h.1)
      refine r_if_eq (pc := 27) (tgt := 36) hC dX5_sentencesOfWorth_27 rfl (fun hc1 => ?_) (fun hc1 => ?_)
      · have h := h.1 hc1
        refine r_iconst (pc := 36) hC dX5_sentencesOfWorth_36 (rng_lit rfl) ?_
        exact r_to [true, false, true] rfl rfl (S2 0 h)
      have h := h.2 hc1
      refine r_iconst (pc := 30) hC dX5_sentencesOfWorth_30 (rng_lit rfl) ?_
      refine r_iload_n (pc := 31) hC 2 dX5_sentencesOfWorth_31 rfl rfl ?_
      refine r_ishl (pc := 32) hC dX5_sentencesOfWorth_32 ?_
      refine r_goto (tgt := 37) (pc := 33) hC dX5_sentencesOfWorth_33 rfl ?_
      exact r_to [true, false, true] rfl rfl (S2 (iShl 1 x2) h)
  exact r_to [true, true, true] rfl rfl (S1 _ 0 0 (Nat.lt_succ_self _) hI1)
def wp_Sets_bestSet (pg_sentenceSigns : (Nat → Int)) (qy_weights : (Nat → Int)) (sr_tooLike : (Nat → Int)) (pg_sentences : Int) (qy_items : Int) (se_budget : Int) (se_most : Int) (se_bestKnown : Int) (se_best : Int) (sr_most : Int) (sr_room : Int) (sr_enough : Int) (sr_topSet : Int) (sr_topWorth : Int) (sr_topLength : Int) (mt_tallies : (Nat → Int64)) (Q : Int → Int → Int → Int → Int → Int → Int → Int → Int → Prop) : Prop := (¬ se_bestKnown = 0 → Q se_best se_bestKnown se_best sr_most sr_room sr_enough sr_topSet sr_topWorth sr_topLength) ∧ (se_bestKnown = 0 → wp_Sets_sentencesOfWorth pg_sentences mt_tallies (fun (r1 : Int) => wp_Search_seekTop pg_sentenceSigns qy_weights sr_tooLike pg_sentences qy_items sr_most sr_room sr_enough sr_topSet sr_topWorth sr_topLength mt_tallies r1 se_most se_budget 1008 (fun (sr_most_2 : Int) (sr_room_3 : Int) (sr_enough_4 : Int) (sr_topSet_5 : Int) (sr_topWorth_6 : Int) (sr_topLength_7 : Int) => Q sr_topSet_5 1 sr_topSet_5 sr_most_2 sr_room_3 sr_enough_4 sr_topSet_5 sr_topWorth_6 sr_topLength_7)))
set_option maxHeartbeats 4000000 in
set_option maxRecDepth 20000 in
theorem s_Sets_bestSet (l : Launch) (w : St) (P : Int → Int → Int → Int → Int → Int → Int → Int → Int → Prop) (h : wp_Sets_bestSet (w.1 13) (w.1 19) (w.1 40) (w.1 3 17) (w.1 18 6) (w.1 37 4) (w.1 37 5) (w.1 37 10) (w.1 37 11) (w.1 39 4) (w.1 39 5) (w.1 39 6) (w.1 39 7) (w.1 39 8) (w.1 39 9) (w.2 33) P) : Cn l yX5_bestSet cX5_bestSet 1 (some .int) 11 LX w [aR 37] (okI (fun r w1 => ∃ (o0 : Int) (o1 : Int) (o2 : Int) (o3 : Int) (o4 : Int) (o5 : Int) (o6 : Int) (o7 : Int), w1 = (wI (wI (wI (wI (wI (wI (wI (wI w 37 10 o0) 37 11 o1) 39 4 o2) 39 5 o3) 39 6 o4) 39 7 o5) 39 8 o6) 39 9 o7) ∧ P r o0 o1 o2 o3 o4 o5 o6 o7)) := by
  unfold wp_Sets_bestSet at h
  refine Cn.of2 [some (aR 37)] (by decide) (Nat.le_of_ble_eq_true rfl) rfl (fun p e s m args below meth c D cA ad A Q hQ hC hr hk => ?_)
  refine r_aload_n (pc := 0) hC 0 dX5_bestSet_0 rfl rfl ?_
  refine r_get (kd := 1) (v := (w.1 37 10)) (pc := 1) hC dX5_bestSet_1 fl_RX5_49 lX_37 rfl rfl ?_
  refine r_if_ne (pc := 4) (tgt := 45) hC dX5_bestSet_4 rfl (fun hc1 => ?_) (fun hc1 => ?_)
  · have h := h.1 hc1
    refine r_aload_n (pc := 45) hC 0 dX5_bestSet_45 rfl rfl ?_
    refine r_get (kd := 0) (v := (w.1 37 11)) (pc := 46) hC dX5_bestSet_46 fl_RX5_124 lX_37 rfl rfl ?_
    refine r_conv (w2 := (wI (wI (wI (wI (wI (wI (wI (wI w 37 10 (w.1 37 10)) 37 11 (w.1 37 11)) 39 4 (w.1 39 4)) 39 5 (w.1 39 5)) 39 6 (w.1 39 6)) 39 7 (w.1 39 7)) 39 8 (w.1 39 8)) 39 9 (w.1 39 9))) rfl ?_
    exact r_reti (pc := 49) (kd := 0) hC hQ dX5_bestSet_49 hr hk (by decide) (Or.inl rfl) ⟨(w.1 37 10), (w.1 37 11), (w.1 39 4), (w.1 39 5), (w.1 39 6), (w.1 39 7), (w.1 39 8), (w.1 39 9), rfl, h⟩
  have h := h.2 hc1
  refine r_aload_n (pc := 7) hC 0 dX5_bestSet_7 rfl rfl ?_
  refine r_getr (r := 39) (pc := 8) hC dX5_bestSet_8 fl_RX5_42 lX_37 rfl ?_
  refine r_aload_n (pc := 11) hC 0 dX5_bestSet_11 rfl rfl ?_
  refine r_callVi (pc := 12) hC [] [aR 39] dX5_bestSet_12 ml_RX5_114 my_X5_sentencesOfWorth mi_X5_sentencesOfWorth lX_37 rfl rfl ⟨Nat.le_of_ble_eq_true rfl, Nat.le_of_ble_eq_true rfl⟩ ⟨Nat.le_of_ble_eq_true rfl, Nat.le_of_ble_eq_true rfl⟩ (Nat.le_of_ble_eq_true rfl) rfl (s_Sets_sentencesOfWorth l _ _ h) (fun r1 w1 hq => ?_)
  obtain ⟨e9, h⟩ := hq
  rw [e9]
  refine r_aload_n (pc := 15) hC 0 dX5_bestSet_15 rfl rfl ?_
  refine r_get (kd := 0) (v := (w.1 37 5)) (pc := 16) hC dX5_bestSet_16 fl_RX5_15 lX_37 rfl rfl ?_
  refine r_aload_n (pc := 19) hC 0 dX5_bestSet_19 rfl rfl ?_
  refine r_get (kd := 0) (v := (w.1 37 4)) (pc := 20) hC dX5_bestSet_20 fl_RX5_9 lX_37 rfl rfl ?_
  refine r_sipush (pc := 23) hC dX5_bestSet_23 ⟨rfl, rng_lit rfl⟩ ?_
  refine r_callVv (pc := 26) hC [aI r1, aI (w.1 37 5), aI (w.1 37 4), aI 1008] [] dX5_bestSet_26 ml_RX5_117 my_X4_seekTop mi_X4_seekTop lX_39 rfl rfl ⟨Nat.le_of_ble_eq_true rfl, Nat.le_of_ble_eq_true rfl⟩ ⟨Nat.le_of_ble_eq_true rfl, Nat.le_of_ble_eq_true rfl⟩ (Nat.le_of_ble_eq_true rfl) rfl (s_Search_seekTop l _ _ _ _ _ _ h) (fun w1 hq => ?_)
  obtain ⟨sr_most_2, sr_room_3, sr_enough_4, sr_topSet_5, sr_topWorth_6, sr_topLength_7, e9, h⟩ := hq
  rw [e9]
  refine r_aload_n (pc := 29) hC 0 dX5_bestSet_29 rfl rfl ?_
  refine r_aload_n (pc := 30) hC 0 dX5_bestSet_30 rfl rfl ?_
  refine r_getr (r := 39) (pc := 31) hC dX5_bestSet_31 fl_RX5_42 lX_37 rfl ?_
  refine r_get (kd := 0) (v := sr_topSet_5) (pc := 34) hC dX5_bestSet_34 fl_RX5_121 lX_39 rfl rfl ?_
  refine r_put (kd := 0) (pc := 37) hC dX5_bestSet_37 pl_RX5_124 lX_37 rfl (by decide) (Or.inl rfl) ?_
  refine r_aload_n (pc := 40) hC 0 dX5_bestSet_40 rfl rfl ?_
  refine r_iconst (pc := 41) hC dX5_bestSet_41 (rng_lit rfl) ?_
  refine r_put (kd := 1) (pc := 42) hC dX5_bestSet_42 pl_RX5_49 lX_37 rfl (by decide) (Or.inr okK1_1) ?_
  refine r_aload_n (pc := 45) hC 0 dX5_bestSet_45 rfl rfl ?_
  refine r_get (kd := 0) (v := sr_topSet_5) (pc := 46) hC dX5_bestSet_46 fl_RX5_124 lX_37 rfl rfl ?_
  refine r_conv (w2 := (wI (wI (wI (wI (wI (wI (wI (wI w 37 10 1) 37 11 sr_topSet_5) 39 4 sr_most_2) 39 5 sr_room_3) 39 6 sr_enough_4) 39 7 sr_topSet_5) 39 8 sr_topWorth_6) 39 9 sr_topLength_7)) rfl ?_
  exact r_reti (pc := 49) (kd := 0) hC hQ dX5_bestSet_49 hr hk (by decide) (Or.inl rfl) ⟨1, sr_topSet_5, sr_most_2, sr_room_3, sr_enough_4, sr_topSet_5, sr_topWorth_6, sr_topLength_7, rfl, h⟩
def wp_Sets_leastBudgetFor (pg_sentenceSigns : (Nat → Int)) (qy_weights : (Nat → Int)) (sr_tooLike : (Nat → Int)) (pg_sentences : Int) (qy_items : Int) (se_most : Int) (sr_most : Int) (sr_room : Int) (sr_enough : Int) (sr_topSet : Int) (sr_topWorth : Int) (sr_topLength : Int) (mt_tallies : (Nat → Int64)) (a1 : Int) (Q : Int → Int → Int → Int → Int → Int → Int → Prop) : Prop := wp_Sets_sentencesOfWorth pg_sentences mt_tallies (fun (r1 : Int) => wp_Search_seekTop pg_sentenceSigns qy_weights sr_tooLike pg_sentences qy_items sr_most sr_room sr_enough sr_topSet sr_topWorth sr_topLength mt_tallies r1 se_most 700 a1 (fun (sr_most_2 : Int) (sr_room_3 : Int) (sr_enough_4 : Int) (sr_topSet_5 : Int) (sr_topWorth_6 : Int) (sr_topLength_7 : Int) => (a1 ≤ sr_topWorth_6 → Q (max sr_topLength_7 20) sr_most_2 sr_room_3 sr_enough_4 sr_topSet_5 sr_topWorth_6 sr_topLength_7) ∧ (¬ a1 ≤ sr_topWorth_6 → Q (-1) sr_most_2 sr_room_3 sr_enough_4 sr_topSet_5 sr_topWorth_6 sr_topLength_7)))
set_option maxHeartbeats 4000000 in
set_option maxRecDepth 20000 in
theorem s_Sets_leastBudgetFor (l : Launch) (w : St) (a1 : Int) (P : Int → Int → Int → Int → Int → Int → Int → Prop) (h : wp_Sets_leastBudgetFor (w.1 13) (w.1 19) (w.1 40) (w.1 3 17) (w.1 18 6) (w.1 37 5) (w.1 39 4) (w.1 39 5) (w.1 39 6) (w.1 39 7) (w.1 39 8) (w.1 39 9) (w.2 33) a1 P) : Cn l yX5_leastBudgetFor cX5_leastBudgetFor 2 (some .int) 11 LX w [aR 37, aI a1] (okI (fun r w1 => ∃ (o0 : Int) (o1 : Int) (o2 : Int) (o3 : Int) (o4 : Int) (o5 : Int), w1 = (wI (wI (wI (wI (wI (wI w 39 4 o0) 39 5 o1) 39 6 o2) 39 7 o3) 39 8 o4) 39 9 o5) ∧ P r o0 o1 o2 o3 o4 o5)) := by
  unfold wp_Sets_leastBudgetFor at h
  refine Cn.of2 [some (aR 37), some (aI a1)] (by decide) (Nat.le_of_ble_eq_true rfl) rfl (fun p e s m args below meth c D cA ad A Q hQ hC hr hk => ?_)
  refine r_aload_n (pc := 0) hC 0 dX5_leastBudgetFor_0 rfl rfl ?_
  refine r_getr (r := 39) (pc := 1) hC dX5_leastBudgetFor_1 fl_RX5_42 lX_37 rfl ?_
  refine r_aload_n (pc := 4) hC 0 dX5_leastBudgetFor_4 rfl rfl ?_
  refine r_callVi (pc := 5) hC [] [aR 39] dX5_leastBudgetFor_5 ml_RX5_114 my_X5_sentencesOfWorth mi_X5_sentencesOfWorth lX_37 rfl rfl ⟨Nat.le_of_ble_eq_true rfl, Nat.le_of_ble_eq_true rfl⟩ ⟨Nat.le_of_ble_eq_true rfl, Nat.le_of_ble_eq_true rfl⟩ (Nat.le_of_ble_eq_true rfl) rfl (s_Sets_sentencesOfWorth l _ _ h) (fun r1 w1 hq => ?_)
  obtain ⟨e9, h⟩ := hq
  rw [e9]
  refine r_aload_n (pc := 8) hC 0 dX5_leastBudgetFor_8 rfl rfl ?_
  refine r_get (kd := 0) (v := (w.1 37 5)) (pc := 9) hC dX5_leastBudgetFor_9 fl_RX5_15 lX_37 rfl rfl ?_
  refine r_sipush (pc := 12) hC dX5_leastBudgetFor_12 ⟨rfl, rng_lit rfl⟩ ?_
  refine r_iload_n (pc := 15) hC 1 dX5_leastBudgetFor_15 rfl rfl ?_
  refine r_callVv (pc := 16) hC [aI r1, aI (w.1 37 5), aI 700, aI a1] [] dX5_leastBudgetFor_16 ml_RX5_117 my_X4_seekTop mi_X4_seekTop lX_39 rfl rfl ⟨Nat.le_of_ble_eq_true rfl, Nat.le_of_ble_eq_true rfl⟩ ⟨Nat.le_of_ble_eq_true rfl, Nat.le_of_ble_eq_true rfl⟩ (Nat.le_of_ble_eq_true rfl) rfl (s_Search_seekTop l _ _ _ _ _ _ h) (fun w1 hq => ?_)
  obtain ⟨sr_most_2, sr_room_3, sr_enough_4, sr_topSet_5, sr_topWorth_6, sr_topLength_7, e9, h⟩ := hq
  rw [e9]
  refine r_aload_n (pc := 19) hC 0 dX5_leastBudgetFor_19 rfl rfl ?_
  refine r_getr (r := 39) (pc := 20) hC dX5_leastBudgetFor_20 fl_RX5_42 lX_37 rfl ?_
  refine r_get (kd := 0) (v := sr_topWorth_6) (pc := 23) hC dX5_leastBudgetFor_23 fl_RX5_131 lX_39 rfl rfl ?_
  refine r_iload_n (pc := 26) hC 1 dX5_leastBudgetFor_26 rfl rfl ?_
  refine r_ic_ge (pc := 27) (tgt := 34) hC dX5_leastBudgetFor_27 rfl (fun hc1 => ?_) (fun hc1 => ?_)
  · have h := h.1 hc1
    refine r_aload_n (pc := 34) hC 0 dX5_leastBudgetFor_34 rfl rfl ?_
    refine r_getr (r := 39) (pc := 35) hC dX5_leastBudgetFor_35 fl_RX5_42 lX_37 rfl ?_
    refine r_get (kd := 0) (v := sr_topLength_7) (pc := 38) hC dX5_leastBudgetFor_38 fl_RX5_134 lX_39 rfl rfl ?_
    refine r_bipush (pc := 41) hC dX5_leastBudgetFor_41 ⟨rfl, rng_lit rfl⟩ ?_
    refine r_max (pc := 43) hC dX5_leastBudgetFor_43 ml_RX5_137 ks_max ks_Math kd_max ⟨Nat.le_of_ble_eq_true rfl, Nat.le_of_ble_eq_true rfl⟩ ⟨Nat.le_of_ble_eq_true rfl, Nat.le_of_ble_eq_true rfl⟩ (Nat.le_of_ble_eq_true rfl) ?_
    refine r_conv (w2 := (wI (wI (wI (wI (wI (wI w 39 4 sr_most_2) 39 5 sr_room_3) 39 6 sr_enough_4) 39 7 sr_topSet_5) 39 8 sr_topWorth_6) 39 9 sr_topLength_7)) rfl ?_
    exact r_reti (pc := 46) (kd := 0) hC hQ dX5_leastBudgetFor_46 hr hk (by decide) (Or.inl rfl) ⟨sr_most_2, sr_room_3, sr_enough_4, sr_topSet_5, sr_topWorth_6, sr_topLength_7, rfl, h⟩
  have h := h.2 hc1
  refine r_iconst (pc := 30) hC dX5_leastBudgetFor_30 (rng_lit rfl) ?_
  refine r_goto (tgt := 46) (pc := 31) hC dX5_leastBudgetFor_31 rfl ?_
  refine r_conv (w2 := (wI (wI (wI (wI (wI (wI w 39 4 sr_most_2) 39 5 sr_room_3) 39 6 sr_enough_4) 39 7 sr_topSet_5) 39 8 sr_topWorth_6) 39 9 sr_topLength_7)) rfl ?_
  exact r_reti (pc := 46) (kd := 0) hC hQ dX5_leastBudgetFor_46 hr hk (by decide) (Or.inl rfl) ⟨sr_most_2, sr_room_3, sr_enough_4, sr_topSet_5, sr_topWorth_6, sr_topLength_7, rfl, h⟩
def wp_Sets_lossWithout (pg_sentenceSigns : (Nat → Int)) (qy_weights : (Nat → Int)) (sr_tooLike : (Nat → Int)) (pg_sentences : Int) (qy_items : Int) (se_budget : Int) (se_most : Int) (se_bestKnown : Int) (se_best : Int) (sr_most : Int) (sr_room : Int) (sr_enough : Int) (sr_topSet : Int) (sr_topWorth : Int) (sr_topLength : Int) (mt_tallies : (Nat → Int64)) (a1 : Int) (Q : Int → Int → Int → Int → Int → Int → Int → Int → Int → Prop) : Prop := wp_Sets_bestSet pg_sentenceSigns qy_weights sr_tooLike pg_sentences qy_items se_budget se_most se_bestKnown se_best sr_most sr_room sr_enough sr_topSet sr_topWorth sr_topLength mt_tallies (fun (r1 : Int) (se_bestKnown_2 : Int) (se_best_3 : Int) (sr_most_4 : Int) (sr_room_5 : Int) (sr_enough_6 : Int) (sr_topSet_7 : Int) (sr_topWorth_8 : Int) (sr_topLength_9 : Int) => wp_Sets_worthOfSet qy_weights pg_sentences qy_items mt_tallies r1 (fun (r10 : Int) => wp_Picker_has se_best_3 a1 (fun (r11 : Int) => (¬ r11 = 0 → wp_Sets_sentencesOfWorth pg_sentences mt_tallies (fun (r12 : Int) => wp_Search_seekTop pg_sentenceSigns qy_weights sr_tooLike pg_sentences qy_items sr_most_4 sr_room_5 sr_enough_6 sr_topSet_7 sr_topWorth_8 sr_topLength_9 mt_tallies (iAnd r12 (iXor (iShl 1 a1) (-1))) se_most se_budget 1008 (fun (sr_most_13 : Int) (sr_room_14 : Int) (sr_enough_15 : Int) (sr_topSet_16 : Int) (sr_topWorth_17 : Int) (sr_topLength_18 : Int) => (rng (r10 - sr_topWorth_17)) ∧ (Q (r10 - sr_topWorth_17) se_bestKnown_2 se_best_3 sr_most_13 sr_room_14 sr_enough_15 sr_topSet_16 sr_topWorth_17 sr_topLength_18)))) ∧ (r11 = 0 → Q 0 se_bestKnown_2 se_best_3 sr_most_4 sr_room_5 sr_enough_6 sr_topSet_7 sr_topWorth_8 sr_topLength_9))))
set_option maxHeartbeats 4000000 in
set_option maxRecDepth 20000 in
theorem s_Sets_lossWithout (l : Launch) (w : St) (a1 : Int) (P : Int → Int → Int → Int → Int → Int → Int → Int → Int → Prop) (h : wp_Sets_lossWithout (w.1 13) (w.1 19) (w.1 40) (w.1 3 17) (w.1 18 6) (w.1 37 4) (w.1 37 5) (w.1 37 10) (w.1 37 11) (w.1 39 4) (w.1 39 5) (w.1 39 6) (w.1 39 7) (w.1 39 8) (w.1 39 9) (w.2 33) a1 P) : Cn l yX5_lossWithout cX5_lossWithout 3 (some .int) 12 LX w [aR 37, aI a1] (okI (fun r w1 => ∃ (o0 : Int) (o1 : Int) (o2 : Int) (o3 : Int) (o4 : Int) (o5 : Int) (o6 : Int) (o7 : Int), w1 = (wI (wI (wI (wI (wI (wI (wI (wI w 37 10 o0) 37 11 o1) 39 4 o2) 39 5 o3) 39 6 o4) 39 7 o5) 39 8 o6) 39 9 o7) ∧ P r o0 o1 o2 o3 o4 o5 o6 o7)) := by
  unfold wp_Sets_lossWithout at h
  refine Cn.of2 [some (aR 37), some (aI a1), none] (by decide) (Nat.le_of_ble_eq_true rfl) rfl (fun p e s m args below meth c D cA ad A Q hQ hC hr hk => ?_)
  refine r_aload_n (pc := 0) hC 0 dX5_lossWithout_0 rfl rfl ?_
  refine r_aload_n (pc := 1) hC 0 dX5_lossWithout_1 rfl rfl ?_
  refine r_callVi (pc := 2) hC [] [aR 37] dX5_lossWithout_2 ml_RX5_143 my_X5_bestSet mi_X5_bestSet lX_37 rfl rfl ⟨Nat.le_of_ble_eq_true rfl, Nat.le_of_ble_eq_true rfl⟩ ⟨Nat.le_of_ble_eq_true rfl, Nat.le_of_ble_eq_true rfl⟩ (Nat.le_of_ble_eq_true rfl) rfl (s_Sets_bestSet l _ _ h) (fun r1 w1 hq => ?_)
  obtain ⟨se_bestKnown_2, se_best_3, sr_most_4, sr_room_5, sr_enough_6, sr_topSet_7, sr_topWorth_8, sr_topLength_9, e9, h⟩ := hq
  rw [e9]
  refine r_callVi (pc := 5) hC [aI r1] [] dX5_lossWithout_5 ml_RX5_97 my_X5_worthOfSet mi_X5_worthOfSet lX_37 rfl rfl ⟨Nat.le_of_ble_eq_true rfl, Nat.le_of_ble_eq_true rfl⟩ ⟨Nat.le_of_ble_eq_true rfl, Nat.le_of_ble_eq_true rfl⟩ (Nat.le_of_ble_eq_true rfl) rfl (s_Sets_worthOfSet l _ _ _ h) (fun r10 w1 hq => ?_)
  obtain ⟨e9, h⟩ := hq
  rw [e9]
  refine r_istore_n (ls2 := [some (aR 37), some (aI a1), some (aI r10)]) (pc := 8) hC 2 dX5_lossWithout_8 rfl (by decide) rfl rfl ?_
  refine r_aload_n (pc := 9) hC 0 dX5_lossWithout_9 rfl rfl ?_
  refine r_get (kd := 0) (v := se_best_3) (pc := 10) hC dX5_lossWithout_10 fl_RX5_124 lX_37 rfl rfl ?_
  refine r_iload_n (pc := 13) hC 1 dX5_lossWithout_13 rfl rfl ?_
  refine r_callSNi (pc := 14) hC [aI se_best_3, aI a1] [] dX5_lossWithout_14 nl_RX5_62 my_X9_has ms_X9_has rfl ⟨Nat.le_of_ble_eq_true rfl, Nat.le_of_ble_eq_true rfl⟩ ⟨Nat.le_of_ble_eq_true rfl, Nat.le_of_ble_eq_true rfl⟩ (Nat.le_of_ble_eq_true rfl) rfl (s_Picker_has l _ _ _ _ h) (fun r11 w1 hq => ?_)
  obtain ⟨e9, h⟩ := hq
  rw [e9]
  refine r_if_ne (pc := 17) (tgt := 22) hC dX5_lossWithout_17 rfl (fun hc1 => ?_) (fun hc1 => ?_)
  · have h := h.1 hc1
    refine r_aload_n (pc := 22) hC 0 dX5_lossWithout_22 rfl rfl ?_
    refine r_getr (r := 39) (pc := 23) hC dX5_lossWithout_23 fl_RX5_42 lX_37 rfl ?_
    refine r_aload_n (pc := 26) hC 0 dX5_lossWithout_26 rfl rfl ?_
    refine r_callVi (pc := 27) hC [] [aR 39] dX5_lossWithout_27 ml_RX5_114 my_X5_sentencesOfWorth mi_X5_sentencesOfWorth lX_37 rfl rfl ⟨Nat.le_of_ble_eq_true rfl, Nat.le_of_ble_eq_true rfl⟩ ⟨Nat.le_of_ble_eq_true rfl, Nat.le_of_ble_eq_true rfl⟩ (Nat.le_of_ble_eq_true rfl) rfl (s_Sets_sentencesOfWorth l _ _ h) (fun r12 w1 hq => ?_)
    obtain ⟨e9, h⟩ := hq
    rw [e9]
    refine r_iconst (pc := 30) hC dX5_lossWithout_30 (rng_lit rfl) ?_
    refine r_iload_n (pc := 31) hC 1 dX5_lossWithout_31 rfl rfl ?_
    refine r_ishl (pc := 32) hC dX5_lossWithout_32 ?_
    refine r_iconst (pc := 33) hC dX5_lossWithout_33 (rng_lit rfl) ?_
    refine r_ixor (pc := 34) hC dX5_lossWithout_34 ?_
    refine r_iand (pc := 35) hC dX5_lossWithout_35 ?_
    refine r_aload_n (pc := 36) hC 0 dX5_lossWithout_36 rfl rfl ?_
    refine r_get (kd := 0) (v := (w.1 37 5)) (pc := 37) hC dX5_lossWithout_37 fl_RX5_15 lX_37 rfl rfl ?_
    refine r_aload_n (pc := 40) hC 0 dX5_lossWithout_40 rfl rfl ?_
    refine r_get (kd := 0) (v := (w.1 37 4)) (pc := 41) hC dX5_lossWithout_41 fl_RX5_9 lX_37 rfl rfl ?_
    refine r_sipush (pc := 44) hC dX5_lossWithout_44 ⟨rfl, rng_lit rfl⟩ ?_
    refine r_callVv (pc := 47) hC [aI (iAnd r12 (iXor (iShl 1 a1) (-1))), aI (w.1 37 5), aI (w.1 37 4), aI 1008] [] dX5_lossWithout_47 ml_RX5_117 my_X4_seekTop mi_X4_seekTop lX_39 rfl rfl ⟨Nat.le_of_ble_eq_true rfl, Nat.le_of_ble_eq_true rfl⟩ ⟨Nat.le_of_ble_eq_true rfl, Nat.le_of_ble_eq_true rfl⟩ (Nat.le_of_ble_eq_true rfl) rfl (s_Search_seekTop l _ _ _ _ _ _ h) (fun w1 hq => ?_)
    obtain ⟨sr_most_13, sr_room_14, sr_enough_15, sr_topSet_16, sr_topWorth_17, sr_topLength_18, e9, h⟩ := hq
    rw [e9]
    refine r_iload_n (pc := 50) hC 2 dX5_lossWithout_50 rfl rfl ?_
    refine r_aload_n (pc := 51) hC 0 dX5_lossWithout_51 rfl rfl ?_
    refine r_getr (r := 39) (pc := 52) hC dX5_lossWithout_52 fl_RX5_42 lX_37 rfl ?_
    refine r_get (kd := 0) (v := sr_topWorth_17) (pc := 55) hC dX5_lossWithout_55 fl_RX5_131 lX_39 rfl rfl ?_
    refine r_isub (pc := 58) hC dX5_lossWithout_58 h.1 ?_
    have h := h.2
    refine r_conv (w2 := (wI (wI (wI (wI (wI (wI (wI (wI w 37 10 se_bestKnown_2) 37 11 se_best_3) 39 4 sr_most_13) 39 5 sr_room_14) 39 6 sr_enough_15) 39 7 sr_topSet_16) 39 8 sr_topWorth_17) 39 9 sr_topLength_18)) rfl ?_
    exact r_reti (pc := 59) (kd := 0) hC hQ dX5_lossWithout_59 hr hk (by decide) (Or.inl rfl) ⟨se_bestKnown_2, se_best_3, sr_most_13, sr_room_14, sr_enough_15, sr_topSet_16, sr_topWorth_17, sr_topLength_18, rfl, h⟩
  have h := h.2 hc1
  refine r_iconst (pc := 20) hC dX5_lossWithout_20 (rng_lit rfl) ?_
  refine r_conv (w2 := (wI (wI (wI (wI (wI (wI (wI (wI w 37 10 se_bestKnown_2) 37 11 se_best_3) 39 4 sr_most_4) 39 5 sr_room_5) 39 6 sr_enough_6) 39 7 sr_topSet_7) 39 8 sr_topWorth_8) 39 9 sr_topLength_9)) rfl ?_
  exact r_reti (pc := 21) (kd := 0) hC hQ dX5_lossWithout_21 hr hk (by decide) (Or.inl rfl) ⟨se_bestKnown_2, se_best_3, sr_most_4, sr_room_5, sr_enough_6, sr_topSet_7, sr_topWorth_8, sr_topLength_9, rfl, h⟩
def wp_Sets_variety (sr_tooLike : (Nat → Int)) (pg_sentences : Int) (sr_largest : Int) (Q : Int → Int → Prop) : Prop := wp_Search_largestSet sr_tooLike pg_sentences sr_largest (fun (r1 : Int) (sr_largest_2 : Int) => Q r1 sr_largest_2)
set_option maxHeartbeats 4000000 in
set_option maxRecDepth 20000 in
theorem s_Sets_variety (l : Launch) (w : St) (P : Int → Int → Prop) (h : wp_Sets_variety (w.1 40) (w.1 3 17) (w.1 39 10) P) : Cn l yX5_variety cX5_variety 1 (some .int) 19 LX w [aR 37] (okI (fun r w1 => ∃ (o0 : Int), w1 = (wI w 39 10 o0) ∧ P r o0)) := by
  unfold wp_Sets_variety at h
  refine Cn.of2 [some (aR 37)] (by decide) (Nat.le_of_ble_eq_true rfl) rfl (fun p e s m args below meth c D cA ad A Q hQ hC hr hk => ?_)
  refine r_aload_n (pc := 0) hC 0 dX5_variety_0 rfl rfl ?_
  refine r_getr (r := 39) (pc := 1) hC dX5_variety_1 fl_RX5_42 lX_37 rfl ?_
  refine r_callVi (pc := 4) hC [] [] dX5_variety_4 ml_RX5_146 my_X4_largestSet mi_X4_largestSet lX_39 rfl rfl ⟨Nat.le_of_ble_eq_true rfl, Nat.le_of_ble_eq_true rfl⟩ ⟨Nat.le_of_ble_eq_true rfl, Nat.le_of_ble_eq_true rfl⟩ (Nat.le_of_ble_eq_true rfl) rfl (s_Search_largestSet l _ _ h) (fun r1 w1 hq => ?_)
  obtain ⟨sr_largest_2, e9, h⟩ := hq
  rw [e9]
  refine r_conv (w2 := (wI w 39 10 sr_largest_2)) rfl ?_
  exact r_reti (pc := 7) (kd := 0) hC hQ dX5_variety_7 hr hk (by decide) (Or.inl rfl) ⟨sr_largest_2, rfl, h⟩
def wp_Sets_hundredths (qy_weights : (Nat → Int)) (pg_sentences : Int) (qy_items : Int) (mt_tallies : (Nat → Int64)) (a1 : Int) (a2 : Int) (Q : Int → Prop) : Prop := wp_Sets_worthOfSet qy_weights pg_sentences qy_items mt_tallies a2 (fun (r1 : Int) => (¬ r1 = 0 → wp_Sets_worthOfSet qy_weights pg_sentences qy_items mt_tallies a1 (fun (r2 : Int) => (rng (r2 * 100)) ∧ ((r1 ≠ 0 ∧ rng (Int.tdiv (r2 * 100) r1)) ∧ (Q (Int.tdiv (r2 * 100) r1))))) ∧ (r1 = 0 → Q 100))
set_option maxHeartbeats 4000000 in
set_option maxRecDepth 20000 in
theorem s_Sets_hundredths (l : Launch) (w : St) (a1 : Int) (a2 : Int) (P : Int → Prop) (h : wp_Sets_hundredths (w.1 19) (w.1 3 17) (w.1 18 6) (w.2 33) a1 a2 P) : Cn l yX5_hundredths cX5_hundredths 4 (some .int) 3 LX w [aR 37, aI a1, aI a2] (okI (fun r w1 => w1 = w ∧ P r)) := by
  unfold wp_Sets_hundredths at h
  refine Cn.of2 [some (aR 37), some (aI a1), some (aI a2), none] (by decide) (Nat.le_of_ble_eq_true rfl) rfl (fun p e s m args below meth c D cA ad A Q hQ hC hr hk => ?_)
  refine r_aload_n (pc := 0) hC 0 dX5_hundredths_0 rfl rfl ?_
  refine r_iload_n (pc := 1) hC 2 dX5_hundredths_1 rfl rfl ?_
  refine r_callVi (pc := 2) hC [aI a2] [] dX5_hundredths_2 ml_RX5_97 my_X5_worthOfSet mi_X5_worthOfSet lX_37 rfl rfl ⟨Nat.le_of_ble_eq_true rfl, Nat.le_of_ble_eq_true rfl⟩ ⟨Nat.le_of_ble_eq_true rfl, Nat.le_of_ble_eq_true rfl⟩ (Nat.le_of_ble_eq_true rfl) rfl (s_Sets_worthOfSet l _ _ _ h) (fun r1 w1 hq => ?_)
  obtain ⟨e9, h⟩ := hq
  rw [e9]
  refine r_istore_n (ls2 := [some (aR 37), some (aI a1), some (aI a2), some (aI r1)]) (pc := 5) hC 3 dX5_hundredths_5 rfl (by decide) rfl rfl ?_
  refine r_iload_n (pc := 6) hC 3 dX5_hundredths_6 rfl rfl ?_
  refine r_if_ne (pc := 7) (tgt := 15) hC dX5_hundredths_7 rfl (fun hc1 => ?_) (fun hc1 => ?_)
  · have h := h.1 hc1
    refine r_aload_n (pc := 15) hC 0 dX5_hundredths_15 rfl rfl ?_
    refine r_iload_n (pc := 16) hC 1 dX5_hundredths_16 rfl rfl ?_
    refine r_callVi (pc := 17) hC [aI a1] [] dX5_hundredths_17 ml_RX5_97 my_X5_worthOfSet mi_X5_worthOfSet lX_37 rfl rfl ⟨Nat.le_of_ble_eq_true rfl, Nat.le_of_ble_eq_true rfl⟩ ⟨Nat.le_of_ble_eq_true rfl, Nat.le_of_ble_eq_true rfl⟩ (Nat.le_of_ble_eq_true rfl) rfl (s_Sets_worthOfSet l _ _ _ h) (fun r2 w1 hq => ?_)
    obtain ⟨e9, h⟩ := hq
    rw [e9]
    refine r_bipush (pc := 20) hC dX5_hundredths_20 ⟨rfl, rng_lit rfl⟩ ?_
    refine r_imul (pc := 22) hC dX5_hundredths_22 h.1 ?_
    have h := h.2
    refine r_iload_n (pc := 23) hC 3 dX5_hundredths_23 rfl rfl ?_
    refine r_idiv (pc := 24) hC dX5_hundredths_24 h.1.1 h.1.2 ?_
    have h := h.2
    exact r_reti (pc := 25) (kd := 0) hC hQ dX5_hundredths_25 hr hk (by decide) (Or.inl rfl) ⟨rfl, h⟩
  have h := h.2 hc1
  refine r_bipush (pc := 10) hC dX5_hundredths_10 ⟨rfl, rng_lit rfl⟩ ?_
  refine r_goto (tgt := 25) (pc := 12) hC dX5_hundredths_12 rfl ?_
  exact r_reti (pc := 25) (kd := 0) hC hQ dX5_hundredths_25 hr hk (by decide) (Or.inl rfl) ⟨rfl, h⟩
def wp_Sets_exchanged (se_chosen : Int) (a1 : Int) (a2 : Int) (Q : Int → Prop) : Prop := Q (iOr (iAnd se_chosen (iXor (iShl 1 a1) (-1))) (iShl 1 a2))
set_option maxHeartbeats 4000000 in
set_option maxRecDepth 20000 in
theorem s_Sets_exchanged (l : Launch) (w : St) (a1 : Int) (a2 : Int) (P : Int → Prop) (h : wp_Sets_exchanged (w.1 37 7) a1 a2 P) : Cn l yX5_exchanged cX5_exchanged 3 (some .int) 0 LX w [aR 37, aI a1, aI a2] (okI (fun r w1 => w1 = w ∧ P r)) := by
  unfold wp_Sets_exchanged at h
  refine Cn.of2 [some (aR 37), some (aI a1), some (aI a2)] (by decide) (Nat.le_of_ble_eq_true rfl) rfl (fun p e s m args below meth c D cA ad A Q hQ hC hr hk => ?_)
  refine r_aload_n (pc := 0) hC 0 dX5_exchanged_0 rfl rfl ?_
  refine r_get (kd := 0) (v := (w.1 37 7)) (pc := 1) hC dX5_exchanged_1 fl_RX5_46 lX_37 rfl rfl ?_
  refine r_iconst (pc := 4) hC dX5_exchanged_4 (rng_lit rfl) ?_
  refine r_iload_n (pc := 5) hC 1 dX5_exchanged_5 rfl rfl ?_
  refine r_ishl (pc := 6) hC dX5_exchanged_6 ?_
  refine r_iconst (pc := 7) hC dX5_exchanged_7 (rng_lit rfl) ?_
  refine r_ixor (pc := 8) hC dX5_exchanged_8 ?_
  refine r_iand (pc := 9) hC dX5_exchanged_9 ?_
  refine r_iconst (pc := 10) hC dX5_exchanged_10 (rng_lit rfl) ?_
  refine r_iload_n (pc := 11) hC 2 dX5_exchanged_11 rfl rfl ?_
  refine r_ishl (pc := 12) hC dX5_exchanged_12 ?_
  refine r_ior (pc := 13) hC dX5_exchanged_13 ?_
  exact r_reti (pc := 14) (kd := 0) hC hQ dX5_exchanged_14 hr hk (by decide) (Or.inl rfl) ⟨rfl, h⟩
def wp_Sets_tryExchange (pg_sentenceSigns : (Nat → Int)) (qy_weights : (Nat → Int)) (sr_tooLike : (Nat → Int)) (pg_sentences : Int) (qy_items : Int) (se_budget : Int) (se_most : Int) (se_chosen : Int) (se_leaving : Int) (se_coming : Int) (se_surplus : Int) (mt_tallies : (Nat → Int64)) (a1 : Int) (a2 : Int) (a3 : Int) (Q : Int → Int → Int → Prop) : Prop := wp_Sets_exchanged se_chosen a1 a2 (fun (r1 : Int) => wp_Sets_worthOfSet qy_weights pg_sentences qy_items mt_tallies r1 (fun (r2 : Int) => (rng (r2 - a3)) ∧ (((r2 - a3) ≤ se_surplus → Q se_leaving se_coming se_surplus) ∧ (¬ (r2 - a3) ≤ se_surplus → wp_Sets_mayBe pg_sentenceSigns sr_tooLike pg_sentences se_budget se_most r1 (fun (r3 : Int) => (r3 = 0 → Q se_leaving se_coming se_surplus) ∧ (¬ r3 = 0 → Q a1 a2 (r2 - a3)))))))
set_option maxHeartbeats 4000000 in
set_option maxRecDepth 20000 in
theorem s_Sets_tryExchange (l : Launch) (w : St) (a1 : Int) (a2 : Int) (a3 : Int) (P : Int → Int → Int → Prop) (h : wp_Sets_tryExchange (w.1 13) (w.1 19) (w.1 40) (w.1 3 17) (w.1 18 6) (w.1 37 4) (w.1 37 5) (w.1 37 7) (w.1 37 12) (w.1 37 13) (w.1 37 14) (w.2 33) a1 a2 a3 P) : Cn l yX5_tryExchange cX5_tryExchange 6 none 3 LX w [aR 37, aI a1, aI a2, aI a3] (okV (fun w1 => ∃ (o0 : Int) (o1 : Int) (o2 : Int), w1 = (wI (wI (wI w 37 12 o0) 37 13 o1) 37 14 o2) ∧ P o0 o1 o2)) := by
  unfold wp_Sets_tryExchange at h
  refine Cn.of2 [some (aR 37), some (aI a1), some (aI a2), some (aI a3), none, none] (by decide) (Nat.le_of_ble_eq_true rfl) rfl (fun p e s m args below meth c D cA ad A Q hQ hC hr hk => ?_)
  refine r_aload_n (pc := 0) hC 0 dX5_tryExchange_0 rfl rfl ?_
  refine r_iload_n (pc := 1) hC 1 dX5_tryExchange_1 rfl rfl ?_
  refine r_iload_n (pc := 2) hC 2 dX5_tryExchange_2 rfl rfl ?_
  refine r_callVi (pc := 3) hC [aI a1, aI a2] [] dX5_tryExchange_3 ml_RX5_162 my_X5_exchanged mi_X5_exchanged lX_37 rfl rfl ⟨Nat.le_of_ble_eq_true rfl, Nat.le_of_ble_eq_true rfl⟩ ⟨Nat.le_of_ble_eq_true rfl, Nat.le_of_ble_eq_true rfl⟩ (Nat.le_of_ble_eq_true rfl) rfl (s_Sets_exchanged l _ _ _ _ h) (fun r1 w1 hq => ?_)
  obtain ⟨e9, h⟩ := hq
  rw [e9]
  refine r_istore (ls2 := [some (aR 37), some (aI a1), some (aI a2), some (aI a3), some (aI r1), none]) (pc := 6) hC dX5_tryExchange_6 (by decide) rfl rfl ?_
  refine r_aload_n (pc := 8) hC 0 dX5_tryExchange_8 rfl rfl ?_
  refine r_iload (pc := 9) hC dX5_tryExchange_9 rfl ?_
  refine r_callVi (pc := 11) hC [aI r1] [] dX5_tryExchange_11 ml_RX5_97 my_X5_worthOfSet mi_X5_worthOfSet lX_37 rfl rfl ⟨Nat.le_of_ble_eq_true rfl, Nat.le_of_ble_eq_true rfl⟩ ⟨Nat.le_of_ble_eq_true rfl, Nat.le_of_ble_eq_true rfl⟩ (Nat.le_of_ble_eq_true rfl) rfl (s_Sets_worthOfSet l _ _ _ h) (fun r2 w1 hq => ?_)
  obtain ⟨e9, h⟩ := hq
  rw [e9]
  refine r_iload_n (pc := 14) hC 3 dX5_tryExchange_14 rfl rfl ?_
  refine r_isub (pc := 15) hC dX5_tryExchange_15 h.1 ?_
  have h := h.2
  refine r_istore (ls2 := [some (aR 37), some (aI a1), some (aI a2), some (aI a3), some (aI r1), some (aI (r2 - a3))]) (pc := 16) hC dX5_tryExchange_16 (by decide) rfl rfl ?_
  refine r_iload (pc := 18) hC dX5_tryExchange_18 rfl ?_
  refine r_aload_n (pc := 20) hC 0 dX5_tryExchange_20 rfl rfl ?_
  refine r_get (kd := 0) (v := (w.1 37 14)) (pc := 21) hC dX5_tryExchange_21 fl_RX5_155 lX_37 rfl rfl ?_
  refine r_ic_le (pc := 24) (tgt := 52) hC dX5_tryExchange_24 rfl (fun hc2 => ?_) (fun hc2 => ?_)
  · have h := h.1 hc2
    refine r_conv (w2 := (wI (wI (wI w 37 12 (w.1 37 12)) 37 13 (w.1 37 13)) 37 14 (w.1 37 14))) rfl ?_
    exact r_retv (pc := 52) hC hQ dX5_tryExchange_52 hr hk ⟨(w.1 37 12), (w.1 37 13), (w.1 37 14), rfl, h⟩
  have h := h.2 hc2
  refine r_aload_n (pc := 27) hC 0 dX5_tryExchange_27 rfl rfl ?_
  refine r_iload (pc := 28) hC dX5_tryExchange_28 rfl ?_
  refine r_callVi (pc := 30) hC [aI r1] [] dX5_tryExchange_30 ml_RX5_94 my_X5_mayBe mi_X5_mayBe lX_37 rfl rfl ⟨Nat.le_of_ble_eq_true rfl, Nat.le_of_ble_eq_true rfl⟩ ⟨Nat.le_of_ble_eq_true rfl, Nat.le_of_ble_eq_true rfl⟩ (Nat.le_of_ble_eq_true rfl) rfl (s_Sets_mayBe l _ _ _ h) (fun r3 w1 hq => ?_)
  obtain ⟨e9, h⟩ := hq
  rw [e9]
  refine r_if_eq (pc := 33) (tgt := 52) hC dX5_tryExchange_33 rfl (fun hc1 => ?_) (fun hc1 => ?_)
  · have h := h.1 hc1
    refine r_conv (w2 := (wI (wI (wI w 37 12 (w.1 37 12)) 37 13 (w.1 37 13)) 37 14 (w.1 37 14))) rfl ?_
    exact r_retv (pc := 52) hC hQ dX5_tryExchange_52 hr hk ⟨(w.1 37 12), (w.1 37 13), (w.1 37 14), rfl, h⟩
  have h := h.2 hc1
  refine r_aload_n (pc := 36) hC 0 dX5_tryExchange_36 rfl rfl ?_
  refine r_iload_n (pc := 37) hC 1 dX5_tryExchange_37 rfl rfl ?_
  refine r_put (kd := 0) (pc := 38) hC dX5_tryExchange_38 pl_RX5_149 lX_37 rfl (by decide) (Or.inl rfl) ?_
  refine r_aload_n (pc := 41) hC 0 dX5_tryExchange_41 rfl rfl ?_
  refine r_iload_n (pc := 42) hC 2 dX5_tryExchange_42 rfl rfl ?_
  refine r_put (kd := 0) (pc := 43) hC dX5_tryExchange_43 pl_RX5_152 lX_37 rfl (by decide) (Or.inl rfl) ?_
  refine r_aload_n (pc := 46) hC 0 dX5_tryExchange_46 rfl rfl ?_
  refine r_iload (pc := 47) hC dX5_tryExchange_47 rfl ?_
  refine r_put (kd := 0) (pc := 49) hC dX5_tryExchange_49 pl_RX5_155 lX_37 rfl (by decide) (Or.inl rfl) ?_
  refine r_conv (w2 := (wI (wI (wI w 37 12 a1) 37 13 a2) 37 14 (r2 - a3))) rfl ?_
  exact r_retv (pc := 52) hC hQ dX5_tryExchange_52 hr hk ⟨a1, a2, (r2 - a3), rfl, h⟩
def wp_Sets_seekExchange (pg_sentenceSigns : (Nat → Int)) (qy_weights : (Nat → Int)) (sr_tooLike : (Nat → Int)) (pg_sentences : Int) (qy_items : Int) (se_budget : Int) (se_most : Int) (se_chosen : Int) (se_leaving : Int) (se_coming : Int) (se_surplus : Int) (mt_tallies : (Nat → Int64)) (Q : Int → Int → Int → Prop) : Prop := wp_Sets_worthOfSet qy_weights pg_sentences qy_items mt_tallies se_chosen (fun (r1 : Int) => lpw4 (fun (se_leaving_2 : Int) (se_coming_3 : Int) (se_surplus_4 : Int) (x5 : Int) (k1 : Int → Int → Int → Int → Prop) => (pg_sentences ≤ x5 → Q se_leaving_2 se_coming_3 se_surplus_4) ∧ (¬ pg_sentences ≤ x5 → lpw4 (fun (se_leaving_6 : Int) (se_coming_7 : Int) (se_surplus_8 : Int) (x9 : Int) (k2 : Int → Int → Int → Int → Prop) => jn0 (fun (J3 : Prop) => (pg_sentences ≤ x9 → J3) ∧ (¬ pg_sentences ≤ x9 → wp_Picker_has se_chosen x5 (fun (r10 : Int) => (r10 = 0 → J3) ∧ (¬ r10 = 0 → wp_Picker_has se_chosen x9 (fun (r11 : Int) => jn3 (fun (J4 : Int → Int → Int → Prop) => (¬ r11 = 0 → J4 se_leaving_6 se_coming_7 se_surplus_8) ∧ (r11 = 0 → wp_Sets_tryExchange pg_sentenceSigns qy_weights sr_tooLike pg_sentences qy_items se_budget se_most se_chosen se_leaving_6 se_coming_7 se_surplus_8 mt_tallies x5 x9 r1 (fun (se_leaving_15 : Int) (se_coming_16 : Int) (se_surplus_17 : Int) => J4 se_leaving_15 se_coming_16 se_surplus_17))) (fun (se_leaving_12 : Int) (se_coming_13 : Int) (se_surplus_14 : Int) => (rng (x9 + 1)) ∧ (k2 se_leaving_12 se_coming_13 se_surplus_14 (x9 + 1)))))))) ((rng (x5 + 1)) ∧ (k1 se_leaving_6 se_coming_7 se_surplus_8 (x5 + 1)))) se_leaving_2 se_coming_3 se_surplus_4 0)) (-1) (-1) 0 0)
set_option maxHeartbeats 4000000 in
set_option maxRecDepth 20000 in
theorem s_Sets_seekExchange (l : Launch) (w : St) (P : Int → Int → Int → Prop) (h : wp_Sets_seekExchange (w.1 13) (w.1 19) (w.1 40) (w.1 3 17) (w.1 18 6) (w.1 37 4) (w.1 37 5) (w.1 37 7) (w.1 37 12) (w.1 37 13) (w.1 37 14) (w.2 33) P) : Cn l yX5_seekExchange cX5_seekExchange 4 none 4 LX w [aR 37] (okV (fun w1 => ∃ (o0 : Int) (o1 : Int) (o2 : Int), w1 = (wI (wI (wI w 37 12 o0) 37 13 o1) 37 14 o2) ∧ P o0 o1 o2)) := by
  unfold wp_Sets_seekExchange at h
  refine Cn.of2 [some (aR 37), none, none, none] (by decide) (Nat.le_of_ble_eq_true rfl) rfl (fun p e s m args below meth c D cA ad A Q hQ hC hr hk => ?_)
  refine r_aload_n (pc := 0) hC 0 dX5_seekExchange_0 rfl rfl ?_
  refine r_iconst (pc := 1) hC dX5_seekExchange_1 (rng_lit rfl) ?_
  refine r_put (kd := 0) (pc := 2) hC dX5_seekExchange_2 pl_RX5_149 lX_37 rfl (by decide) (Or.inl rfl) ?_
  refine r_aload_n (pc := 5) hC 0 dX5_seekExchange_5 rfl rfl ?_
  refine r_iconst (pc := 6) hC dX5_seekExchange_6 (rng_lit rfl) ?_
  refine r_put (kd := 0) (pc := 7) hC dX5_seekExchange_7 pl_RX5_152 lX_37 rfl (by decide) (Or.inl rfl) ?_
  refine r_aload_n (pc := 10) hC 0 dX5_seekExchange_10 rfl rfl ?_
  refine r_iconst (pc := 11) hC dX5_seekExchange_11 (rng_lit rfl) ?_
  refine r_put (kd := 0) (pc := 12) hC dX5_seekExchange_12 pl_RX5_155 lX_37 rfl (by decide) (Or.inl rfl) ?_
  refine r_aload_n (pc := 15) hC 0 dX5_seekExchange_15 rfl rfl ?_
  refine r_aload_n (pc := 16) hC 0 dX5_seekExchange_16 rfl rfl ?_
  refine r_get (kd := 0) (v := (w.1 37 7)) (pc := 17) hC dX5_seekExchange_17 fl_RX5_46 lX_37 rfl rfl ?_
  refine r_callVi (pc := 20) hC [aI (w.1 37 7)] [] dX5_seekExchange_20 ml_RX5_97 my_X5_worthOfSet mi_X5_worthOfSet lX_37 rfl rfl ⟨Nat.le_of_ble_eq_true rfl, Nat.le_of_ble_eq_true rfl⟩ ⟨Nat.le_of_ble_eq_true rfl, Nat.le_of_ble_eq_true rfl⟩ (Nat.le_of_ble_eq_true rfl) rfl (s_Sets_worthOfSet l _ _ _ h) (fun r1 w1 hq => ?_)
  obtain ⟨e9, h⟩ := hq
  rw [e9]
  refine r_istore_n (ls2 := [some (aR 37), some (aI r1), none, none]) (pc := 23) hC 1 dX5_seekExchange_23 rfl (by decide) rfl rfl ?_
  refine r_iconst (pc := 24) hC dX5_seekExchange_24 (rng_lit rfl) ?_
  refine r_istore_n (ls2 := [some (aR 37), some (aI r1), some (aI 0), none]) (pc := 25) hC 2 dX5_seekExchange_25 rfl (by decide) rfl rfl ?_
  obtain ⟨I1, μ1, hI1, hB1⟩ := h
  have S1 : ∀ (nn : Nat) (se_leaving_2 : Int) (se_coming_3 : Int) (se_surplus_4 : Int) (x5 : Int), μ1 se_leaving_2 se_coming_3 se_surplus_4 x5 < nn → I1 se_leaving_2 se_coming_3 se_surplus_4 x5 → Wd p l e (rmD 4) s m args below meth c Q 0 0 4 D cA ad A LX (wI (wI (wI w 37 12 se_leaving_2) 37 13 se_coming_3) 37 14 se_surplus_4) 26 [some (aR 37), some (aI r1), some (aI x5), none] [] := by
    intro nn
    induction nn with
    | zero => intro se_leaving_2 se_coming_3 se_surplus_4 x5 hn; exact absurd hn (Nat.not_lt_zero _)
    | succ nn ih1 =>
      intro se_leaving_2 se_coming_3 se_surplus_4 x5 hn1 hi
      have h := hB1 se_leaving_2 se_coming_3 se_surplus_4 x5 hi
      refine r_iload_n (pc := 26) hC 2 dX5_seekExchange_26 rfl rfl ?_
      refine r_aload_n (pc := 27) hC 0 dX5_seekExchange_27 rfl rfl ?_
      refine r_getr (r := 3) (pc := 28) hC dX5_seekExchange_28 fl_RX5_25 lX_37 rfl ?_
      refine r_get (kd := 0) (v := (w.1 3 17)) (pc := 31) hC dX5_seekExchange_31 fl_RX5_57 lX_3 rfl rfl ?_
      refine r_ic_ge (pc := 34) (tgt := 91) hC dX5_seekExchange_34 rfl (fun hc4 => ?_) (fun hc4 => ?_)
      · have h := h.1 hc4
        refine r_conv (w2 := (wI (wI (wI w 37 12 se_leaving_2) 37 13 se_coming_3) 37 14 se_surplus_4)) rfl ?_
        exact r_retv (pc := 91) hC hQ dX5_seekExchange_91 hr hk ⟨se_leaving_2, se_coming_3, se_surplus_4, rfl, h⟩
      have h := h.2 hc4
      refine r_iconst (pc := 37) hC dX5_seekExchange_37 (rng_lit rfl) ?_
      refine r_istore_n (ls2 := [some (aR 37), some (aI r1), some (aI x5), some (aI 0)]) (pc := 38) hC 3 dX5_seekExchange_38 rfl (by decide) rfl rfl ?_
      obtain ⟨I2, μ2, hI2, hB2⟩ := h
      have S2 : ∀ (nn : Nat) (se_leaving_6 : Int) (se_coming_7 : Int) (se_surplus_8 : Int) (x9 : Int), μ2 se_leaving_6 se_coming_7 se_surplus_8 x9 < nn → I2 se_leaving_6 se_coming_7 se_surplus_8 x9 → Wd p l e (rmD 4) s m args below meth c Q 0 0 4 D cA ad A LX (wI (wI (wI w 37 12 se_leaving_6) 37 13 se_coming_7) 37 14 se_surplus_8) 39 [some (aR 37), some (aI r1), some (aI x5), some (aI x9)] [] := by
        intro nn
        induction nn with
        | zero => intro se_leaving_6 se_coming_7 se_surplus_8 x9 hn; exact absurd hn (Nat.not_lt_zero _)
        | succ nn ih2 =>
          intro se_leaving_6 se_coming_7 se_surplus_8 x9 hn2 hi
          have h := hB2 se_leaving_6 se_coming_7 se_surplus_8 x9 hi
          refine r_iload_n (pc := 39) hC 3 dX5_seekExchange_39 rfl rfl ?_
          refine r_aload_n (pc := 40) hC 0 dX5_seekExchange_40 rfl rfl ?_
          refine r_getr (r := 3) (pc := 41) hC dX5_seekExchange_41 fl_RX5_25 lX_37 rfl ?_
          refine r_get (kd := 0) (v := (w.1 3 17)) (pc := 44) hC dX5_seekExchange_44 fl_RX5_57 lX_3 rfl rfl ?_
          obtain ⟨J3, hJ3, h⟩ := h
          have S3 : J3 → Wd p l e (rmD 4) s m args below meth c Q 0 0 4 D cA ad A LX (wI (wI (wI w 37 12 se_leaving_6) 37 13 se_coming_7) 37 14 se_surplus_8) 85 [some (aR 37), some (aI r1), some (aI x5), none] [] := by
            intro hj
            have h := hJ3 hj
            refine r_iinc (ls2 := [some (aR 37), some (aI r1), some (aI (x5 + 1)), none]) (pc := 85) hC dX5_seekExchange_85 rfl (by decide) rfl h.1 rfl ?_
            have h := h.2
            refine r_goto (tgt := 26) (pc := 88) hC dX5_seekExchange_88 rfl ?_
            exact r_to [true, true, true, false] rfl rfl (ih1 se_leaving_6 se_coming_7 se_surplus_8 (x5 + 1) (Nat.lt_of_lt_of_le h.2 (Nat.le_of_lt_succ hn1)) h.1)
          refine r_ic_ge (pc := 47) (tgt := 85) hC dX5_seekExchange_47 rfl (fun hc3 => ?_) (fun hc3 => ?_)
          · have h := h.1 hc3
            exact r_to [true, true, true, false] rfl rfl (S3 h)
          have h := h.2 hc3
          refine r_aload_n (pc := 50) hC 0 dX5_seekExchange_50 rfl rfl ?_
          refine r_get (kd := 0) (v := (w.1 37 7)) (pc := 51) hC dX5_seekExchange_51 fl_RX5_46 lX_37 rfl rfl ?_
          refine r_iload_n (pc := 54) hC 2 dX5_seekExchange_54 rfl rfl ?_
          refine r_callSNi (pc := 55) hC [aI (w.1 37 7), aI x5] [] dX5_seekExchange_55 nl_RX5_62 my_X9_has ms_X9_has rfl ⟨Nat.le_of_ble_eq_true rfl, Nat.le_of_ble_eq_true rfl⟩ ⟨Nat.le_of_ble_eq_true rfl, Nat.le_of_ble_eq_true rfl⟩ (Nat.le_of_ble_eq_true rfl) rfl (s_Picker_has l _ _ _ _ h) (fun r10 w1 hq => ?_)
          obtain ⟨e9, h⟩ := hq
          rw [e9]
          refine r_if_eq (pc := 58) (tgt := 85) hC dX5_seekExchange_58 rfl (fun hc2 => ?_) (fun hc2 => ?_)
          · have h := h.1 hc2
            exact r_to [true, true, true, false] rfl rfl (S3 h)
          have h := h.2 hc2
          refine r_aload_n (pc := 61) hC 0 dX5_seekExchange_61 rfl rfl ?_
          refine r_get (kd := 0) (v := (w.1 37 7)) (pc := 62) hC dX5_seekExchange_62 fl_RX5_46 lX_37 rfl rfl ?_
          refine r_iload_n (pc := 65) hC 3 dX5_seekExchange_65 rfl rfl ?_
          refine r_callSNi (pc := 66) hC [aI (w.1 37 7), aI x9] [] dX5_seekExchange_66 nl_RX5_62 my_X9_has ms_X9_has rfl ⟨Nat.le_of_ble_eq_true rfl, Nat.le_of_ble_eq_true rfl⟩ ⟨Nat.le_of_ble_eq_true rfl, Nat.le_of_ble_eq_true rfl⟩ (Nat.le_of_ble_eq_true rfl) rfl (s_Picker_has l _ _ _ _ h) (fun r11 w1 hq => ?_)
          obtain ⟨e9, h⟩ := hq
          rw [e9]
          obtain ⟨J4, hJ4, h⟩ := h
          have S4 : ∀ (se_leaving_12 : Int) (se_coming_13 : Int) (se_surplus_14 : Int), J4 se_leaving_12 se_coming_13 se_surplus_14 → Wd p l e (rmD 4) s m args below meth c Q 0 0 4 D cA ad A LX (wI (wI (wI w 37 12 se_leaving_12) 37 13 se_coming_13) 37 14 se_surplus_14) 79 [some (aR 37), some (aI r1), some (aI x5), some (aI x9)] [] := by
            intro se_leaving_12 se_coming_13 se_surplus_14 hj
            have h := hJ4 se_leaving_12 se_coming_13 se_surplus_14 hj
            refine r_iinc (ls2 := [some (aR 37), some (aI r1), some (aI x5), some (aI (x9 + 1))]) (pc := 79) hC dX5_seekExchange_79 rfl (by decide) rfl h.1 rfl ?_
            have h := h.2
            refine r_goto (tgt := 39) (pc := 82) hC dX5_seekExchange_82 rfl ?_
            exact r_to [true, true, true, true] rfl rfl (ih2 se_leaving_12 se_coming_13 se_surplus_14 (x9 + 1) (Nat.lt_of_lt_of_le h.2 (Nat.le_of_lt_succ hn2)) h.1)
          refine r_if_ne (pc := 69) (tgt := 79) hC dX5_seekExchange_69 rfl (fun hc1 => ?_) (fun hc1 => ?_)
          · have h := h.1 hc1
            exact r_to [true, true, true, true] rfl rfl (S4 se_leaving_6 se_coming_7 se_surplus_8 h)
          have h := h.2 hc1
          refine r_aload_n (pc := 72) hC 0 dX5_seekExchange_72 rfl rfl ?_
          refine r_iload_n (pc := 73) hC 2 dX5_seekExchange_73 rfl rfl ?_
          refine r_iload_n (pc := 74) hC 3 dX5_seekExchange_74 rfl rfl ?_
          refine r_iload_n (pc := 75) hC 1 dX5_seekExchange_75 rfl rfl ?_
          refine r_callVv (pc := 76) hC [aI x5, aI x9, aI r1] [] dX5_seekExchange_76 ml_RX5_158 my_X5_tryExchange mi_X5_tryExchange lX_37 rfl rfl ⟨Nat.le_of_ble_eq_true rfl, Nat.le_of_ble_eq_true rfl⟩ ⟨Nat.le_of_ble_eq_true rfl, Nat.le_of_ble_eq_true rfl⟩ (Nat.le_of_ble_eq_true rfl) rfl (s_Sets_tryExchange l _ _ _ _ _ h) (fun w1 hq => ?_)
          obtain ⟨se_leaving_15, se_coming_16, se_surplus_17, e9, h⟩ := hq
          rw [e9]
          exact r_to [true, true, true, true] rfl rfl (S4 se_leaving_15 se_coming_16 se_surplus_17 h)
      exact r_to [true, true, true, true] rfl rfl (S2 _ se_leaving_2 se_coming_3 se_surplus_4 0 (Nat.lt_succ_self _) hI2)
  exact r_to [true, true, true, false] rfl rfl (S1 _ (-1) (-1) 0 0 (Nat.lt_succ_self _) hI1)
def wp_Sets_countAhead (qy_weights : (Nat → Int)) (pg_sentences : Int) (qy_items : Int) (mt_tallies : (Nat → Int64)) (a1 : Int) (Q : Int → Prop) : Prop := (0 ≤ a1 ∧ a1 < 14) ∧ (wp_Query_worthOf qy_weights qy_items (mt_tallies (Int.toNat a1)) (fun (r1 : Int) => lpw2 (fun (x2 : Int) (x3 : Int) (k1 : Int → Int → Prop) => (pg_sentences ≤ x3 → Q x2) ∧ (¬ pg_sentences ≤ x3 → (0 ≤ x3 ∧ x3 < 14) ∧ (wp_Query_worthOf qy_weights qy_items (mt_tallies (Int.toNat x3)) (fun (r4 : Int) => jn1 (fun (J2 : Int → Prop) => jn0 (fun (J3 : Prop) => (r1 < r4 → J3) ∧ (¬ r1 < r4 → (¬ r4 = r1 → J2 x2) ∧ (r4 = r1 → (a1 ≤ x3 → J2 x2) ∧ (¬ a1 ≤ x3 → J3)))) ((rng (x2 + 1)) ∧ (J2 (x2 + 1)))) (fun (x5 : Int) => (rng (x3 + 1)) ∧ (k1 x5 (x3 + 1))))))) 0 0))
set_option maxHeartbeats 4000000 in
set_option maxRecDepth 20000 in
theorem s_Sets_countAhead (l : Launch) (w : St) (a1 : Int) (P : Int → Prop) (h : wp_Sets_countAhead (w.1 19) (w.1 3 17) (w.1 18 6) (w.2 33) a1 P) : Cn l yX5_countAhead cX5_countAhead 6 (some .int) 2 LX w [aR 37, aI a1] (okI (fun r w1 => w1 = w ∧ P r)) := by
  unfold wp_Sets_countAhead at h
  refine Cn.of2 [some (aR 37), some (aI a1), none, none, none, none] (by decide) (Nat.le_of_ble_eq_true rfl) rfl (fun p e s m args below meth c D cA ad A Q hQ hC hr hk => ?_)
  refine r_iconst (pc := 0) hC dX5_countAhead_0 (rng_lit rfl) ?_
  refine r_istore_n (ls2 := [some (aR 37), some (aI a1), some (aI 0), none, none, none]) (pc := 1) hC 2 dX5_countAhead_1 rfl (by decide) rfl rfl ?_
  refine r_aload_n (pc := 2) hC 0 dX5_countAhead_2 rfl rfl ?_
  refine r_getr (r := 18) (pc := 3) hC dX5_countAhead_3 fl_RX5_29 lX_37 rfl ?_
  refine r_aload_n (pc := 6) hC 0 dX5_countAhead_6 rfl rfl ?_
  refine r_getr (r := 29) (pc := 7) hC dX5_countAhead_7 fl_RX5_33 lX_37 rfl ?_
  refine r_getr (r := 33) (pc := 10) hC dX5_countAhead_10 fl_RX5_127 lX_29 rfl ?_
  refine r_iload_n (pc := 13) hC 1 dX5_countAhead_13 rfl rfl ?_
  refine r_lald (v := ((w.2 33) (Int.toNat a1))) (pc := 14) hC dX5_countAhead_14 lX_33 h.1.1 h.1.2 rfl ?_
  have h := h.2
  refine r_callVi (pc := 15) hC [aL ((w.2 33) (Int.toNat a1))] [] dX5_countAhead_15 ml_RX5_76 my_X2_worthOf mi_X2_worthOf lX_18 rfl rfl ⟨Nat.le_of_ble_eq_true rfl, Nat.le_of_ble_eq_true rfl⟩ ⟨Nat.le_of_ble_eq_true rfl, Nat.le_of_ble_eq_true rfl⟩ (Nat.le_of_ble_eq_true rfl) rfl (s_Query_worthOf l _ _ _ h) (fun r1 w1 hq => ?_)
  obtain ⟨e9, h⟩ := hq
  rw [e9]
  refine r_istore_n (ls2 := [some (aR 37), some (aI a1), some (aI 0), some (aI r1), none, none]) (pc := 18) hC 3 dX5_countAhead_18 rfl (by decide) rfl rfl ?_
  refine r_iconst (pc := 19) hC dX5_countAhead_19 (rng_lit rfl) ?_
  refine r_istore (ls2 := [some (aR 37), some (aI a1), some (aI 0), some (aI r1), some (aI 0), none]) (pc := 20) hC dX5_countAhead_20 (by decide) rfl rfl ?_
  obtain ⟨I1, μ1, hI1, hB1⟩ := h
  have S1 : ∀ (nn : Nat) (x2 : Int) (x3 : Int), μ1 x2 x3 < nn → I1 x2 x3 → Wd p l e (rmD 2) s m args below meth c Q 0 0 6 D cA ad A LX w 22 [some (aR 37), some (aI a1), some (aI x2), some (aI r1), some (aI x3), none] [] := by
    intro nn
    induction nn with
    | zero => intro x2 x3 hn; exact absurd hn (Nat.not_lt_zero _)
    | succ nn ih1 =>
      intro x2 x3 hn1 hi
      have h := hB1 x2 x3 hi
      refine r_iload (pc := 22) hC dX5_countAhead_22 rfl ?_
      refine r_aload_n (pc := 24) hC 0 dX5_countAhead_24 rfl rfl ?_
      refine r_getr (r := 3) (pc := 25) hC dX5_countAhead_25 fl_RX5_25 lX_37 rfl ?_
      refine r_get (kd := 0) (v := (w.1 3 17)) (pc := 28) hC dX5_countAhead_28 fl_RX5_57 lX_3 rfl rfl ?_
      refine r_ic_ge (pc := 31) (tgt := 80) hC dX5_countAhead_31 rfl (fun hc4 => ?_) (fun hc4 => ?_)
      · have h := h.1 hc4
        refine r_iload_n (pc := 80) hC 2 dX5_countAhead_80 rfl rfl ?_
        exact r_reti (pc := 81) (kd := 0) hC hQ dX5_countAhead_81 hr hk (by decide) (Or.inl rfl) ⟨rfl, h⟩
      have h := h.2 hc4
      refine r_aload_n (pc := 34) hC 0 dX5_countAhead_34 rfl rfl ?_
      refine r_getr (r := 18) (pc := 35) hC dX5_countAhead_35 fl_RX5_29 lX_37 rfl ?_
      refine r_aload_n (pc := 38) hC 0 dX5_countAhead_38 rfl rfl ?_
      refine r_getr (r := 29) (pc := 39) hC dX5_countAhead_39 fl_RX5_33 lX_37 rfl ?_
      refine r_getr (r := 33) (pc := 42) hC dX5_countAhead_42 fl_RX5_127 lX_29 rfl ?_
      refine r_iload (pc := 45) hC dX5_countAhead_45 rfl ?_
      refine r_lald (v := ((w.2 33) (Int.toNat x3))) (pc := 47) hC dX5_countAhead_47 lX_33 h.1.1 h.1.2 rfl ?_
      have h := h.2
      refine r_callVi (pc := 48) hC [aL ((w.2 33) (Int.toNat x3))] [] dX5_countAhead_48 ml_RX5_76 my_X2_worthOf mi_X2_worthOf lX_18 rfl rfl ⟨Nat.le_of_ble_eq_true rfl, Nat.le_of_ble_eq_true rfl⟩ ⟨Nat.le_of_ble_eq_true rfl, Nat.le_of_ble_eq_true rfl⟩ (Nat.le_of_ble_eq_true rfl) rfl (s_Query_worthOf l _ _ _ h) (fun r4 w1 hq => ?_)
      obtain ⟨e9, h⟩ := hq
      rw [e9]
      refine r_istore (ls2 := [some (aR 37), some (aI a1), some (aI x2), some (aI r1), some (aI x3), some (aI r4)]) (pc := 51) hC dX5_countAhead_51 (by decide) rfl rfl ?_
      refine r_iload (pc := 53) hC dX5_countAhead_53 rfl ?_
      refine r_iload_n (pc := 55) hC 3 dX5_countAhead_55 rfl rfl ?_
      obtain ⟨J2, hJ2, h⟩ := h
      have S2 : ∀ (x5 : Int), J2 x5 → Wd p l e (rmD 2) s m args below meth c Q 0 0 6 D cA ad A LX w 74 [some (aR 37), some (aI a1), some (aI x5), some (aI r1), some (aI x3), none] [] := by
        intro x5 hj
        have h := hJ2 x5 hj
        refine r_iinc (ls2 := [some (aR 37), some (aI a1), some (aI x5), some (aI r1), some (aI (x3 + 1)), none]) (pc := 74) hC dX5_countAhead_74 rfl (by decide) rfl h.1 rfl ?_
        have h := h.2
        refine r_goto (tgt := 22) (pc := 77) hC dX5_countAhead_77 rfl ?_
        exact r_to [true, true, true, true, true, false] rfl rfl (ih1 x5 (x3 + 1) (Nat.lt_of_lt_of_le h.2 (Nat.le_of_lt_succ hn1)) h.1)
      obtain ⟨J3, hJ3, h⟩ := h
      have S3 : J3 → Wd p l e (rmD 2) s m args below meth c Q 0 0 6 D cA ad A LX w 71 [some (aR 37), some (aI a1), some (aI x2), some (aI r1), some (aI x3), none] [] := by
        intro hj
        have h := hJ3 hj
        refine r_iinc (ls2 := [some (aR 37), some (aI a1), some (aI (x2 + 1)), some (aI r1), some (aI x3), none]) (pc := 71) hC dX5_countAhead_71 rfl (by decide) rfl h.1 rfl ?_
        have h := h.2
        exact r_to [true, true, true, true, true, false] rfl rfl (S2 (x2 + 1) h)
      refine r_ic_gt (pc := 56) (tgt := 71) hC dX5_countAhead_56 rfl (fun hc3 => ?_) (fun hc3 => ?_)
      · have h := h.1 hc3
        exact r_to [true, true, true, true, true, false] rfl rfl (S3 h)
      have h := h.2 hc3
      refine r_iload (pc := 59) hC dX5_countAhead_59 rfl ?_
      refine r_iload_n (pc := 61) hC 3 dX5_countAhead_61 rfl rfl ?_
      refine r_ic_ne (pc := 62) (tgt := 74) hC dX5_countAhead_62 rfl (fun hc2 => ?_) (fun hc2 => ?_)
      · have h := h.1 hc2
        exact r_to [true, true, true, true, true, false] rfl rfl (S2 x2 h)
      have h := h.2 hc2
      refine r_iload (pc := 65) hC dX5_countAhead_65 rfl ?_
      refine r_iload_n (pc := 67) hC 1 dX5_countAhead_67 rfl rfl ?_
      refine r_ic_ge (pc := 68) (tgt := 74) hC dX5_countAhead_68 rfl (fun hc1 => ?_) (fun hc1 => ?_)
      · have h := h.1 hc1
        exact r_to [true, true, true, true, true, false] rfl rfl (S2 x2 h)
      have h := h.2 hc1
      exact r_to [true, true, true, true, true, false] rfl rfl (S3 h)
  exact r_to [true, true, true, true, true, false] rfl rfl (S1 _ 0 0 (Nat.lt_succ_self _) hI1)
def wp_Sets_ranked (qy_weights : (Nat → Int)) (pg_sentences : Int) (qy_items : Int) (mt_tallies : (Nat → Int64)) (a1 : Int) (Q : Int → Prop) : Prop := lpw1 (fun (x1 : Int) (k1 : Int → Prop) => (pg_sentences ≤ x1 → Q (-1)) ∧ (¬ pg_sentences ≤ x1 → wp_Sets_countAhead qy_weights pg_sentences qy_items mt_tallies x1 (fun (r2 : Int) => (¬ r2 = a1 → (rng (x1 + 1)) ∧ (k1 (x1 + 1))) ∧ (r2 = a1 → Q x1)))) 0
set_option maxHeartbeats 4000000 in
set_option maxRecDepth 20000 in
theorem s_Sets_ranked (l : Launch) (w : St) (a1 : Int) (P : Int → Prop) (h : wp_Sets_ranked (w.1 19) (w.1 3 17) (w.1 18 6) (w.2 33) a1 P) : Cn l yX5_ranked cX5_ranked 3 (some .int) 3 LX w [aR 37, aI a1] (okI (fun r w1 => w1 = w ∧ P r)) := by
  unfold wp_Sets_ranked at h
  refine Cn.of2 [some (aR 37), some (aI a1), none] (by decide) (Nat.le_of_ble_eq_true rfl) rfl (fun p e s m args below meth c D cA ad A Q hQ hC hr hk => ?_)
  refine r_iconst (pc := 0) hC dX5_ranked_0 (rng_lit rfl) ?_
  refine r_istore_n (ls2 := [some (aR 37), some (aI a1), some (aI 0)]) (pc := 1) hC 2 dX5_ranked_1 rfl (by decide) rfl rfl ?_
  obtain ⟨I1, μ1, hI1, hB1⟩ := h
  have S1 : ∀ (nn : Nat) (x1 : Int), μ1 x1 < nn → I1 x1 → Wd p l e (rmD 3) s m args below meth c Q 0 0 3 D cA ad A LX w 2 [some (aR 37), some (aI a1), some (aI x1)] [] := by
    intro nn
    induction nn with
    | zero => intro x1 hn; exact absurd hn (Nat.not_lt_zero _)
    | succ nn ih1 =>
      intro x1 hn1 hi
      have h := hB1 x1 hi
      refine r_iload_n (pc := 2) hC 2 dX5_ranked_2 rfl rfl ?_
      refine r_aload_n (pc := 3) hC 0 dX5_ranked_3 rfl rfl ?_
      refine r_getr (r := 3) (pc := 4) hC dX5_ranked_4 fl_RX5_25 lX_37 rfl ?_
      refine r_get (kd := 0) (v := (w.1 3 17)) (pc := 7) hC dX5_ranked_7 fl_RX5_57 lX_3 rfl rfl ?_
      refine r_ic_ge (pc := 10) (tgt := 30) hC dX5_ranked_10 rfl (fun hc2 => ?_) (fun hc2 => ?_)
      · have h := h.1 hc2
        refine r_iconst (pc := 30) hC dX5_ranked_30 (rng_lit rfl) ?_
        exact r_reti (pc := 31) (kd := 0) hC hQ dX5_ranked_31 hr hk (by decide) (Or.inl rfl) ⟨rfl, h⟩
      have h := h.2 hc2
      refine r_aload_n (pc := 13) hC 0 dX5_ranked_13 rfl rfl ?_
      refine r_iload_n (pc := 14) hC 2 dX5_ranked_14 rfl rfl ?_
      refine r_callVi (pc := 15) hC [aI x1] [] dX5_ranked_15 ml_RX5_165 my_X5_countAhead mi_X5_countAhead lX_37 rfl rfl ⟨Nat.le_of_ble_eq_true rfl, Nat.le_of_ble_eq_true rfl⟩ ⟨Nat.le_of_ble_eq_true rfl, Nat.le_of_ble_eq_true rfl⟩ (Nat.le_of_ble_eq_true rfl) rfl (s_Sets_countAhead l _ _ _ h) (fun r2 w1 hq => ?_)
      obtain ⟨e9, h⟩ := hq
      rw [e9]
      refine r_iload_n (pc := 18) hC 1 dX5_ranked_18 rfl rfl ?_
      refine r_ic_ne (pc := 19) (tgt := 24) hC dX5_ranked_19 rfl (fun hc1 => ?_) (fun hc1 => ?_)
      · have h := h.1 hc1
        refine r_iinc (ls2 := [some (aR 37), some (aI a1), some (aI (x1 + 1))]) (pc := 24) hC dX5_ranked_24 rfl (by decide) rfl h.1 rfl ?_
        have h := h.2
        refine r_goto (tgt := 2) (pc := 27) hC dX5_ranked_27 rfl ?_
        exact r_to [true, true, true] rfl rfl (ih1 (x1 + 1) (Nat.lt_of_lt_of_le h.2 (Nat.le_of_lt_succ hn1)) h.1)
      have h := h.2 hc1
      refine r_iload_n (pc := 22) hC 2 dX5_ranked_22 rfl rfl ?_
      exact r_reti (pc := 23) (kd := 0) hC hQ dX5_ranked_23 hr hk (by decide) (Or.inl rfl) ⟨rfl, h⟩
  exact r_to [true, true, true] rfl rfl (S1 _ 0 (Nat.lt_succ_self _) hI1)
def wp_Tape_append (tp_bytes : (Nat → Int)) (tp_length : Int) (a1 : Int) (Q : (Nat → Int) → Int → Prop) : Prop := lpw3 (fun (tp_bytes_1 : (Nat → Int)) (tp_length_2 : Int) (x3 : Int) (k1 : (Nat → Int) → Int → Int → Prop) => (x3 < 0 → Q tp_bytes_1 tp_length_2) ∧ (¬ x3 < 0 → (600 ≤ tp_length_2 → Q tp_bytes_1 tp_length_2) ∧ (¬ 600 ≤ tp_length_2 → (0 ≤ tp_length_2 ∧ tp_length_2 < 600) ∧ ((rng (tp_length_2 + 1)) ∧ ((rng (x3 + (-8))) ∧ (k1 (uI tp_bytes_1 tp_length_2 (iAnd (iUshr a1 x3) 255)) (tp_length_2 + 1) (x3 + (-8)))))))) tp_bytes tp_length 24
set_option maxHeartbeats 4000000 in
set_option maxRecDepth 20000 in
theorem s_Tape_append (l : Launch) (w : St) (a1 : Int) (P : (Nat → Int) → Int → Prop) (h : wp_Tape_append (w.1 2) (w.1 1 1) a1 P) : Cn l yX6_append cX6_append 3 none 0 LX w [aR 1, aI a1] (okV (fun w1 => ∃ (o0 : (Nat → Int)) (o1 : Int), w1 = (wI (wA w 2 o0) 1 1 o1) ∧ P o0 o1)) := by
  unfold wp_Tape_append at h
  refine Cn.of2 [some (aR 1), some (aI a1), none] (by decide) (Nat.le_of_ble_eq_true rfl) rfl (fun p e s m args below meth c D cA ad A Q hQ hC hr hk => ?_)
  refine r_bipush (pc := 0) hC dX6_append_0 ⟨rfl, rng_lit rfl⟩ ?_
  refine r_istore_n (ls2 := [some (aR 1), some (aI a1), some (aI 24)]) (pc := 2) hC 2 dX6_append_2 rfl (by decide) rfl rfl ?_
  obtain ⟨I1, μ1, hI1, hB1⟩ := h
  have S1 : ∀ (nn : Nat) (tp_bytes_1 : (Nat → Int)) (tp_length_2 : Int) (x3 : Int), μ1 tp_bytes_1 tp_length_2 x3 < nn → I1 tp_bytes_1 tp_length_2 x3 → Wd p l e (rmD 0) s m args below meth c Q 0 0 3 D cA ad A LX (wI (wA w 2 tp_bytes_1) 1 1 tp_length_2) 3 [some (aR 1), some (aI a1), some (aI x3)] [] := by
    intro nn
    induction nn with
    | zero => intro tp_bytes_1 tp_length_2 x3 hn; exact absurd hn (Nat.not_lt_zero _)
    | succ nn ih1 =>
      intro tp_bytes_1 tp_length_2 x3 hn1 hi
      have h := hB1 tp_bytes_1 tp_length_2 x3 hi
      refine r_iload_n (pc := 3) hC 2 dX6_append_3 rfl rfl ?_
      refine r_if_lt (pc := 4) (tgt := 49) hC dX6_append_4 rfl (fun hc2 => ?_) (fun hc2 => ?_)
      · have h := h.1 hc2
        refine r_conv (w2 := (wI (wA w 2 tp_bytes_1) 1 1 tp_length_2)) rfl ?_
        exact r_retv (pc := 49) hC hQ dX6_append_49 hr hk ⟨tp_bytes_1, tp_length_2, rfl, h⟩
      have h := h.2 hc2
      refine r_aload_n (pc := 7) hC 0 dX6_append_7 rfl rfl ?_
      refine r_get (kd := 0) (v := tp_length_2) (pc := 8) hC dX6_append_8 fl_RX6_15 lX_1 rfl rfl ?_
      refine r_sipush (pc := 11) hC dX6_append_11 ⟨rfl, rng_lit rfl⟩ ?_
      refine r_ic_ge (pc := 14) (tgt := 49) hC dX6_append_14 rfl (fun hc1 => ?_) (fun hc1 => ?_)
      · have h := h.1 hc1
        refine r_conv (w2 := (wI (wA w 2 tp_bytes_1) 1 1 tp_length_2)) rfl ?_
        exact r_retv (pc := 49) hC hQ dX6_append_49 hr hk ⟨tp_bytes_1, tp_length_2, rfl, h⟩
      have h := h.2 hc1
      refine r_aload_n (pc := 17) hC 0 dX6_append_17 rfl rfl ?_
      refine r_getr (r := 2) (pc := 18) hC dX6_append_18 fl_RX6_9 lX_1 rfl ?_
      refine r_aload_n (pc := 21) hC 0 dX6_append_21 rfl rfl ?_
      refine r_get (kd := 0) (v := tp_length_2) (pc := 22) hC dX6_append_22 fl_RX6_15 lX_1 rfl rfl ?_
      refine r_iload_n (pc := 25) hC 1 dX6_append_25 rfl rfl ?_
      refine r_iload_n (pc := 26) hC 2 dX6_append_26 rfl rfl ?_
      refine r_iushr (pc := 27) hC dX6_append_27 ?_
      refine r_sipush (pc := 28) hC dX6_append_28 ⟨rfl, rng_lit rfl⟩ ?_
      refine r_iand (pc := 31) hC dX6_append_31 ?_
      refine r_iast (pc := 32) hC dX6_append_32 lX_2 h.1.1 h.1.2 ?_
      have h := h.2
      refine r_aload_n (pc := 33) hC 0 dX6_append_33 rfl rfl ?_
      refine r_dup (pc := 34) hC dX6_append_34 rfl ?_
      refine r_get (kd := 0) (v := tp_length_2) (pc := 35) hC dX6_append_35 fl_RX6_15 lX_1 rfl rfl ?_
      refine r_iconst (pc := 38) hC dX6_append_38 (rng_lit rfl) ?_
      refine r_iadd (pc := 39) hC dX6_append_39 h.1 ?_
      have h := h.2
      refine r_put (kd := 0) (pc := 40) hC dX6_append_40 pl_RX6_15 lX_1 rfl (by decide) (Or.inl rfl) ?_
      refine r_iinc (ls2 := [some (aR 1), some (aI a1), some (aI (x3 + (-8)))]) (pc := 43) hC dX6_append_43 rfl (by decide) rfl h.1 rfl ?_
      have h := h.2
      refine r_goto (tgt := 3) (pc := 46) hC dX6_append_46 rfl ?_
      exact r_to [true, true, true] rfl rfl (ih1 (uI tp_bytes_1 tp_length_2 (iAnd (iUshr a1 x3) 255)) (tp_length_2 + 1) (x3 + (-8)) (Nat.lt_of_lt_of_le h.2 (Nat.le_of_lt_succ hn1)) h.1)
  exact r_to [true, true, true] rfl rfl (S1 _ (w.1 2) (w.1 1 1) 24 (Nat.lt_succ_self _) hI1)
def wp_Windows_forget (wi_first : Int) (wi_last : Int) (wi_worth : Int) (wi_whole : Int) (Q : Int → Int → Int → Int → Prop) : Prop := Q (-1) (-1) 0 0
set_option maxHeartbeats 4000000 in
set_option maxRecDepth 20000 in
theorem s_Windows_forget (l : Launch) (w : St) (P : Int → Int → Int → Int → Prop) (h : wp_Windows_forget (w.1 34 5) (w.1 34 6) (w.1 34 7) (w.1 34 8) P) : Cn l yX7_forget cX7_forget 1 none 0 LX w [aR 34] (okV (fun w1 => ∃ (o0 : Int) (o1 : Int) (o2 : Int) (o3 : Int), w1 = (wI (wI (wI (wI w 34 5 o0) 34 6 o1) 34 7 o2) 34 8 o3) ∧ P o0 o1 o2 o3)) := by
  unfold wp_Windows_forget at h
  refine Cn.of2 [some (aR 34)] (by decide) (Nat.le_of_ble_eq_true rfl) rfl (fun p e s m args below meth c D cA ad A Q hQ hC hr hk => ?_)
  refine r_aload_n (pc := 0) hC 0 dX7_forget_0 rfl rfl ?_
  refine r_iconst (pc := 1) hC dX7_forget_1 (rng_lit rfl) ?_
  refine r_put (kd := 0) (pc := 2) hC dX7_forget_2 pl_RX7_30 lX_34 rfl (by decide) (Or.inl rfl) ?_
  refine r_aload_n (pc := 5) hC 0 dX7_forget_5 rfl rfl ?_
  refine r_iconst (pc := 6) hC dX7_forget_6 (rng_lit rfl) ?_
  refine r_put (kd := 0) (pc := 7) hC dX7_forget_7 pl_RX7_34 lX_34 rfl (by decide) (Or.inl rfl) ?_
  refine r_aload_n (pc := 10) hC 0 dX7_forget_10 rfl rfl ?_
  refine r_iconst (pc := 11) hC dX7_forget_11 (rng_lit rfl) ?_
  refine r_put (kd := 0) (pc := 12) hC dX7_forget_12 pl_RX7_37 lX_34 rfl (by decide) (Or.inl rfl) ?_
  refine r_aload_n (pc := 15) hC 0 dX7_forget_15 rfl rfl ?_
  refine r_iconst (pc := 16) hC dX7_forget_16 (rng_lit rfl) ?_
  refine r_put (kd := 1) (pc := 17) hC dX7_forget_17 pl_RX7_40 lX_34 rfl (by decide) (Or.inr okK1_0) ?_
  refine r_conv (w2 := (wI (wI (wI (wI w 34 5 (-1)) 34 6 (-1)) 34 7 0) 34 8 0)) rfl ?_
  exact r_retv (pc := 20) hC hQ dX7_forget_20 hr hk ⟨(-1), (-1), 0, 0, rfl, h⟩
def wp_Windows_found (pg_signAt : (Nat → Int)) (pg_wordBegin : (Nat → Int)) (pg_wordEnd : (Nat → Int)) (wi_first : Int) (wi_last : Int) (a1 : Int) (Q : Int → Prop) : Prop := (¬ wi_first = (-1) → (¬ a1 = 0 → (¬ a1 = 1 → wp_Page_windowLength pg_signAt pg_wordBegin pg_wordEnd wi_first wi_last (fun (r1 : Int) => Q r1)) ∧ (a1 = 1 → Q wi_last)) ∧ (a1 = 0 → Q wi_first)) ∧ (wi_first = (-1) → Q (-1))
set_option maxHeartbeats 4000000 in
set_option maxRecDepth 20000 in
theorem s_Windows_found (l : Launch) (w : St) (a1 : Int) (P : Int → Prop) (h : wp_Windows_found (w.1 6) (w.1 7) (w.1 8) (w.1 34 5) (w.1 34 6) a1 P) : Cn l yX7_found cX7_found 2 (some .int) 1 LX w [aR 34, aI a1] (okI (fun r w1 => w1 = w ∧ P r)) := by
  unfold wp_Windows_found at h
  refine Cn.of2 [some (aR 34), some (aI a1)] (by decide) (Nat.le_of_ble_eq_true rfl) rfl (fun p e s m args below meth c D cA ad A Q hQ hC hr hk => ?_)
  refine r_aload_n (pc := 0) hC 0 dX7_found_0 rfl rfl ?_
  refine r_get (kd := 0) (v := (w.1 34 5)) (pc := 1) hC dX7_found_1 fl_RX7_30 lX_34 rfl rfl ?_
  refine r_iconst (pc := 4) hC dX7_found_4 (rng_lit rfl) ?_
  refine r_ic_ne (pc := 5) (tgt := 10) hC dX7_found_5 rfl (fun hc3 => ?_) (fun hc3 => ?_)
  · have h := h.1 hc3
    refine r_iload_n (pc := 10) hC 1 dX7_found_10 rfl rfl ?_
    refine r_if_ne (pc := 11) (tgt := 19) hC dX7_found_11 rfl (fun hc2 => ?_) (fun hc2 => ?_)
    · have h := h.1 hc2
      refine r_iload_n (pc := 19) hC 1 dX7_found_19 rfl rfl ?_
      refine r_iconst (pc := 20) hC dX7_found_20 (rng_lit rfl) ?_
      refine r_ic_ne (pc := 21) (tgt := 31) hC dX7_found_21 rfl (fun hc1 => ?_) (fun hc1 => ?_)
      · have h := h.1 hc1
        refine r_aload_n (pc := 31) hC 0 dX7_found_31 rfl rfl ?_
        refine r_getr (r := 3) (pc := 32) hC dX7_found_32 fl_RX7_18 lX_34 rfl ?_
        refine r_aload_n (pc := 35) hC 0 dX7_found_35 rfl rfl ?_
        refine r_get (kd := 0) (v := (w.1 34 5)) (pc := 36) hC dX7_found_36 fl_RX7_30 lX_34 rfl rfl ?_
        refine r_aload_n (pc := 39) hC 0 dX7_found_39 rfl rfl ?_
        refine r_get (kd := 0) (v := (w.1 34 6)) (pc := 40) hC dX7_found_40 fl_RX7_34 lX_34 rfl rfl ?_
        refine r_callVi (pc := 43) hC [aI (w.1 34 5), aI (w.1 34 6)] [] dX7_found_43 ml_RX7_44 my_X1_windowLength mi_X1_windowLength lX_3 rfl rfl ⟨Nat.le_of_ble_eq_true rfl, Nat.le_of_ble_eq_true rfl⟩ ⟨Nat.le_of_ble_eq_true rfl, Nat.le_of_ble_eq_true rfl⟩ (Nat.le_of_ble_eq_true rfl) rfl (s_Page_windowLength l _ _ _ _ h) (fun r1 w1 hq => ?_)
        obtain ⟨e9, h⟩ := hq
        rw [e9]
        exact r_reti (pc := 46) (kd := 0) hC hQ dX7_found_46 hr hk (by decide) (Or.inl rfl) ⟨rfl, h⟩
      have h := h.2 hc1
      refine r_aload_n (pc := 24) hC 0 dX7_found_24 rfl rfl ?_
      refine r_get (kd := 0) (v := (w.1 34 6)) (pc := 25) hC dX7_found_25 fl_RX7_34 lX_34 rfl rfl ?_
      refine r_goto (tgt := 46) (pc := 28) hC dX7_found_28 rfl ?_
      exact r_reti (pc := 46) (kd := 0) hC hQ dX7_found_46 hr hk (by decide) (Or.inl rfl) ⟨rfl, h⟩
    have h := h.2 hc2
    refine r_aload_n (pc := 14) hC 0 dX7_found_14 rfl rfl ?_
    refine r_get (kd := 0) (v := (w.1 34 5)) (pc := 15) hC dX7_found_15 fl_RX7_30 lX_34 rfl rfl ?_
    exact r_reti (pc := 18) (kd := 0) hC hQ dX7_found_18 hr hk (by decide) (Or.inl rfl) ⟨rfl, h⟩
  have h := h.2 hc3
  refine r_iconst (pc := 8) hC dX7_found_8 (rng_lit rfl) ?_
  exact r_reti (pc := 9) (kd := 0) hC hQ dX7_found_9 hr hk (by decide) (Or.inl rfl) ⟨rfl, h⟩
def wp_JA_fill_35 (wi_nextEnds : (Nat → Int)) (a1 : Int) (Q : (Nat → Int) → Prop) : Prop := lpw2 (fun (wi_nextEnds_1 : (Nat → Int)) (x2 : Int) (k1 : (Nat → Int) → Int → Prop) => (8 ≤ x2 → Q wi_nextEnds_1) ∧ (¬ 8 ≤ x2 → (0 ≤ x2 ∧ x2 < 8) ∧ ((rng (x2 + 1)) ∧ (k1 (uI wi_nextEnds_1 x2 a1) (x2 + 1))))) wi_nextEnds 0
set_option maxHeartbeats 4000000 in
set_option maxRecDepth 20000 in
theorem s_JA_fill_35 (l : Launch) (w : St) (a1 : Int) (P : (Nat → Int) → Prop) (h : wp_JA_fill_35 (w.1 35) a1 P) : Cn l yJ7_fill_53178 cJ7_fill_53178 4 none 0 LX w [aR 35, aI a1] (okV (fun w1 => ∃ (o0 : (Nat → Int)), w1 = (wA w 35 o0) ∧ P o0)) := by
  unfold wp_JA_fill_35 at h
  refine Cn.of2 [some (aR 35), some (aI a1), none, none] (by decide) (Nat.le_of_ble_eq_true rfl) rfl (fun p e s m args below meth c D cA ad A Q hQ hC hr hk => ?_)
  refine r_iconst (pc := 0) hC dJ7_fill_53178_0 (rng_lit rfl) ?_
  refine r_istore_n (ls2 := [some (aR 35), some (aI a1), some (aI 0), none]) (pc := 1) hC 2 dJ7_fill_53178_1 rfl (by decide) rfl rfl ?_
  refine r_aload_n (pc := 2) hC 0 dJ7_fill_53178_2 rfl rfl ?_
  refine r_alen (pc := 3) hC dJ7_fill_53178_3 lX_35 (by decide) (by decide) ?_
  refine r_istore_n (ls2 := [some (aR 35), some (aI a1), some (aI 0), some (aI 8)]) (pc := 4) hC 3 dJ7_fill_53178_4 rfl (by decide) rfl rfl ?_
  obtain ⟨I1, μ1, hI1, hB1⟩ := h
  have S1 : ∀ (nn : Nat) (wi_nextEnds_1 : (Nat → Int)) (x2 : Int), μ1 wi_nextEnds_1 x2 < nn → I1 wi_nextEnds_1 x2 → Wd p l e (rmD 0) s m args below meth c Q 0 0 4 D cA ad A LX (wA w 35 wi_nextEnds_1) 5 [some (aR 35), some (aI a1), some (aI x2), some (aI 8)] [] := by
    intro nn
    induction nn with
    | zero => intro wi_nextEnds_1 x2 hn; exact absurd hn (Nat.not_lt_zero _)
    | succ nn ih1 =>
      intro wi_nextEnds_1 x2 hn1 hi
      have h := hB1 wi_nextEnds_1 x2 hi
      refine r_iload_n (pc := 5) hC 2 dJ7_fill_53178_5 rfl rfl ?_
      refine r_iload_n (pc := 6) hC 3 dJ7_fill_53178_6 rfl rfl ?_
      refine r_ic_ge (pc := 7) (tgt := 20) hC dJ7_fill_53178_7 rfl (fun hc1 => ?_) (fun hc1 => ?_)
      · have h := h.1 hc1
        refine r_conv (w2 := (wA w 35 wi_nextEnds_1)) rfl ?_
        exact r_retv (pc := 20) hC hQ dJ7_fill_53178_20 hr hk ⟨wi_nextEnds_1, rfl, h⟩
      have h := h.2 hc1
      refine r_aload_n (pc := 10) hC 0 dJ7_fill_53178_10 rfl rfl ?_
      refine r_iload_n (pc := 11) hC 2 dJ7_fill_53178_11 rfl rfl ?_
      refine r_iload_n (pc := 12) hC 1 dJ7_fill_53178_12 rfl rfl ?_
      refine r_iast (pc := 13) hC dJ7_fill_53178_13 lX_35 h.1.1 h.1.2 ?_
      have h := h.2
      refine r_iinc (ls2 := [some (aR 35), some (aI a1), some (aI (x2 + 1)), some (aI 8)]) (pc := 14) hC dJ7_fill_53178_14 rfl (by decide) rfl h.1 rfl ?_
      have h := h.2
      refine r_goto (tgt := 5) (pc := 17) hC dJ7_fill_53178_17 rfl ?_
      exact r_to [true, true, true, true] rfl rfl (ih1 (uI wi_nextEnds_1 x2 a1) (x2 + 1) (Nat.lt_of_lt_of_le h.2 (Nat.le_of_lt_succ hn1)) h.1)
  exact r_to [true, true, true, true] rfl rfl (S1 _ (w.1 35) 0 (Nat.lt_succ_self _) hI1)
