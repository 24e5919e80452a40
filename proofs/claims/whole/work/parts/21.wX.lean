def wp_Matches_tallyOf (pg_sentences : Int) (mt_tallies : (Nat → Int64)) (a1 : Int) (Q : Int64 → Prop) : Prop := lpw2 (fun (x1 : Int64) (x2 : Int) (k1 : Int64 → Int → Prop) => (pg_sentences ≤ x2 → Q x1) ∧ (¬ pg_sentences ≤ x2 → wp_Picker_has a1 x2 (fun (r3 : Int) => jn1 (fun (J2 : Int64 → Prop) => (r3 = 0 → J2 0) ∧ (¬ r3 = 0 → (0 ≤ x2 ∧ x2 < 14) ∧ (J2 (mt_tallies (Int.toNat x2))))) (fun (y4 : Int64) => (rng (x2 + 1)) ∧ (k1 (x1 + y4) (x2 + 1)))))) 0 0
set_option maxHeartbeats 4000000 in
set_option maxRecDepth 20000 in
theorem s_Matches_tallyOf (l : Launch) (w : St) (a1 : Int) (P : Int64 → Prop) (h : wp_Matches_tallyOf (w.1 3 17) (w.2 33) a1 P) : Cn l yX0_tallyOf cX0_tallyOf 5 (some .long) 1 LX w [aR 29, aI a1] (okJ (fun r w1 => w1 = w ∧ P r)) := by
  unfold wp_Matches_tallyOf at h
  refine Cn.of2 [some (aR 29), some (aI a1), none, none, none] (by decide) (Nat.le_of_ble_eq_true rfl) rfl (fun p e s m args below meth c D cA ad A Q hQ hC hr hk => ?_)
  refine r_lconst (x := 0) (pc := 0) hC dX0_tallyOf_0 rfl ?_
  refine r_lstore_n (ls2 := [some (aR 29), some (aI a1), some (aL 0), none, none]) (pc := 1) hC 2 dX0_tallyOf_1 rfl (by decide) rfl rfl ?_
  refine r_iconst (pc := 2) hC dX0_tallyOf_2 (rng_lit rfl) ?_
  refine r_istore (ls2 := [some (aR 29), some (aI a1), some (aL 0), none, some (aI 0)]) (pc := 3) hC dX0_tallyOf_3 (by decide) rfl rfl ?_
  obtain ⟨I1, μ1, hI1, hB1⟩ := h
  have S1 : ∀ (nn : Nat) (x1 : Int64) (x2 : Int), μ1 x1 x2 < nn → I1 x1 x2 → Wd p l e (rmD 1) s m args below meth c Q 0 0 5 D cA ad A LX w 5 [some (aR 29), some (aI a1), some (aL x1), none, some (aI x2)] [] := by
    intro nn
    induction nn with
    | zero => intro x1 x2 hn; exact absurd hn (Nat.not_lt_zero _)
    | succ nn ih1 =>
      intro x1 x2 hn1 hi
      have h := hB1 x1 x2 hi
      refine r_iload (pc := 5) hC dX0_tallyOf_5 rfl ?_
      refine r_aload_n (pc := 7) hC 0 dX0_tallyOf_7 rfl rfl ?_
      refine r_getr (r := 3) (pc := 8) hC dX0_tallyOf_8 fl_RX0_25 lX_29 rfl ?_
      refine r_get (kd := 0) (v := (w.1 3 17)) (pc := 11) hC dX0_tallyOf_11 fl_RX0_111 lX_3 rfl rfl ?_
      refine r_ic_ge (pc := 14) (tgt := 46) hC dX0_tallyOf_14 rfl (fun hc2 => ?_) (fun hc2 => ?_)
      · have h := h.1 hc2
        refine r_lload_n (pc := 46) hC 2 dX0_tallyOf_46 rfl rfl ?_
        exact r_retl (pc := 47) hC hQ dX0_tallyOf_47 hr hk ⟨rfl, h⟩
      have h := h.2 hc2
      refine r_lload_n (pc := 17) hC 2 dX0_tallyOf_17 rfl rfl ?_
      refine r_iload_n (pc := 18) hC 1 dX0_tallyOf_18 rfl rfl ?_
      refine r_iload (pc := 19) hC dX0_tallyOf_19 rfl ?_
      refine r_callSNi (pc := 21) hC [aI a1, aI x2] [aL x1] dX0_tallyOf_21 nl_RX0_90 my_X9_has ms_X9_has rfl ⟨Nat.le_of_ble_eq_true rfl, Nat.le_of_ble_eq_true rfl⟩ ⟨Nat.le_of_ble_eq_true rfl, Nat.le_of_ble_eq_true rfl⟩ (Nat.le_of_ble_eq_true rfl) rfl (s_Picker_has l _ _ _ _ h) (fun r3 w1 hq => ?_)
      obtain ⟨e9, h⟩ := hq
      rw [e9]
      obtain ⟨J2, hJ2, h⟩ := h
      have S2 : ∀ (y4 : Int64), J2 y4 → Wd p l e (rmD 1) s m args below meth c Q 0 0 5 D cA ad A LX w 38 [some (aR 29), some (aI a1), none, none, some (aI x2)] [aL y4, aL x1] := by
        intro y4 hj
        have h := hJ2 y4 hj
        refine r_ladd (pc := 38) hC dX0_tallyOf_38 ?_
        refine r_lstore_n (ls2 := [some (aR 29), some (aI a1), some (aL (x1 + y4)), none, some (aI x2)]) (pc := 39) hC 2 dX0_tallyOf_39 rfl (by decide) rfl rfl ?_
        refine r_iinc (ls2 := [some (aR 29), some (aI a1), some (aL (x1 + y4)), none, some (aI (x2 + 1))]) (pc := 40) hC dX0_tallyOf_40 rfl (by decide) rfl h.1 rfl ?_
        have h := h.2
        refine r_goto (tgt := 5) (pc := 43) hC dX0_tallyOf_43 rfl ?_
        exact r_to [true, true, true, false, true] rfl rfl (ih1 (x1 + y4) (x2 + 1) (Nat.lt_of_lt_of_le h.2 (Nat.le_of_lt_succ hn1)) h.1)
      refine r_if_eq (pc := 24) (tgt := 37) hC dX0_tallyOf_24 rfl (fun hc1 => ?_) (fun hc1 => ?_)
      · have h := h.1 hc1
        refine r_lconst (x := 0) (pc := 37) hC dX0_tallyOf_37 rfl ?_
        exact r_to [true, true, false, false, true] rfl rfl (S2 0 h)
      have h := h.2 hc1
      refine r_aload_n (pc := 27) hC 0 dX0_tallyOf_27 rfl rfl ?_
      refine r_getr (r := 33) (pc := 28) hC dX0_tallyOf_28 fl_RX0_21 lX_29 rfl ?_
      refine r_iload (pc := 31) hC dX0_tallyOf_31 rfl ?_
      refine r_lald (v := ((w.2 33) (Int.toNat x2))) (pc := 33) hC dX0_tallyOf_33 lX_33 h.1.1 h.1.2 rfl ?_
      have h := h.2
      refine r_goto (tgt := 38) (pc := 34) hC dX0_tallyOf_34 rfl ?_
      exact r_to [true, true, false, false, true] rfl rfl (S2 ((w.2 33) (Int.toNat x2)) h)
  exact r_to [true, true, true, false, true] rfl rfl (S1 _ 0 0 (Nat.lt_succ_self _) hI1)
def wp_Tape_at (tp_bytes : (Nat → Int)) (tp_length : Int) (a1 : Int) (Q : Int → Prop) : Prop := jn0 (fun (J1 : Prop) => (a1 < 0 → J1) ∧ (¬ a1 < 0 → (a1 < tp_length → (0 ≤ a1 ∧ a1 < 600) ∧ (Q (tp_bytes (Int.toNat a1)))) ∧ (¬ a1 < tp_length → J1))) (Q (-1))
set_option maxHeartbeats 4000000 in
set_option maxRecDepth 20000 in
theorem s_Tape_at (l : Launch) (w : St) (a1 : Int) (P : Int → Prop) (h : wp_Tape_at (w.1 2) (w.1 1 1) a1 P) : Cn l yX6_at cX6_at 2 (some .int) 0 LX w [aR 1, aI a1] (okI (fun r w1 => w1 = w ∧ P r)) := by
  unfold wp_Tape_at at h
  refine Cn.of2 [some (aR 1), some (aI a1)] (by decide) (Nat.le_of_ble_eq_true rfl) rfl (fun p e s m args below meth c D cA ad A Q hQ hC hr hk => ?_)
  refine r_iload_n (pc := 0) hC 1 dX6_at_0 rfl rfl ?_
  obtain ⟨J1, hJ1, h⟩ := h
  have S1 : J1 → Wd p l e (rmD 0) s m args below meth c Q 0 0 2 D cA ad A LX w 12 [none, none] [] := by
    intro hj
    have h := hJ1 hj
    refine r_iconst (pc := 12) hC dX6_at_12 (rng_lit rfl) ?_
    refine r_goto (tgt := 22) (pc := 13) hC dX6_at_13 rfl ?_
    exact r_reti (pc := 22) (kd := 0) hC hQ dX6_at_22 hr hk (by decide) (Or.inl rfl) ⟨rfl, h⟩
  refine r_if_lt (pc := 1) (tgt := 12) hC dX6_at_1 rfl (fun hc2 => ?_) (fun hc2 => ?_)
  · have h := h.1 hc2
    exact r_to [false, false] rfl rfl (S1 h)
  have h := h.2 hc2
  refine r_iload_n (pc := 4) hC 1 dX6_at_4 rfl rfl ?_
  refine r_aload_n (pc := 5) hC 0 dX6_at_5 rfl rfl ?_
  refine r_get (kd := 0) (v := (w.1 1 1)) (pc := 6) hC dX6_at_6 fl_RX6_15 lX_1 rfl rfl ?_
  refine r_ic_lt (pc := 9) (tgt := 16) hC dX6_at_9 rfl (fun hc1 => ?_) (fun hc1 => ?_)
  · have h := h.1 hc1
    refine r_aload_n (pc := 16) hC 0 dX6_at_16 rfl rfl ?_
    refine r_getr (r := 2) (pc := 17) hC dX6_at_17 fl_RX6_9 lX_1 rfl ?_
    refine r_iload_n (pc := 20) hC 1 dX6_at_20 rfl rfl ?_
    refine r_iald (v := ((w.1 2) (Int.toNat a1))) (pc := 21) hC dX6_at_21 lX_2 h.1.1 h.1.2 rfl ?_
    have h := h.2
    exact r_reti (pc := 22) (kd := 0) hC hQ dX6_at_22 hr hk (by decide) (Or.inl rfl) ⟨rfl, h⟩
  have h := h.2 hc1
  exact r_to [false, false] rfl rfl (S1 h)
def wp_Page_isSecondOfPair (pg_bytes : (Nat → Int)) (pg_length : Int) (a1 : Int) (Q : Int → Prop) : Prop := wp_Page_at pg_bytes pg_length a1 (fun (r1 : Int) => (r1 < 128 → Q 0) ∧ (¬ r1 < 128 → wp_Page_at pg_bytes pg_length a1 (fun (r2 : Int) => (191 < r2 → Q 0) ∧ (¬ 191 < r2 → (rng (a1 - 1)) ∧ (wp_Page_at pg_bytes pg_length (a1 - 1) (fun (r3 : Int) => (r3 < 192 → Q 0) ∧ (¬ r3 < 192 → Q 1)))))))
set_option maxHeartbeats 4000000 in
set_option maxRecDepth 20000 in
theorem s_Page_isSecondOfPair (l : Launch) (w : St) (a1 : Int) (P : Int → Prop) (h : wp_Page_isSecondOfPair (w.1 4) (w.1 3 14) a1 P) : Cn l yX1_isSecondOfPair cX1_isSecondOfPair 2 (some .boolean) 1 LX w [aR 3, aI a1] (okI (fun r w1 => w1 = w ∧ P r)) := by
  unfold wp_Page_isSecondOfPair at h
  refine Cn.of2 [some (aR 3), some (aI a1)] (by decide) (Nat.le_of_ble_eq_true rfl) rfl (fun p e s m args below meth c D cA ad A Q hQ hC hr hk => ?_)
  refine r_aload_n (pc := 0) hC 0 dX1_isSecondOfPair_0 rfl rfl ?_
  refine r_iload_n (pc := 1) hC 1 dX1_isSecondOfPair_1 rfl rfl ?_
  refine r_callVi (pc := 2) hC [aI a1] [] dX1_isSecondOfPair_2 ml_RX1_82 my_X1_at mi_X1_at lX_3 rfl rfl ⟨Nat.le_of_ble_eq_true rfl, Nat.le_of_ble_eq_true rfl⟩ ⟨Nat.le_of_ble_eq_true rfl, Nat.le_of_ble_eq_true rfl⟩ (Nat.le_of_ble_eq_true rfl) rfl (s_Page_at l _ _ _ h) (fun r1 w1 hq => ?_)
  obtain ⟨e9, h⟩ := hq
  rw [e9]
  refine r_sipush (pc := 5) hC dX1_isSecondOfPair_5 ⟨rfl, rng_lit rfl⟩ ?_
  refine r_ic_lt (pc := 8) (tgt := 39) hC dX1_isSecondOfPair_8 rfl (fun hc3 => ?_) (fun hc3 => ?_)
  · have h := h.1 hc3
    refine r_iconst (pc := 39) hC dX1_isSecondOfPair_39 (rng_lit rfl) ?_
    exact r_reti (pc := 40) (kd := 1) hC hQ dX1_isSecondOfPair_40 hr hk (by decide) (Or.inr okK1_0) ⟨rfl, h⟩
  have h := h.2 hc3
  refine r_aload_n (pc := 11) hC 0 dX1_isSecondOfPair_11 rfl rfl ?_
  refine r_iload_n (pc := 12) hC 1 dX1_isSecondOfPair_12 rfl rfl ?_
  refine r_callVi (pc := 13) hC [aI a1] [] dX1_isSecondOfPair_13 ml_RX1_82 my_X1_at mi_X1_at lX_3 rfl rfl ⟨Nat.le_of_ble_eq_true rfl, Nat.le_of_ble_eq_true rfl⟩ ⟨Nat.le_of_ble_eq_true rfl, Nat.le_of_ble_eq_true rfl⟩ (Nat.le_of_ble_eq_true rfl) rfl (s_Page_at l _ _ _ h) (fun r2 w1 hq => ?_)
  obtain ⟨e9, h⟩ := hq
  rw [e9]
  refine r_sipush (pc := 16) hC dX1_isSecondOfPair_16 ⟨rfl, rng_lit rfl⟩ ?_
  refine r_ic_gt (pc := 19) (tgt := 39) hC dX1_isSecondOfPair_19 rfl (fun hc2 => ?_) (fun hc2 => ?_)
  · have h := h.1 hc2
    refine r_iconst (pc := 39) hC dX1_isSecondOfPair_39 (rng_lit rfl) ?_
    exact r_reti (pc := 40) (kd := 1) hC hQ dX1_isSecondOfPair_40 hr hk (by decide) (Or.inr okK1_0) ⟨rfl, h⟩
  have h := h.2 hc2
  refine r_aload_n (pc := 22) hC 0 dX1_isSecondOfPair_22 rfl rfl ?_
  refine r_iload_n (pc := 23) hC 1 dX1_isSecondOfPair_23 rfl rfl ?_
  refine r_iconst (pc := 24) hC dX1_isSecondOfPair_24 (rng_lit rfl) ?_
  refine r_isub (pc := 25) hC dX1_isSecondOfPair_25 h.1 ?_
  have h := h.2
  refine r_callVi (pc := 26) hC [aI (a1 - 1)] [] dX1_isSecondOfPair_26 ml_RX1_82 my_X1_at mi_X1_at lX_3 rfl rfl ⟨Nat.le_of_ble_eq_true rfl, Nat.le_of_ble_eq_true rfl⟩ ⟨Nat.le_of_ble_eq_true rfl, Nat.le_of_ble_eq_true rfl⟩ (Nat.le_of_ble_eq_true rfl) rfl (s_Page_at l _ _ _ h) (fun r3 w1 hq => ?_)
  obtain ⟨e9, h⟩ := hq
  rw [e9]
  refine r_sipush (pc := 29) hC dX1_isSecondOfPair_29 ⟨rfl, rng_lit rfl⟩ ?_
  refine r_ic_lt (pc := 32) (tgt := 39) hC dX1_isSecondOfPair_32 rfl (fun hc1 => ?_) (fun hc1 => ?_)
  · have h := h.1 hc1
    refine r_iconst (pc := 39) hC dX1_isSecondOfPair_39 (rng_lit rfl) ?_
    exact r_reti (pc := 40) (kd := 1) hC hQ dX1_isSecondOfPair_40 hr hk (by decide) (Or.inr okK1_0) ⟨rfl, h⟩
  have h := h.2 hc1
  refine r_iconst (pc := 35) hC dX1_isSecondOfPair_35 (rng_lit rfl) ?_
  refine r_goto (tgt := 40) (pc := 36) hC dX1_isSecondOfPair_36 rfl ?_
  exact r_reti (pc := 40) (kd := 1) hC hQ dX1_isSecondOfPair_40 hr hk (by decide) (Or.inr okK1_1) ⟨rfl, h⟩
def wp_Picker_isSmallLetter (a0 : Int) (Q : Int → Prop) : Prop := (a0 < 97 → Q 0) ∧ (¬ a0 < 97 → (122 < a0 → Q 0) ∧ (¬ 122 < a0 → Q 1))
set_option maxHeartbeats 4000000 in
set_option maxRecDepth 20000 in
theorem s_Picker_isSmallLetter (l : Launch) (w : St) (a0 : Int) (P : Int → Prop) (h : wp_Picker_isSmallLetter a0 P) : Cn l yX9_isSmallLetter cX9_isSmallLetter 1 (some .boolean) 0 LX w [aI a0] (okI (fun r w1 => w1 = w ∧ P r)) := by
  unfold wp_Picker_isSmallLetter at h
  refine Cn.of2 [some (aI a0)] (by decide) (Nat.le_of_ble_eq_true rfl) rfl (fun p e s m args below meth c D cA ad A Q hQ hC hr hk => ?_)
  refine r_iload_n (pc := 0) hC 0 dX9_isSmallLetter_0 rfl rfl ?_
  refine r_bipush (pc := 1) hC dX9_isSmallLetter_1 ⟨rfl, rng_lit rfl⟩ ?_
  refine r_ic_lt (pc := 3) (tgt := 16) hC dX9_isSmallLetter_3 rfl (fun hc2 => ?_) (fun hc2 => ?_)
  · have h := h.1 hc2
    refine r_iconst (pc := 16) hC dX9_isSmallLetter_16 (rng_lit rfl) ?_
    exact r_reti (pc := 17) (kd := 1) hC hQ dX9_isSmallLetter_17 hr hk (by decide) (Or.inr okK1_0) ⟨rfl, h⟩
  have h := h.2 hc2
  refine r_iload_n (pc := 6) hC 0 dX9_isSmallLetter_6 rfl rfl ?_
  refine r_bipush (pc := 7) hC dX9_isSmallLetter_7 ⟨rfl, rng_lit rfl⟩ ?_
  refine r_ic_gt (pc := 9) (tgt := 16) hC dX9_isSmallLetter_9 rfl (fun hc1 => ?_) (fun hc1 => ?_)
  · have h := h.1 hc1
    refine r_iconst (pc := 16) hC dX9_isSmallLetter_16 (rng_lit rfl) ?_
    exact r_reti (pc := 17) (kd := 1) hC hQ dX9_isSmallLetter_17 hr hk (by decide) (Or.inr okK1_0) ⟨rfl, h⟩
  have h := h.2 hc1
  refine r_iconst (pc := 12) hC dX9_isSmallLetter_12 (rng_lit rfl) ?_
  refine r_goto (tgt := 17) (pc := 13) hC dX9_isSmallLetter_13 rfl ?_
  exact r_reti (pc := 17) (kd := 1) hC hQ dX9_isSmallLetter_17 hr hk (by decide) (Or.inr okK1_1) ⟨rfl, h⟩
def wp_Page_findSigns (pg_bytes : (Nat → Int)) (pg_letterAt : (Nat → Int)) (pg_signAt : (Nat → Int)) (pg_length : Int) (pg_signs : Int) (Q : (Nat → Int) → (Nat → Int) → Int → Prop) : Prop := lpw4 (fun (pg_letterAt_1 : (Nat → Int)) (pg_signAt_2 : (Nat → Int)) (pg_signs_3 : Int) (x4 : Int) (k1 : (Nat → Int) → (Nat → Int) → Int → Int → Prop) => (pg_length ≤ x4 → (0 ≤ pg_length ∧ pg_length < 601) ∧ (Q pg_letterAt_1 (uI pg_signAt_2 pg_length pg_signs_3) pg_signs_3)) ∧ (¬ pg_length ≤ x4 → wp_Page_isSecondOfPair pg_bytes pg_length x4 (fun (r5 : Int) => jn1 (fun (J2 : Int → Prop) => (¬ r5 = 0 → J2 pg_signs_3) ∧ (r5 = 0 → (rng (pg_signs_3 + 1)) ∧ (J2 (pg_signs_3 + 1)))) (fun (pg_signs_6 : Int) => (rng (pg_signs_6 - 1)) ∧ ((0 ≤ x4 ∧ x4 < 601) ∧ (wp_Page_at pg_bytes pg_length x4 (fun (r7 : Int) => wp_Picker_small r7 (fun (r8 : Int) => wp_Picker_isSmallLetter r8 (fun (r9 : Int) => jn1 (fun (J3 : Int → Prop) => jn0 (fun (J4 : Prop) => (¬ r9 = 0 → J4) ∧ (r9 = 0 → wp_Page_isSecondOfPair pg_bytes pg_length x4 (fun (r11 : Int) => (¬ r11 = 0 → J4) ∧ (r11 = 0 → (rng (x4 + 1)) ∧ (wp_Page_isSecondOfPair pg_bytes pg_length (x4 + 1) (fun (r12 : Int) => (r12 = 0 → J3 0) ∧ (¬ r12 = 0 → J4))))))) (J3 1)) (fun (y10 : Int) => ((0 ≤ x4 ∧ x4 < 600) ∧ 0 ≤ y10 ∧ y10 ≤ 1) ∧ ((rng (x4 + 1)) ∧ (k1 (uI pg_letterAt_1 x4 y10) (uI pg_signAt_2 x4 (pg_signs_6 - 1)) pg_signs_6 (x4 + 1))))))))))))) pg_letterAt pg_signAt 0 0
set_option maxHeartbeats 4000000 in
set_option maxRecDepth 20000 in
theorem s_Page_findSigns (l : Launch) (w : St) (P : (Nat → Int) → (Nat → Int) → Int → Prop) (h : wp_Page_findSigns (w.1 4) (w.1 5) (w.1 6) (w.1 3 14) (w.1 3 15) P) : Cn l yX1_findSigns cX1_findSigns 2 none 2 LX w [aR 3] (okV (fun w1 => ∃ (o0 : (Nat → Int)) (o1 : (Nat → Int)) (o2 : Int), w1 = (wI (wA (wA w 5 o0) 6 o1) 3 15 o2) ∧ P o0 o1 o2)) := by
  unfold wp_Page_findSigns at h
  refine Cn.of2 [some (aR 3), none] (by decide) (Nat.le_of_ble_eq_true rfl) rfl (fun p e s m args below meth c D cA ad A Q hQ hC hr hk => ?_)
  refine r_aload_n (pc := 0) hC 0 dX1_findSigns_0 rfl rfl ?_
  refine r_iconst (pc := 1) hC dX1_findSigns_1 (rng_lit rfl) ?_
  refine r_put (kd := 0) (pc := 2) hC dX1_findSigns_2 pl_RX1_83 lX_3 rfl (by decide) (Or.inl rfl) ?_
  refine r_iconst (pc := 5) hC dX1_findSigns_5 (rng_lit rfl) ?_
  refine r_istore_n (ls2 := [some (aR 3), some (aI 0)]) (pc := 6) hC 1 dX1_findSigns_6 rfl (by decide) rfl rfl ?_
  obtain ⟨I1, μ1, hI1, hB1⟩ := h
  have S1 : ∀ (nn : Nat) (pg_letterAt_1 : (Nat → Int)) (pg_signAt_2 : (Nat → Int)) (pg_signs_3 : Int) (x4 : Int), μ1 pg_letterAt_1 pg_signAt_2 pg_signs_3 x4 < nn → I1 pg_letterAt_1 pg_signAt_2 pg_signs_3 x4 → Wd p l e (rmD 2) s m args below meth c Q 0 0 2 D cA ad A LX (wI (wA (wA w 5 pg_letterAt_1) 6 pg_signAt_2) 3 15 pg_signs_3) 7 [some (aR 3), some (aI x4)] [] := by
    intro nn
    induction nn with
    | zero => intro pg_letterAt_1 pg_signAt_2 pg_signs_3 x4 hn; exact absurd hn (Nat.not_lt_zero _)
    | succ nn ih1 =>
      intro pg_letterAt_1 pg_signAt_2 pg_signs_3 x4 hn1 hi
      have h := hB1 pg_letterAt_1 pg_signAt_2 pg_signs_3 x4 hi
      refine r_iload_n (pc := 7) hC 1 dX1_findSigns_7 rfl rfl ?_
      refine r_aload_n (pc := 8) hC 0 dX1_findSigns_8 rfl rfl ?_
      refine r_get (kd := 0) (v := (w.1 3 14)) (pc := 9) hC dX1_findSigns_9 fl_RX1_62 lX_3 rfl rfl ?_
      refine r_ic_ge (pc := 12) (tgt := 94) hC dX1_findSigns_12 rfl (fun hc5 => ?_) (fun hc5 => ?_)
      · have h := h.1 hc5
        refine r_aload_n (pc := 94) hC 0 dX1_findSigns_94 rfl rfl ?_
        refine r_getr (r := 6) (pc := 95) hC dX1_findSigns_95 fl_RX1_19 lX_3 rfl ?_
        refine r_aload_n (pc := 98) hC 0 dX1_findSigns_98 rfl rfl ?_
        refine r_get (kd := 0) (v := (w.1 3 14)) (pc := 99) hC dX1_findSigns_99 fl_RX1_62 lX_3 rfl rfl ?_
        refine r_aload_n (pc := 102) hC 0 dX1_findSigns_102 rfl rfl ?_
        refine r_get (kd := 0) (v := pg_signs_3) (pc := 103) hC dX1_findSigns_103 fl_RX1_83 lX_3 rfl rfl ?_
        refine r_iast (pc := 106) hC dX1_findSigns_106 lX_6 h.1.1 h.1.2 ?_
        have h := h.2
        refine r_conv (w2 := (wI (wA (wA w 5 pg_letterAt_1) 6 (uI pg_signAt_2 (w.1 3 14) pg_signs_3)) 3 15 pg_signs_3)) rfl ?_
        exact r_retv (pc := 107) hC hQ dX1_findSigns_107 hr hk ⟨pg_letterAt_1, (uI pg_signAt_2 (w.1 3 14) pg_signs_3), pg_signs_3, rfl, h⟩
      have h := h.2 hc5
      refine r_aload_n (pc := 15) hC 0 dX1_findSigns_15 rfl rfl ?_
      refine r_iload_n (pc := 16) hC 1 dX1_findSigns_16 rfl rfl ?_
      refine r_callVi (pc := 17) hC [aI x4] [] dX1_findSigns_17 ml_RX1_86 my_X1_isSecondOfPair mi_X1_isSecondOfPair lX_3 rfl rfl ⟨Nat.le_of_ble_eq_true rfl, Nat.le_of_ble_eq_true rfl⟩ ⟨Nat.le_of_ble_eq_true rfl, Nat.le_of_ble_eq_true rfl⟩ (Nat.le_of_ble_eq_true rfl) rfl (s_Page_isSecondOfPair l _ _ _ h) (fun r5 w1 hq => ?_)
      obtain ⟨e9, h⟩ := hq
      rw [e9]
      obtain ⟨J2, hJ2, h⟩ := h
      have S2 : ∀ (pg_signs_6 : Int), J2 pg_signs_6 → Wd p l e (rmD 2) s m args below meth c Q 0 0 2 D cA ad A LX (wI (wA (wA w 5 pg_letterAt_1) 6 pg_signAt_2) 3 15 pg_signs_6) 33 [some (aR 3), some (aI x4)] [] := by
        intro pg_signs_6 hj
        have h := hJ2 pg_signs_6 hj
        refine r_aload_n (pc := 33) hC 0 dX1_findSigns_33 rfl rfl ?_
        refine r_getr (r := 6) (pc := 34) hC dX1_findSigns_34 fl_RX1_19 lX_3 rfl ?_
        refine r_iload_n (pc := 37) hC 1 dX1_findSigns_37 rfl rfl ?_
        refine r_aload_n (pc := 38) hC 0 dX1_findSigns_38 rfl rfl ?_
        refine r_get (kd := 0) (v := pg_signs_6) (pc := 39) hC dX1_findSigns_39 fl_RX1_83 lX_3 rfl rfl ?_
        refine r_iconst (pc := 42) hC dX1_findSigns_42 (rng_lit rfl) ?_
        refine r_isub (pc := 43) hC dX1_findSigns_43 h.1 ?_
        have h := h.2
        refine r_iast (pc := 44) hC dX1_findSigns_44 lX_6 h.1.1 h.1.2 ?_
        have h := h.2
        refine r_aload_n (pc := 45) hC 0 dX1_findSigns_45 rfl rfl ?_
        refine r_getr (r := 5) (pc := 46) hC dX1_findSigns_46 fl_RX1_15 lX_3 rfl ?_
        refine r_iload_n (pc := 49) hC 1 dX1_findSigns_49 rfl rfl ?_
        refine r_aload_n (pc := 50) hC 0 dX1_findSigns_50 rfl rfl ?_
        refine r_iload_n (pc := 51) hC 1 dX1_findSigns_51 rfl rfl ?_
        refine r_callVi (pc := 52) hC [aI x4] [aI x4, aR 5] dX1_findSigns_52 ml_RX1_82 my_X1_at mi_X1_at lX_3 rfl rfl ⟨Nat.le_of_ble_eq_true rfl, Nat.le_of_ble_eq_true rfl⟩ ⟨Nat.le_of_ble_eq_true rfl, Nat.le_of_ble_eq_true rfl⟩ (Nat.le_of_ble_eq_true rfl) rfl (s_Page_at l _ _ _ h) (fun r7 w1 hq => ?_)
        obtain ⟨e9, h⟩ := hq
        rw [e9]
        refine r_callSNi (pc := 55) hC [aI r7] [aI x4, aR 5] dX1_findSigns_55 nl_RX1_90 my_X9_small ms_X9_small rfl ⟨Nat.le_of_ble_eq_true rfl, Nat.le_of_ble_eq_true rfl⟩ ⟨Nat.le_of_ble_eq_true rfl, Nat.le_of_ble_eq_true rfl⟩ (Nat.le_of_ble_eq_true rfl) rfl (s_Picker_small l _ _ _ h) (fun r8 w1 hq => ?_)
        obtain ⟨e9, h⟩ := hq
        rw [e9]
        refine r_callSNi (pc := 58) hC [aI r8] [aI x4, aR 5] dX1_findSigns_58 nl_RX1_93 my_X9_isSmallLetter ms_X9_isSmallLetter rfl ⟨Nat.le_of_ble_eq_true rfl, Nat.le_of_ble_eq_true rfl⟩ ⟨Nat.le_of_ble_eq_true rfl, Nat.le_of_ble_eq_true rfl⟩ (Nat.le_of_ble_eq_true rfl) rfl (s_Picker_isSmallLetter l _ _ _ h) (fun r9 w1 hq => ?_)
        obtain ⟨e9, h⟩ := hq
        rw [e9]
        obtain ⟨J3, hJ3, h⟩ := h
        have S3 : ∀ (y10 : Int), J3 y10 → Wd p l e (rmD 2) s m args below meth c Q 0 0 2 D cA ad A LX (wI (wA (wA w 5 pg_letterAt_1) 6 (uI pg_signAt_2 x4 (pg_signs_6 - 1))) 3 15 pg_signs_6) 87 [some (aR 3), some (aI x4)] [aI y10, aI x4, aR 5] := by
          intro y10 hj
          have h := hJ3 y10 hj
          refine r_zast (pc := 87) hC dX1_findSigns_87 lX_5 h.1.1.1 h.1.1.2 h.1.2 ?_
          have h := h.2
          refine r_iinc (ls2 := [some (aR 3), some (aI (x4 + 1))]) (pc := 88) hC dX1_findSigns_88 rfl (by decide) rfl h.1 rfl ?_
          have h := h.2
          refine r_goto (tgt := 7) (pc := 91) hC dX1_findSigns_91 rfl ?_
          exact r_to [true, true] rfl rfl (ih1 (uI pg_letterAt_1 x4 y10) (uI pg_signAt_2 x4 (pg_signs_6 - 1)) pg_signs_6 (x4 + 1) (Nat.lt_of_lt_of_le h.2 (Nat.le_of_lt_succ hn1)) h.1)
        obtain ⟨J4, hJ4, h⟩ := h
        have S4 : J4 → Wd p l e (rmD 2) s m args below meth c Q 0 0 2 D cA ad A LX (wI (wA (wA w 5 pg_letterAt_1) 6 (uI pg_signAt_2 x4 (pg_signs_6 - 1))) 3 15 pg_signs_6) 82 [some (aR 3), some (aI x4)] [aI x4, aR 5] := by
          intro hj
          have h := hJ4 hj
          refine r_iconst (pc := 82) hC dX1_findSigns_82 (rng_lit rfl) ?_
          refine r_goto (tgt := 87) (pc := 83) hC dX1_findSigns_83 rfl ?_
          exact r_to [true, true] rfl rfl (S3 1 h)
        refine r_if_ne (pc := 61) (tgt := 82) hC dX1_findSigns_61 rfl (fun hc3 => ?_) (fun hc3 => ?_)
        · have h := h.1 hc3
          exact r_to [true, true] rfl rfl (S4 h)
        have h := h.2 hc3
        refine r_aload_n (pc := 64) hC 0 dX1_findSigns_64 rfl rfl ?_
        refine r_iload_n (pc := 65) hC 1 dX1_findSigns_65 rfl rfl ?_
        refine r_callVi (pc := 66) hC [aI x4] [aI x4, aR 5] dX1_findSigns_66 ml_RX1_86 my_X1_isSecondOfPair mi_X1_isSecondOfPair lX_3 rfl rfl ⟨Nat.le_of_ble_eq_true rfl, Nat.le_of_ble_eq_true rfl⟩ ⟨Nat.le_of_ble_eq_true rfl, Nat.le_of_ble_eq_true rfl⟩ (Nat.le_of_ble_eq_true rfl) rfl (s_Page_isSecondOfPair l _ _ _ h) (fun r11 w1 hq => ?_)
        obtain ⟨e9, h⟩ := hq
        rw [e9]
        refine r_if_ne (pc := 69) (tgt := 82) hC dX1_findSigns_69 rfl (fun hc2 => ?_) (fun hc2 => ?_)
        · have h := h.1 hc2
          exact r_to [true, true] rfl rfl (S4 h)
        have h := h.2 hc2
        refine r_aload_n (pc := 72) hC 0 dX1_findSigns_72 rfl rfl ?_
        refine r_iload_n (pc := 73) hC 1 dX1_findSigns_73 rfl rfl ?_
        refine r_iconst (pc := 74) hC dX1_findSigns_74 (rng_lit rfl) ?_
        refine r_iadd (pc := 75) hC dX1_findSigns_75 h.1 ?_
        have h := h.2
        refine r_callVi (pc := 76) hC [aI (x4 + 1)] [aI x4, aR 5] dX1_findSigns_76 ml_RX1_86 my_X1_isSecondOfPair mi_X1_isSecondOfPair lX_3 rfl rfl ⟨Nat.le_of_ble_eq_true rfl, Nat.le_of_ble_eq_true rfl⟩ ⟨Nat.le_of_ble_eq_true rfl, Nat.le_of_ble_eq_true rfl⟩ (Nat.le_of_ble_eq_true rfl) rfl (s_Page_isSecondOfPair l _ _ _ h) (fun r12 w1 hq => ?_)
        obtain ⟨e9, h⟩ := hq
        rw [e9]
        refine r_if_eq (pc := 79) (tgt := 86) hC dX1_findSigns_79 rfl (fun hc1 => ?_) (fun hc1 => ?_)
        · have h := h.1 hc1
          refine r_iconst (pc := 86) hC dX1_findSigns_86 (rng_lit rfl) ?_
          exact r_to [true, true] rfl rfl (S3 0 h)
        have h := h.2 hc1
        exact r_to [true, true] rfl rfl (S4 h)
      refine r_if_ne (pc := 20) (tgt := 33) hC dX1_findSigns_20 rfl (fun hc4 => ?_) (fun hc4 => ?_)
      · have h := h.1 hc4
        exact r_to [true, true] rfl rfl (S2 pg_signs_3 h)
      have h := h.2 hc4
      refine r_aload_n (pc := 23) hC 0 dX1_findSigns_23 rfl rfl ?_
      refine r_dup (pc := 24) hC dX1_findSigns_24 rfl ?_
      refine r_get (kd := 0) (v := pg_signs_3) (pc := 25) hC dX1_findSigns_25 fl_RX1_83 lX_3 rfl rfl ?_
      refine r_iconst (pc := 28) hC dX1_findSigns_28 (rng_lit rfl) ?_
      refine r_iadd (pc := 29) hC dX1_findSigns_29 h.1 ?_
      have h := h.2
      refine r_put (kd := 0) (pc := 30) hC dX1_findSigns_30 pl_RX1_83 lX_3 rfl (by decide) (Or.inl rfl) ?_
      exact r_to [true, true] rfl rfl (S2 (pg_signs_3 + 1) h)
  exact r_to [true, true] rfl rfl (S1 _ (w.1 5) (w.1 6) 0 0 (Nat.lt_succ_self _) hI1)
def wp_Picker_isBlank (a0 : Int) (Q : Int → Prop) : Prop := jn0 (fun (J1 : Prop) => (a0 = 9 → J1) ∧ (¬ a0 = 9 → (a0 = 10 → J1) ∧ (¬ a0 = 10 → (¬ a0 = 32 → Q 0) ∧ (a0 = 32 → J1)))) (Q 1)
set_option maxHeartbeats 4000000 in
set_option maxRecDepth 20000 in
theorem s_Picker_isBlank (l : Launch) (w : St) (a0 : Int) (P : Int → Prop) (h : wp_Picker_isBlank a0 P) : Cn l yX9_isBlank cX9_isBlank 1 (some .boolean) 0 LX w [aI a0] (okI (fun r w1 => w1 = w ∧ P r)) := by
  unfold wp_Picker_isBlank at h
  refine Cn.of2 [some (aI a0)] (by decide) (Nat.le_of_ble_eq_true rfl) rfl (fun p e s m args below meth c D cA ad A Q hQ hC hr hk => ?_)
  refine r_iload_n (pc := 0) hC 0 dX9_isBlank_0 rfl rfl ?_
  refine r_bipush (pc := 1) hC dX9_isBlank_1 ⟨rfl, rng_lit rfl⟩ ?_
  obtain ⟨J1, hJ1, h⟩ := h
  have S1 : J1 → Wd p l e (rmD 0) s m args below meth c Q 0 0 1 D cA ad A LX w 18 [none] [] := by
    intro hj
    have h := hJ1 hj
    refine r_iconst (pc := 18) hC dX9_isBlank_18 (rng_lit rfl) ?_
    refine r_goto (tgt := 23) (pc := 19) hC dX9_isBlank_19 rfl ?_
    exact r_reti (pc := 23) (kd := 1) hC hQ dX9_isBlank_23 hr hk (by decide) (Or.inr okK1_1) ⟨rfl, h⟩
  refine r_ic_eq (pc := 3) (tgt := 18) hC dX9_isBlank_3 rfl (fun hc3 => ?_) (fun hc3 => ?_)
  · have h := h.1 hc3
    exact r_to [false] rfl rfl (S1 h)
  have h := h.2 hc3
  refine r_iload_n (pc := 6) hC 0 dX9_isBlank_6 rfl rfl ?_
  refine r_bipush (pc := 7) hC dX9_isBlank_7 ⟨rfl, rng_lit rfl⟩ ?_
  refine r_ic_eq (pc := 9) (tgt := 18) hC dX9_isBlank_9 rfl (fun hc2 => ?_) (fun hc2 => ?_)
  · have h := h.1 hc2
    exact r_to [false] rfl rfl (S1 h)
  have h := h.2 hc2
  refine r_iload_n (pc := 12) hC 0 dX9_isBlank_12 rfl rfl ?_
  refine r_bipush (pc := 13) hC dX9_isBlank_13 ⟨rfl, rng_lit rfl⟩ ?_
  refine r_ic_ne (pc := 15) (tgt := 22) hC dX9_isBlank_15 rfl (fun hc1 => ?_) (fun hc1 => ?_)
  · have h := h.1 hc1
    refine r_iconst (pc := 22) hC dX9_isBlank_22 (rng_lit rfl) ?_
    exact r_reti (pc := 23) (kd := 1) hC hQ dX9_isBlank_23 hr hk (by decide) (Or.inr okK1_0) ⟨rfl, h⟩
  have h := h.2 hc1
  exact r_to [false] rfl rfl (S1 h)
def wp_Page_firstNotBlank (pg_bytes : (Nat → Int)) (pg_length : Int) (a1 : Int) (Q : Int → Prop) : Prop := lpw1 (fun (x1 : Int) (k1 : Int → Prop) => (pg_length ≤ x1 → Q pg_length) ∧ (¬ pg_length ≤ x1 → wp_Page_at pg_bytes pg_length x1 (fun (r2 : Int) => wp_Picker_isBlank r2 (fun (r3 : Int) => (¬ r3 = 0 → (rng (x1 + 1)) ∧ (k1 (x1 + 1))) ∧ (r3 = 0 → Q x1))))) a1
set_option maxHeartbeats 4000000 in
set_option maxRecDepth 20000 in
theorem s_Page_firstNotBlank (l : Launch) (w : St) (a1 : Int) (P : Int → Prop) (h : wp_Page_firstNotBlank (w.1 4) (w.1 3 14) a1 P) : Cn l yX1_firstNotBlank cX1_firstNotBlank 3 (some .int) 1 LX w [aR 3, aI a1] (okI (fun r w1 => w1 = w ∧ P r)) := by
  unfold wp_Page_firstNotBlank at h
  refine Cn.of2 [some (aR 3), some (aI a1), none] (by decide) (Nat.le_of_ble_eq_true rfl) rfl (fun p e s m args below meth c D cA ad A Q hQ hC hr hk => ?_)
  refine r_iload_n (pc := 0) hC 1 dX1_firstNotBlank_0 rfl rfl ?_
  refine r_istore_n (ls2 := [some (aR 3), some (aI a1), some (aI a1)]) (pc := 1) hC 2 dX1_firstNotBlank_1 rfl (by decide) rfl rfl ?_
  obtain ⟨I1, μ1, hI1, hB1⟩ := h
  have S1 : ∀ (nn : Nat) (x1 : Int), μ1 x1 < nn → I1 x1 → Wd p l e (rmD 1) s m args below meth c Q 0 0 3 D cA ad A LX w 2 [some (aR 3), none, some (aI x1)] [] := by
    intro nn
    induction nn with
    | zero => intro x1 hn; exact absurd hn (Nat.not_lt_zero _)
    | succ nn ih1 =>
      intro x1 hn1 hi
      have h := hB1 x1 hi
      refine r_iload_n (pc := 2) hC 2 dX1_firstNotBlank_2 rfl rfl ?_
      refine r_aload_n (pc := 3) hC 0 dX1_firstNotBlank_3 rfl rfl ?_
      refine r_get (kd := 0) (v := (w.1 3 14)) (pc := 4) hC dX1_firstNotBlank_4 fl_RX1_62 lX_3 rfl rfl ?_
      refine r_ic_ge (pc := 7) (tgt := 29) hC dX1_firstNotBlank_7 rfl (fun hc2 => ?_) (fun hc2 => ?_)
      · have h := h.1 hc2
        refine r_aload_n (pc := 29) hC 0 dX1_firstNotBlank_29 rfl rfl ?_
        refine r_get (kd := 0) (v := (w.1 3 14)) (pc := 30) hC dX1_firstNotBlank_30 fl_RX1_62 lX_3 rfl rfl ?_
        exact r_reti (pc := 33) (kd := 0) hC hQ dX1_firstNotBlank_33 hr hk (by decide) (Or.inl rfl) ⟨rfl, h⟩
      have h := h.2 hc2
      refine r_aload_n (pc := 10) hC 0 dX1_firstNotBlank_10 rfl rfl ?_
      refine r_iload_n (pc := 11) hC 2 dX1_firstNotBlank_11 rfl rfl ?_
      refine r_callVi (pc := 12) hC [aI x1] [] dX1_firstNotBlank_12 ml_RX1_82 my_X1_at mi_X1_at lX_3 rfl rfl ⟨Nat.le_of_ble_eq_true rfl, Nat.le_of_ble_eq_true rfl⟩ ⟨Nat.le_of_ble_eq_true rfl, Nat.le_of_ble_eq_true rfl⟩ (Nat.le_of_ble_eq_true rfl) rfl (s_Page_at l _ _ _ h) (fun r2 w1 hq => ?_)
      obtain ⟨e9, h⟩ := hq
      rw [e9]
      refine r_callSNi (pc := 15) hC [aI r2] [] dX1_firstNotBlank_15 nl_RX1_111 my_X9_isBlank ms_X9_isBlank rfl ⟨Nat.le_of_ble_eq_true rfl, Nat.le_of_ble_eq_true rfl⟩ ⟨Nat.le_of_ble_eq_true rfl, Nat.le_of_ble_eq_true rfl⟩ (Nat.le_of_ble_eq_true rfl) rfl (s_Picker_isBlank l _ _ _ h) (fun r3 w1 hq => ?_)
      obtain ⟨e9, h⟩ := hq
      rw [e9]
      refine r_if_ne (pc := 18) (tgt := 23) hC dX1_firstNotBlank_18 rfl (fun hc1 => ?_) (fun hc1 => ?_)
      · have h := h.1 hc1
        refine r_iinc (ls2 := [some (aR 3), none, some (aI (x1 + 1))]) (pc := 23) hC dX1_firstNotBlank_23 rfl (by decide) rfl h.1 rfl ?_
        have h := h.2
        refine r_goto (tgt := 2) (pc := 26) hC dX1_firstNotBlank_26 rfl ?_
        exact r_to [true, false, true] rfl rfl (ih1 (x1 + 1) (Nat.lt_of_lt_of_le h.2 (Nat.le_of_lt_succ hn1)) h.1)
      have h := h.2 hc1
      refine r_iload_n (pc := 21) hC 2 dX1_firstNotBlank_21 rfl rfl ?_
      exact r_reti (pc := 22) (kd := 0) hC hQ dX1_firstNotBlank_22 hr hk (by decide) (Or.inl rfl) ⟨rfl, h⟩
  exact r_to [true, false, true] rfl rfl (S1 _ a1 (Nat.lt_succ_self _) hI1)
def wp_Page_isStop (a1 : Int) (Q : Int → Prop) : Prop := jn0 (fun (J1 : Prop) => (a1 = 46 → J1) ∧ (¬ a1 = 46 → (a1 = 33 → J1) ∧ (¬ a1 = 33 → (¬ a1 = 63 → Q 0) ∧ (a1 = 63 → J1)))) (Q 1)
set_option maxHeartbeats 4000000 in
set_option maxRecDepth 20000 in
theorem s_Page_isStop (l : Launch) (w : St) (a1 : Int) (P : Int → Prop) (h : wp_Page_isStop a1 P) : Cn l yX1_isStop cX1_isStop 2 (some .boolean) 0 LX w [aR 3, aI a1] (okI (fun r w1 => w1 = w ∧ P r)) := by
  unfold wp_Page_isStop at h
  refine Cn.of2 [some (aR 3), some (aI a1)] (by decide) (Nat.le_of_ble_eq_true rfl) rfl (fun p e s m args below meth c D cA ad A Q hQ hC hr hk => ?_)
  refine r_iload_n (pc := 0) hC 1 dX1_isStop_0 rfl rfl ?_
  refine r_bipush (pc := 1) hC dX1_isStop_1 ⟨rfl, rng_lit rfl⟩ ?_
  obtain ⟨J1, hJ1, h⟩ := h
  have S1 : J1 → Wd p l e (rmD 0) s m args below meth c Q 0 0 2 D cA ad A LX w 18 [none, none] [] := by
    intro hj
    have h := hJ1 hj
    refine r_iconst (pc := 18) hC dX1_isStop_18 (rng_lit rfl) ?_
    refine r_goto (tgt := 23) (pc := 19) hC dX1_isStop_19 rfl ?_
    exact r_reti (pc := 23) (kd := 1) hC hQ dX1_isStop_23 hr hk (by decide) (Or.inr okK1_1) ⟨rfl, h⟩
  refine r_ic_eq (pc := 3) (tgt := 18) hC dX1_isStop_3 rfl (fun hc3 => ?_) (fun hc3 => ?_)
  · have h := h.1 hc3
    exact r_to [false, false] rfl rfl (S1 h)
  have h := h.2 hc3
  refine r_iload_n (pc := 6) hC 1 dX1_isStop_6 rfl rfl ?_
  refine r_bipush (pc := 7) hC dX1_isStop_7 ⟨rfl, rng_lit rfl⟩ ?_
  refine r_ic_eq (pc := 9) (tgt := 18) hC dX1_isStop_9 rfl (fun hc2 => ?_) (fun hc2 => ?_)
  · have h := h.1 hc2
    exact r_to [false, false] rfl rfl (S1 h)
  have h := h.2 hc2
  refine r_iload_n (pc := 12) hC 1 dX1_isStop_12 rfl rfl ?_
  refine r_bipush (pc := 13) hC dX1_isStop_13 ⟨rfl, rng_lit rfl⟩ ?_
  refine r_ic_ne (pc := 15) (tgt := 22) hC dX1_isStop_15 rfl (fun hc1 => ?_) (fun hc1 => ?_)
  · have h := h.1 hc1
    refine r_iconst (pc := 22) hC dX1_isStop_22 (rng_lit rfl) ?_
    exact r_reti (pc := 23) (kd := 1) hC hQ dX1_isStop_23 hr hk (by decide) (Or.inr okK1_0) ⟨rfl, h⟩
  have h := h.2 hc1
  exact r_to [false, false] rfl rfl (S1 h)
def wp_Page_isCloser (a1 : Int) (Q : Int → Prop) : Prop := wp_Page_isStop a1 (fun (r1 : Int) => jn0 (fun (J1 : Prop) => (¬ r1 = 0 → J1) ∧ (r1 = 0 → (a1 = 41 → J1) ∧ (¬ a1 = 41 → (¬ a1 = 34 → Q 0) ∧ (a1 = 34 → J1)))) (Q 1))
set_option maxHeartbeats 4000000 in
set_option maxRecDepth 20000 in
theorem s_Page_isCloser (l : Launch) (w : St) (a1 : Int) (P : Int → Prop) (h : wp_Page_isCloser a1 P) : Cn l yX1_isCloser cX1_isCloser 2 (some .boolean) 1 LX w [aR 3, aI a1] (okI (fun r w1 => w1 = w ∧ P r)) := by
  unfold wp_Page_isCloser at h
  refine Cn.of2 [some (aR 3), some (aI a1)] (by decide) (Nat.le_of_ble_eq_true rfl) rfl (fun p e s m args below meth c D cA ad A Q hQ hC hr hk => ?_)
  refine r_aload_n (pc := 0) hC 0 dX1_isCloser_0 rfl rfl ?_
  refine r_iload_n (pc := 1) hC 1 dX1_isCloser_1 rfl rfl ?_
  refine r_callVi (pc := 2) hC [aI a1] [] dX1_isCloser_2 ml_RX1_124 my_X1_isStop mi_X1_isStop lX_3 rfl rfl ⟨Nat.le_of_ble_eq_true rfl, Nat.le_of_ble_eq_true rfl⟩ ⟨Nat.le_of_ble_eq_true rfl, Nat.le_of_ble_eq_true rfl⟩ (Nat.le_of_ble_eq_true rfl) rfl (s_Page_isStop l _ _ _ h) (fun r1 w1 hq => ?_)
  obtain ⟨e9, h⟩ := hq
  rw [e9]
  obtain ⟨J1, hJ1, h⟩ := h
  have S1 : J1 → Wd p l e (rmD 1) s m args below meth c Q 0 0 2 D cA ad A LX w 20 [none, none] [] := by
    intro hj
    have h := hJ1 hj
    refine r_iconst (pc := 20) hC dX1_isCloser_20 (rng_lit rfl) ?_
    refine r_goto (tgt := 25) (pc := 21) hC dX1_isCloser_21 rfl ?_
    exact r_reti (pc := 25) (kd := 1) hC hQ dX1_isCloser_25 hr hk (by decide) (Or.inr okK1_1) ⟨rfl, h⟩
  refine r_if_ne (pc := 5) (tgt := 20) hC dX1_isCloser_5 rfl (fun hc3 => ?_) (fun hc3 => ?_)
  · have h := h.1 hc3
    exact r_to [false, false] rfl rfl (S1 h)
  have h := h.2 hc3
  refine r_iload_n (pc := 8) hC 1 dX1_isCloser_8 rfl rfl ?_
  refine r_bipush (pc := 9) hC dX1_isCloser_9 ⟨rfl, rng_lit rfl⟩ ?_
  refine r_ic_eq (pc := 11) (tgt := 20) hC dX1_isCloser_11 rfl (fun hc2 => ?_) (fun hc2 => ?_)
  · have h := h.1 hc2
    exact r_to [false, false] rfl rfl (S1 h)
  have h := h.2 hc2
  refine r_iload_n (pc := 14) hC 1 dX1_isCloser_14 rfl rfl ?_
  refine r_bipush (pc := 15) hC dX1_isCloser_15 ⟨rfl, rng_lit rfl⟩ ?_
  refine r_ic_ne (pc := 17) (tgt := 24) hC dX1_isCloser_17 rfl (fun hc1 => ?_) (fun hc1 => ?_)
  · have h := h.1 hc1
    refine r_iconst (pc := 24) hC dX1_isCloser_24 (rng_lit rfl) ?_
    exact r_reti (pc := 25) (kd := 1) hC hQ dX1_isCloser_25 hr hk (by decide) (Or.inr okK1_0) ⟨rfl, h⟩
  have h := h.2 hc1
  exact r_to [false, false] rfl rfl (S1 h)
def wp_Page_isLetter (pg_letterAt : (Nat → Int)) (pg_length : Int) (a1 : Int) (Q : Int → Prop) : Prop := (a1 < 0 → Q 0) ∧ (¬ a1 < 0 → (pg_length ≤ a1 → Q 0) ∧ (¬ pg_length ≤ a1 → (0 ≤ a1 ∧ a1 < 600) ∧ (((pg_letterAt (Int.toNat a1)) = 0 → Q 0) ∧ (¬ (pg_letterAt (Int.toNat a1)) = 0 → Q 1))))
set_option maxHeartbeats 4000000 in
set_option maxRecDepth 20000 in
theorem s_Page_isLetter (l : Launch) (w : St) (a1 : Int) (P : Int → Prop) (h : wp_Page_isLetter (w.1 5) (w.1 3 14) a1 P) : Cn l yX1_isLetter cX1_isLetter 2 (some .boolean) 0 LX w [aR 3, aI a1] (okI (fun r w1 => w1 = w ∧ P r)) := by
  unfold wp_Page_isLetter at h
  refine Cn.of2 [some (aR 3), some (aI a1)] (by decide) (Nat.le_of_ble_eq_true rfl) rfl (fun p e s m args below meth c D cA ad A Q hQ hC hr hk => ?_)
  refine r_iload_n (pc := 0) hC 1 dX1_isLetter_0 rfl rfl ?_
  refine r_if_lt (pc := 1) (tgt := 25) hC dX1_isLetter_1 rfl (fun hc3 => ?_) (fun hc3 => ?_)
  · have h := h.1 hc3
    refine r_iconst (pc := 25) hC dX1_isLetter_25 (rng_lit rfl) ?_
    exact r_reti (pc := 26) (kd := 1) hC hQ dX1_isLetter_26 hr hk (by decide) (Or.inr okK1_0) ⟨rfl, h⟩
  have h := h.2 hc3
  refine r_iload_n (pc := 4) hC 1 dX1_isLetter_4 rfl rfl ?_
  refine r_aload_n (pc := 5) hC 0 dX1_isLetter_5 rfl rfl ?_
  refine r_get (kd := 0) (v := (w.1 3 14)) (pc := 6) hC dX1_isLetter_6 fl_RX1_62 lX_3 rfl rfl ?_
  refine r_ic_ge (pc := 9) (tgt := 25) hC dX1_isLetter_9 rfl (fun hc2 => ?_) (fun hc2 => ?_)
  · have h := h.1 hc2
    refine r_iconst (pc := 25) hC dX1_isLetter_25 (rng_lit rfl) ?_
    exact r_reti (pc := 26) (kd := 1) hC hQ dX1_isLetter_26 hr hk (by decide) (Or.inr okK1_0) ⟨rfl, h⟩
  have h := h.2 hc2
  refine r_aload_n (pc := 12) hC 0 dX1_isLetter_12 rfl rfl ?_
  refine r_getr (r := 5) (pc := 13) hC dX1_isLetter_13 fl_RX1_15 lX_3 rfl ?_
  refine r_iload_n (pc := 16) hC 1 dX1_isLetter_16 rfl rfl ?_
  refine r_zald (v := ((w.1 5) (Int.toNat a1))) (pc := 17) hC dX1_isLetter_17 lX_5 h.1.1 h.1.2 rfl ?_
  have h := h.2
  refine r_if_eq (pc := 18) (tgt := 25) hC dX1_isLetter_18 rfl (fun hc1 => ?_) (fun hc1 => ?_)
  · have h := h.1 hc1
    refine r_iconst (pc := 25) hC dX1_isLetter_25 (rng_lit rfl) ?_
    exact r_reti (pc := 26) (kd := 1) hC hQ dX1_isLetter_26 hr hk (by decide) (Or.inr okK1_0) ⟨rfl, h⟩
  have h := h.2 hc1
  refine r_iconst (pc := 21) hC dX1_isLetter_21 (rng_lit rfl) ?_
  refine r_goto (tgt := 26) (pc := 22) hC dX1_isLetter_22 rfl ?_
  exact r_reti (pc := 26) (kd := 1) hC hQ dX1_isLetter_26 hr hk (by decide) (Or.inr okK1_1) ⟨rfl, h⟩
def wp_Page_isLoneLetter (pg_letterAt : (Nat → Int)) (pg_signAt : (Nat → Int)) (pg_length : Int) (a1 : Int) (Q : Int → Prop) : Prop := jn1 (fun (J1 : Int → Prop) => jn0 (fun (J3 : Prop) => (a1 ≤ 0 → J3) ∧ (¬ a1 ≤ 0 → (rng (a1 - 1)) ∧ ((0 ≤ (a1 - 1) ∧ (a1 - 1) < 601) ∧ ((0 ≤ a1 ∧ a1 < 601) ∧ ((¬ (pg_signAt (Int.toNat (a1 - 1))) = (pg_signAt (Int.toNat a1)) → J3) ∧ ((pg_signAt (Int.toNat (a1 - 1))) = (pg_signAt (Int.toNat a1)) → J1 1)))))) (J1 0)) (fun (y1 : Int) => wp_Page_isLetter pg_letterAt pg_length a1 (fun (r2 : Int) => (r2 = 0 → Q 0) ∧ (¬ r2 = 0 → jn1 (fun (J2 : Int → Prop) => (y1 = 0 → (rng (a1 - 1)) ∧ (J2 (a1 - 1))) ∧ (¬ y1 = 0 → (rng (a1 - 2)) ∧ (J2 (a1 - 2)))) (fun (y3 : Int) => wp_Page_isLetter pg_letterAt pg_length y3 (fun (r4 : Int) => (¬ r4 = 0 → Q 0) ∧ (r4 = 0 → Q 1))))))
set_option maxHeartbeats 4000000 in
set_option maxRecDepth 20000 in
theorem s_Page_isLoneLetter (l : Launch) (w : St) (a1 : Int) (P : Int → Prop) (h : wp_Page_isLoneLetter (w.1 5) (w.1 6) (w.1 3 14) a1 P) : Cn l yX1_isLoneLetter cX1_isLoneLetter 3 (some .boolean) 1 LX w [aR 3, aI a1] (okI (fun r w1 => w1 = w ∧ P r)) := by
  unfold wp_Page_isLoneLetter at h
  refine Cn.of2 [some (aR 3), some (aI a1), none] (by decide) (Nat.le_of_ble_eq_true rfl) rfl (fun p e s m args below meth c D cA ad A Q hQ hC hr hk => ?_)
  refine r_iload_n (pc := 0) hC 1 dX1_isLoneLetter_0 rfl rfl ?_
  obtain ⟨J1, hJ1, h⟩ := h
  have S1 : ∀ (y1 : Int), J1 y1 → Wd p l e (rmD 1) s m args below meth c Q 0 0 3 D cA ad A LX w 26 [some (aR 3), some (aI a1), none] [aI y1] := by
    intro y1 hj
    have h := hJ1 y1 hj
    refine r_istore_n (ls2 := [some (aR 3), some (aI a1), some (aI y1)]) (pc := 26) hC 2 dX1_isLoneLetter_26 rfl (by decide) rfl rfl ?_
    refine r_aload_n (pc := 27) hC 0 dX1_isLoneLetter_27 rfl rfl ?_
    refine r_iload_n (pc := 28) hC 1 dX1_isLoneLetter_28 rfl rfl ?_
    refine r_callVi (pc := 29) hC [aI a1] [] dX1_isLoneLetter_29 ml_RX1_99 my_X1_isLetter mi_X1_isLetter lX_3 rfl rfl ⟨Nat.le_of_ble_eq_true rfl, Nat.le_of_ble_eq_true rfl⟩ ⟨Nat.le_of_ble_eq_true rfl, Nat.le_of_ble_eq_true rfl⟩ (Nat.le_of_ble_eq_true rfl) rfl (s_Page_isLetter l _ _ _ h) (fun r2 w1 hq => ?_)
    obtain ⟨e9, h⟩ := hq
    rw [e9]
    refine r_if_eq (pc := 32) (tgt := 59) hC dX1_isLoneLetter_32 rfl (fun hc3 => ?_) (fun hc3 => ?_)
    · have h := h.1 hc3
      refine r_iconst (pc := 59) hC dX1_isLoneLetter_59 (rng_lit rfl) ?_
      exact r_reti (pc := 60) (kd := 1) hC hQ dX1_isLoneLetter_60 hr hk (by decide) (Or.inr okK1_0) ⟨rfl, h⟩
    have h := h.2 hc3
    refine r_aload_n (pc := 35) hC 0 dX1_isLoneLetter_35 rfl rfl ?_
    refine r_iload_n (pc := 36) hC 2 dX1_isLoneLetter_36 rfl rfl ?_
    obtain ⟨J2, hJ2, h⟩ := h
    have S2 : ∀ (y3 : Int), J2 y3 → Wd p l e (rmD 1) s m args below meth c Q 0 0 3 D cA ad A LX w 49 [none, none, none] [aI y3, aR 3] := by
      intro y3 hj
      have h := hJ2 y3 hj
      refine r_callVi (pc := 49) hC [aI y3] [] dX1_isLoneLetter_49 ml_RX1_99 my_X1_isLetter mi_X1_isLetter lX_3 rfl rfl ⟨Nat.le_of_ble_eq_true rfl, Nat.le_of_ble_eq_true rfl⟩ ⟨Nat.le_of_ble_eq_true rfl, Nat.le_of_ble_eq_true rfl⟩ (Nat.le_of_ble_eq_true rfl) rfl (s_Page_isLetter l _ _ _ h) (fun r4 w1 hq => ?_)
      obtain ⟨e9, h⟩ := hq
      rw [e9]
      refine r_if_ne (pc := 52) (tgt := 59) hC dX1_isLoneLetter_52 rfl (fun hc1 => ?_) (fun hc1 => ?_)
      · have h := h.1 hc1
        refine r_iconst (pc := 59) hC dX1_isLoneLetter_59 (rng_lit rfl) ?_
        exact r_reti (pc := 60) (kd := 1) hC hQ dX1_isLoneLetter_60 hr hk (by decide) (Or.inr okK1_0) ⟨rfl, h⟩
      have h := h.2 hc1
      refine r_iconst (pc := 55) hC dX1_isLoneLetter_55 (rng_lit rfl) ?_
      refine r_goto (tgt := 60) (pc := 56) hC dX1_isLoneLetter_56 rfl ?_
      exact r_reti (pc := 60) (kd := 1) hC hQ dX1_isLoneLetter_60 hr hk (by decide) (Or.inr okK1_1) ⟨rfl, h⟩
    refine r_if_eq (pc := 37) (tgt := 46) hC dX1_isLoneLetter_37 rfl (fun hc2 => ?_) (fun hc2 => ?_)
    · have h := h.1 hc2
      refine r_iload_n (pc := 46) hC 1 dX1_isLoneLetter_46 rfl rfl ?_
      refine r_iconst (pc := 47) hC dX1_isLoneLetter_47 (rng_lit rfl) ?_
      refine r_isub (pc := 48) hC dX1_isLoneLetter_48 h.1 ?_
      have h := h.2
      exact r_to [false, false, false] rfl rfl (S2 (a1 - 1) h)
    have h := h.2 hc2
    refine r_iload_n (pc := 40) hC 1 dX1_isLoneLetter_40 rfl rfl ?_
    refine r_iconst (pc := 41) hC dX1_isLoneLetter_41 (rng_lit rfl) ?_
    refine r_isub (pc := 42) hC dX1_isLoneLetter_42 h.1 ?_
    have h := h.2
    refine r_goto (tgt := 49) (pc := 43) hC dX1_isLoneLetter_43 rfl ?_
    exact r_to [false, false, false] rfl rfl (S2 (a1 - 2) h)
  obtain ⟨J3, hJ3, h⟩ := h
  have S3 : J3 → Wd p l e (rmD 1) s m args below meth c Q 0 0 3 D cA ad A LX w 25 [some (aR 3), some (aI a1), none] [] := by
    intro hj
    have h := hJ3 hj
    refine r_iconst (pc := 25) hC dX1_isLoneLetter_25 (rng_lit rfl) ?_
    exact r_to [true, true, false] rfl rfl (S1 0 h)
  refine r_if_le (pc := 1) (tgt := 25) hC dX1_isLoneLetter_1 rfl (fun hc5 => ?_) (fun hc5 => ?_)
  · have h := h.1 hc5
    exact r_to [true, true, false] rfl rfl (S3 h)
  have h := h.2 hc5
  refine r_aload_n (pc := 4) hC 0 dX1_isLoneLetter_4 rfl rfl ?_
  refine r_getr (r := 6) (pc := 5) hC dX1_isLoneLetter_5 fl_RX1_19 lX_3 rfl ?_
  refine r_iload_n (pc := 8) hC 1 dX1_isLoneLetter_8 rfl rfl ?_
  refine r_iconst (pc := 9) hC dX1_isLoneLetter_9 (rng_lit rfl) ?_
  refine r_isub (pc := 10) hC dX1_isLoneLetter_10 h.1 ?_
  have h := h.2
  refine r_iald (v := ((w.1 6) (Int.toNat (a1 - 1)))) (pc := 11) hC dX1_isLoneLetter_11 lX_6 h.1.1 h.1.2 rfl ?_
  have h := h.2
  refine r_aload_n (pc := 12) hC 0 dX1_isLoneLetter_12 rfl rfl ?_
  refine r_getr (r := 6) (pc := 13) hC dX1_isLoneLetter_13 fl_RX1_19 lX_3 rfl ?_
  refine r_iload_n (pc := 16) hC 1 dX1_isLoneLetter_16 rfl rfl ?_
  refine r_iald (v := ((w.1 6) (Int.toNat a1))) (pc := 17) hC dX1_isLoneLetter_17 lX_6 h.1.1 h.1.2 rfl ?_
  have h := h.2
  refine r_ic_ne (pc := 18) (tgt := 25) hC dX1_isLoneLetter_18 rfl (fun hc4 => ?_) (fun hc4 => ?_)
  · have h := h.1 hc4
    exact r_to [true, true, false] rfl rfl (S3 h)
  have h := h.2 hc4
  refine r_iconst (pc := 21) hC dX1_isLoneLetter_21 (rng_lit rfl) ?_
  refine r_goto (tgt := 26) (pc := 22) hC dX1_isLoneLetter_22 rfl ?_
  exact r_to [true, true, false] rfl rfl (S1 1 h)
def wp_Page_behindClosing (pg_bytes : (Nat → Int)) (pg_letterAt : (Nat → Int)) (pg_signAt : (Nat → Int)) (pg_length : Int) (a1 : Int) (Q : Int → Prop) : Prop := wp_Page_at pg_bytes pg_length a1 (fun (r1 : Int) => wp_Page_isStop r1 (fun (r2 : Int) => (¬ r2 = 0 → (rng (a1 + 1)) ∧ (lpw1 (fun (x3 : Int) (k1 : Int → Prop) => jn0 (fun (J2 : Prop) => (pg_length ≤ x3 → J2) ∧ (¬ pg_length ≤ x3 → wp_Page_at pg_bytes pg_length x3 (fun (r9 : Int) => wp_Page_isCloser r9 (fun (r10 : Int) => (r10 = 0 → J2) ∧ (¬ r10 = 0 → (rng (x3 + 1)) ∧ (k1 (x3 + 1))))))) (jn0 (fun (J3 : Prop) => (pg_length ≤ x3 → J3) ∧ (¬ pg_length ≤ x3 → wp_Page_at pg_bytes pg_length x3 (fun (r7 : Int) => wp_Picker_isBlank r7 (fun (r8 : Int) => (¬ r8 = 0 → J3) ∧ (r8 = 0 → Q (-1)))))) ((rng (a1 + 1)) ∧ (jn1 (fun (J4 : Int → Prop) => (¬ x3 = (a1 + 1) → J4 0) ∧ (x3 = (a1 + 1) → J4 1)) (fun (y4 : Int) => (y4 = 0 → Q x3) ∧ (¬ y4 = 0 → wp_Page_at pg_bytes pg_length a1 (fun (r5 : Int) => (¬ r5 = 46 → Q x3) ∧ (r5 = 46 → (rng (a1 - 1)) ∧ (wp_Page_isLoneLetter pg_letterAt pg_signAt pg_length (a1 - 1) (fun (r6 : Int) => (r6 = 0 → Q x3) ∧ (¬ r6 = 0 → Q (-1)))))))))))) (a1 + 1))) ∧ (r2 = 0 → Q (-1))))
set_option maxHeartbeats 4000000 in
set_option maxRecDepth 20000 in
theorem s_Page_behindClosing (l : Launch) (w : St) (a1 : Int) (P : Int → Prop) (h : wp_Page_behindClosing (w.1 4) (w.1 5) (w.1 6) (w.1 3 14) a1 P) : Cn l yX1_behindClosing cX1_behindClosing 4 (some .int) 2 LX w [aR 3, aI a1] (okI (fun r w1 => w1 = w ∧ P r)) := by
  unfold wp_Page_behindClosing at h
  refine Cn.of2 [some (aR 3), some (aI a1), none, none] (by decide) (Nat.le_of_ble_eq_true rfl) rfl (fun p e s m args below meth c D cA ad A Q hQ hC hr hk => ?_)
  refine r_aload_n (pc := 0) hC 0 dX1_behindClosing_0 rfl rfl ?_
  refine r_aload_n (pc := 1) hC 0 dX1_behindClosing_1 rfl rfl ?_
  refine r_iload_n (pc := 2) hC 1 dX1_behindClosing_2 rfl rfl ?_
  refine r_callVi (pc := 3) hC [aI a1] [aR 3] dX1_behindClosing_3 ml_RX1_82 my_X1_at mi_X1_at lX_3 rfl rfl ⟨Nat.le_of_ble_eq_true rfl, Nat.le_of_ble_eq_true rfl⟩ ⟨Nat.le_of_ble_eq_true rfl, Nat.le_of_ble_eq_true rfl⟩ (Nat.le_of_ble_eq_true rfl) rfl (s_Page_at l _ _ _ h) (fun r1 w1 hq => ?_)
  obtain ⟨e9, h⟩ := hq
  rw [e9]
  refine r_callVi (pc := 6) hC [aI r1] [] dX1_behindClosing_6 ml_RX1_124 my_X1_isStop mi_X1_isStop lX_3 rfl rfl ⟨Nat.le_of_ble_eq_true rfl, Nat.le_of_ble_eq_true rfl⟩ ⟨Nat.le_of_ble_eq_true rfl, Nat.le_of_ble_eq_true rfl⟩ (Nat.le_of_ble_eq_true rfl) rfl (s_Page_isStop l _ _ _ h) (fun r2 w1 hq => ?_)
  obtain ⟨e9, h⟩ := hq
  rw [e9]
  refine r_if_ne (pc := 9) (tgt := 14) hC dX1_behindClosing_9 rfl (fun hc9 => ?_) (fun hc9 => ?_)
  · have h := h.1 hc9
    refine r_iload_n (pc := 14) hC 1 dX1_behindClosing_14 rfl rfl ?_
    refine r_iconst (pc := 15) hC dX1_behindClosing_15 (rng_lit rfl) ?_
    refine r_iadd (pc := 16) hC dX1_behindClosing_16 h.1 ?_
    have h := h.2
    refine r_istore_n (ls2 := [some (aR 3), some (aI a1), some (aI (a1 + 1)), none]) (pc := 17) hC 2 dX1_behindClosing_17 rfl (by decide) rfl rfl ?_
    obtain ⟨I1, μ1, hI1, hB1⟩ := h
    have S1 : ∀ (nn : Nat) (x3 : Int), μ1 x3 < nn → I1 x3 → Wd p l e (rmD 2) s m args below meth c Q 0 0 4 D cA ad A LX w 18 [some (aR 3), some (aI a1), some (aI x3), none] [] := by
      intro nn
      induction nn with
      | zero => intro x3 hn; exact absurd hn (Nat.not_lt_zero _)
      | succ nn ih1 =>
        intro x3 hn1 hi
        have h := hB1 x3 hi
        refine r_iload_n (pc := 18) hC 2 dX1_behindClosing_18 rfl rfl ?_
        refine r_aload_n (pc := 19) hC 0 dX1_behindClosing_19 rfl rfl ?_
        refine r_get (kd := 0) (v := (w.1 3 14)) (pc := 20) hC dX1_behindClosing_20 fl_RX1_62 lX_3 rfl rfl ?_
        obtain ⟨J2, hJ2, h⟩ := h
        have S2 : J2 → Wd p l e (rmD 2) s m args below meth c Q 0 0 4 D cA ad A LX w 44 [some (aR 3), some (aI a1), some (aI x3), none] [] := by
          intro hj
          have h := hJ2 hj
          refine r_iload_n (pc := 44) hC 2 dX1_behindClosing_44 rfl rfl ?_
          refine r_aload_n (pc := 45) hC 0 dX1_behindClosing_45 rfl rfl ?_
          refine r_get (kd := 0) (v := (w.1 3 14)) (pc := 46) hC dX1_behindClosing_46 fl_RX1_62 lX_3 rfl rfl ?_
          obtain ⟨J3, hJ3, h⟩ := h
          have S3 : J3 → Wd p l e (rmD 2) s m args below meth c Q 0 0 4 D cA ad A LX w 65 [some (aR 3), some (aI a1), some (aI x3), none] [] := by
            intro hj
            have h := hJ3 hj
            refine r_iload_n (pc := 65) hC 2 dX1_behindClosing_65 rfl rfl ?_
            refine r_iload_n (pc := 66) hC 1 dX1_behindClosing_66 rfl rfl ?_
            refine r_iconst (pc := 67) hC dX1_behindClosing_67 (rng_lit rfl) ?_
            refine r_iadd (pc := 68) hC dX1_behindClosing_68 h.1 ?_
            have h := h.2
            obtain ⟨J4, hJ4, h⟩ := h
            have S4 : ∀ (y4 : Int), J4 y4 → Wd p l e (rmD 2) s m args below meth c Q 0 0 4 D cA ad A LX w 77 [some (aR 3), some (aI a1), some (aI x3), none] [aI y4] := by
              intro y4 hj
              have h := hJ4 y4 hj
              refine r_istore_n (ls2 := [some (aR 3), some (aI a1), some (aI x3), some (aI y4)]) (pc := 77) hC 3 dX1_behindClosing_77 rfl (by decide) rfl rfl ?_
              refine r_iload_n (pc := 78) hC 3 dX1_behindClosing_78 rfl rfl ?_
              refine r_if_eq (pc := 79) (tgt := 106) hC dX1_behindClosing_79 rfl (fun hc3 => ?_) (fun hc3 => ?_)
              · have h := h.1 hc3
                refine r_iload_n (pc := 106) hC 2 dX1_behindClosing_106 rfl rfl ?_
                exact r_reti (pc := 107) (kd := 0) hC hQ dX1_behindClosing_107 hr hk (by decide) (Or.inl rfl) ⟨rfl, h⟩
              have h := h.2 hc3
              refine r_aload_n (pc := 82) hC 0 dX1_behindClosing_82 rfl rfl ?_
              refine r_iload_n (pc := 83) hC 1 dX1_behindClosing_83 rfl rfl ?_
              refine r_callVi (pc := 84) hC [aI a1] [] dX1_behindClosing_84 ml_RX1_82 my_X1_at mi_X1_at lX_3 rfl rfl ⟨Nat.le_of_ble_eq_true rfl, Nat.le_of_ble_eq_true rfl⟩ ⟨Nat.le_of_ble_eq_true rfl, Nat.le_of_ble_eq_true rfl⟩ (Nat.le_of_ble_eq_true rfl) rfl (s_Page_at l _ _ _ h) (fun r5 w1 hq => ?_)
              obtain ⟨e9, h⟩ := hq
              rw [e9]
              refine r_bipush (pc := 87) hC dX1_behindClosing_87 ⟨rfl, rng_lit rfl⟩ ?_
              refine r_ic_ne (pc := 89) (tgt := 106) hC dX1_behindClosing_89 rfl (fun hc2 => ?_) (fun hc2 => ?_)
              · have h := h.1 hc2
                refine r_iload_n (pc := 106) hC 2 dX1_behindClosing_106 rfl rfl ?_
                exact r_reti (pc := 107) (kd := 0) hC hQ dX1_behindClosing_107 hr hk (by decide) (Or.inl rfl) ⟨rfl, h⟩
              have h := h.2 hc2
              refine r_aload_n (pc := 92) hC 0 dX1_behindClosing_92 rfl rfl ?_
              refine r_iload_n (pc := 93) hC 1 dX1_behindClosing_93 rfl rfl ?_
              refine r_iconst (pc := 94) hC dX1_behindClosing_94 (rng_lit rfl) ?_
              refine r_isub (pc := 95) hC dX1_behindClosing_95 h.1 ?_
              have h := h.2
              refine r_callVi (pc := 96) hC [aI (a1 - 1)] [] dX1_behindClosing_96 ml_RX1_130 my_X1_isLoneLetter mi_X1_isLoneLetter lX_3 rfl rfl ⟨Nat.le_of_ble_eq_true rfl, Nat.le_of_ble_eq_true rfl⟩ ⟨Nat.le_of_ble_eq_true rfl, Nat.le_of_ble_eq_true rfl⟩ (Nat.le_of_ble_eq_true rfl) rfl (s_Page_isLoneLetter l _ _ _ h) (fun r6 w1 hq => ?_)
              obtain ⟨e9, h⟩ := hq
              rw [e9]
              refine r_if_eq (pc := 99) (tgt := 106) hC dX1_behindClosing_99 rfl (fun hc1 => ?_) (fun hc1 => ?_)
              · have h := h.1 hc1
                refine r_iload_n (pc := 106) hC 2 dX1_behindClosing_106 rfl rfl ?_
                exact r_reti (pc := 107) (kd := 0) hC hQ dX1_behindClosing_107 hr hk (by decide) (Or.inl rfl) ⟨rfl, h⟩
              have h := h.2 hc1
              refine r_iconst (pc := 102) hC dX1_behindClosing_102 (rng_lit rfl) ?_
              refine r_goto (tgt := 107) (pc := 103) hC dX1_behindClosing_103 rfl ?_
              exact r_reti (pc := 107) (kd := 0) hC hQ dX1_behindClosing_107 hr hk (by decide) (Or.inl rfl) ⟨rfl, h⟩
            refine r_ic_ne (pc := 69) (tgt := 76) hC dX1_behindClosing_69 rfl (fun hc4 => ?_) (fun hc4 => ?_)
            · have h := h.1 hc4
              refine r_iconst (pc := 76) hC dX1_behindClosing_76 (rng_lit rfl) ?_
              exact r_to [true, true, true, false] rfl rfl (S4 0 h)
            have h := h.2 hc4
            refine r_iconst (pc := 72) hC dX1_behindClosing_72 (rng_lit rfl) ?_
            refine r_goto (tgt := 77) (pc := 73) hC dX1_behindClosing_73 rfl ?_
            exact r_to [true, true, true, false] rfl rfl (S4 1 h)
          refine r_ic_ge (pc := 49) (tgt := 65) hC dX1_behindClosing_49 rfl (fun hc6 => ?_) (fun hc6 => ?_)
          · have h := h.1 hc6
            exact r_to [true, true, true, false] rfl rfl (S3 h)
          have h := h.2 hc6
          refine r_aload_n (pc := 52) hC 0 dX1_behindClosing_52 rfl rfl ?_
          refine r_iload_n (pc := 53) hC 2 dX1_behindClosing_53 rfl rfl ?_
          refine r_callVi (pc := 54) hC [aI x3] [] dX1_behindClosing_54 ml_RX1_82 my_X1_at mi_X1_at lX_3 rfl rfl ⟨Nat.le_of_ble_eq_true rfl, Nat.le_of_ble_eq_true rfl⟩ ⟨Nat.le_of_ble_eq_true rfl, Nat.le_of_ble_eq_true rfl⟩ (Nat.le_of_ble_eq_true rfl) rfl (s_Page_at l _ _ _ h) (fun r7 w1 hq => ?_)
          obtain ⟨e9, h⟩ := hq
          rw [e9]
          refine r_callSNi (pc := 57) hC [aI r7] [] dX1_behindClosing_57 nl_RX1_111 my_X9_isBlank ms_X9_isBlank rfl ⟨Nat.le_of_ble_eq_true rfl, Nat.le_of_ble_eq_true rfl⟩ ⟨Nat.le_of_ble_eq_true rfl, Nat.le_of_ble_eq_true rfl⟩ (Nat.le_of_ble_eq_true rfl) rfl (s_Picker_isBlank l _ _ _ h) (fun r8 w1 hq => ?_)
          obtain ⟨e9, h⟩ := hq
          rw [e9]
          refine r_if_ne (pc := 60) (tgt := 65) hC dX1_behindClosing_60 rfl (fun hc5 => ?_) (fun hc5 => ?_)
          · have h := h.1 hc5
            exact r_to [true, true, true, false] rfl rfl (S3 h)
          have h := h.2 hc5
          refine r_iconst (pc := 63) hC dX1_behindClosing_63 (rng_lit rfl) ?_
          exact r_reti (pc := 64) (kd := 0) hC hQ dX1_behindClosing_64 hr hk (by decide) (Or.inl rfl) ⟨rfl, h⟩
        refine r_ic_ge (pc := 23) (tgt := 44) hC dX1_behindClosing_23 rfl (fun hc8 => ?_) (fun hc8 => ?_)
        · have h := h.1 hc8
          exact r_to [true, true, true, false] rfl rfl (S2 h)
        have h := h.2 hc8
        refine r_aload_n (pc := 26) hC 0 dX1_behindClosing_26 rfl rfl ?_
        refine r_aload_n (pc := 27) hC 0 dX1_behindClosing_27 rfl rfl ?_
        refine r_iload_n (pc := 28) hC 2 dX1_behindClosing_28 rfl rfl ?_
        refine r_callVi (pc := 29) hC [aI x3] [aR 3] dX1_behindClosing_29 ml_RX1_82 my_X1_at mi_X1_at lX_3 rfl rfl ⟨Nat.le_of_ble_eq_true rfl, Nat.le_of_ble_eq_true rfl⟩ ⟨Nat.le_of_ble_eq_true rfl, Nat.le_of_ble_eq_true rfl⟩ (Nat.le_of_ble_eq_true rfl) rfl (s_Page_at l _ _ _ h) (fun r9 w1 hq => ?_)
        obtain ⟨e9, h⟩ := hq
        rw [e9]
        refine r_callVi (pc := 32) hC [aI r9] [] dX1_behindClosing_32 ml_RX1_127 my_X1_isCloser mi_X1_isCloser lX_3 rfl rfl ⟨Nat.le_of_ble_eq_true rfl, Nat.le_of_ble_eq_true rfl⟩ ⟨Nat.le_of_ble_eq_true rfl, Nat.le_of_ble_eq_true rfl⟩ (Nat.le_of_ble_eq_true rfl) rfl (s_Page_isCloser l _ _ _ h) (fun r10 w1 hq => ?_)
        obtain ⟨e9, h⟩ := hq
        rw [e9]
        refine r_if_eq (pc := 35) (tgt := 44) hC dX1_behindClosing_35 rfl (fun hc7 => ?_) (fun hc7 => ?_)
        · have h := h.1 hc7
          exact r_to [true, true, true, false] rfl rfl (S2 h)
        have h := h.2 hc7
        refine r_iinc (ls2 := [some (aR 3), some (aI a1), some (aI (x3 + 1)), none]) (pc := 38) hC dX1_behindClosing_38 rfl (by decide) rfl h.1 rfl ?_
        have h := h.2
        refine r_goto (tgt := 18) (pc := 41) hC dX1_behindClosing_41 rfl ?_
        exact r_to [true, true, true, false] rfl rfl (ih1 (x3 + 1) (Nat.lt_of_lt_of_le h.2 (Nat.le_of_lt_succ hn1)) h.1)
    exact r_to [true, true, true, false] rfl rfl (S1 _ (a1 + 1) (Nat.lt_succ_self _) hI1)
  have h := h.2 hc9
  refine r_iconst (pc := 12) hC dX1_behindClosing_12 (rng_lit rfl) ?_
  exact r_reti (pc := 13) (kd := 0) hC hQ dX1_behindClosing_13 hr hk (by decide) (Or.inl rfl) ⟨rfl, h⟩
def wp_Page_isEmptyLineAhead (pg_bytes : (Nat → Int)) (pg_length : Int) (a1 : Int) (Q : Int → Prop) : Prop := wp_Page_at pg_bytes pg_length a1 (fun (r1 : Int) => (r1 = 10 → (rng (a1 + 1)) ∧ (lpw1 (fun (x2 : Int) (k1 : Int → Prop) => jn0 (fun (J2 : Prop) => (pg_length ≤ x2 → J2) ∧ (¬ pg_length ≤ x2 → wp_Page_at pg_bytes pg_length x2 (fun (r4 : Int) => jn0 (fun (J3 : Prop) => (r4 = 9 → J3) ∧ (¬ r4 = 9 → wp_Page_at pg_bytes pg_length x2 (fun (r5 : Int) => (¬ r5 = 32 → J2) ∧ (r5 = 32 → J3)))) ((rng (x2 + 1)) ∧ (k1 (x2 + 1)))))) (wp_Page_at pg_bytes pg_length x2 (fun (r3 : Int) => (¬ r3 = 10 → Q 0) ∧ (r3 = 10 → Q 1)))) (a1 + 1))) ∧ (¬ r1 = 10 → Q 0))
set_option maxHeartbeats 4000000 in
set_option maxRecDepth 20000 in
theorem s_Page_isEmptyLineAhead (l : Launch) (w : St) (a1 : Int) (P : Int → Prop) (h : wp_Page_isEmptyLineAhead (w.1 4) (w.1 3 14) a1 P) : Cn l yX1_isEmptyLineAhead cX1_isEmptyLineAhead 3 (some .boolean) 1 LX w [aR 3, aI a1] (okI (fun r w1 => w1 = w ∧ P r)) := by
  unfold wp_Page_isEmptyLineAhead at h
  refine Cn.of2 [some (aR 3), some (aI a1), none] (by decide) (Nat.le_of_ble_eq_true rfl) rfl (fun p e s m args below meth c D cA ad A Q hQ hC hr hk => ?_)
  refine r_aload_n (pc := 0) hC 0 dX1_isEmptyLineAhead_0 rfl rfl ?_
  refine r_iload_n (pc := 1) hC 1 dX1_isEmptyLineAhead_1 rfl rfl ?_
  refine r_callVi (pc := 2) hC [aI a1] [] dX1_isEmptyLineAhead_2 ml_RX1_82 my_X1_at mi_X1_at lX_3 rfl rfl ⟨Nat.le_of_ble_eq_true rfl, Nat.le_of_ble_eq_true rfl⟩ ⟨Nat.le_of_ble_eq_true rfl, Nat.le_of_ble_eq_true rfl⟩ (Nat.le_of_ble_eq_true rfl) rfl (s_Page_at l _ _ _ h) (fun r1 w1 hq => ?_)
  obtain ⟨e9, h⟩ := hq
  rw [e9]
  refine r_bipush (pc := 5) hC dX1_isEmptyLineAhead_5 ⟨rfl, rng_lit rfl⟩ ?_
  refine r_ic_eq (pc := 7) (tgt := 12) hC dX1_isEmptyLineAhead_7 rfl (fun hc5 => ?_) (fun hc5 => ?_)
  · have h := h.1 hc5
    refine r_iload_n (pc := 12) hC 1 dX1_isEmptyLineAhead_12 rfl rfl ?_
    refine r_iconst (pc := 13) hC dX1_isEmptyLineAhead_13 (rng_lit rfl) ?_
    refine r_iadd (pc := 14) hC dX1_isEmptyLineAhead_14 h.1 ?_
    have h := h.2
    refine r_istore_n (ls2 := [some (aR 3), some (aI a1), some (aI (a1 + 1))]) (pc := 15) hC 2 dX1_isEmptyLineAhead_15 rfl (by decide) rfl rfl ?_
    obtain ⟨I1, μ1, hI1, hB1⟩ := h
    have S1 : ∀ (nn : Nat) (x2 : Int), μ1 x2 < nn → I1 x2 → Wd p l e (rmD 1) s m args below meth c Q 0 0 3 D cA ad A LX w 16 [some (aR 3), none, some (aI x2)] [] := by
      intro nn
      induction nn with
      | zero => intro x2 hn; exact absurd hn (Nat.not_lt_zero _)
      | succ nn ih1 =>
        intro x2 hn1 hi
        have h := hB1 x2 hi
        refine r_iload_n (pc := 16) hC 2 dX1_isEmptyLineAhead_16 rfl rfl ?_
        refine r_aload_n (pc := 17) hC 0 dX1_isEmptyLineAhead_17 rfl rfl ?_
        refine r_get (kd := 0) (v := (w.1 3 14)) (pc := 18) hC dX1_isEmptyLineAhead_18 fl_RX1_62 lX_3 rfl rfl ?_
        obtain ⟨J2, hJ2, h⟩ := h
        have S2 : J2 → Wd p l e (rmD 1) s m args below meth c Q 0 0 3 D cA ad A LX w 50 [some (aR 3), none, some (aI x2)] [] := by
          intro hj
          have h := hJ2 hj
          refine r_aload_n (pc := 50) hC 0 dX1_isEmptyLineAhead_50 rfl rfl ?_
          refine r_iload_n (pc := 51) hC 2 dX1_isEmptyLineAhead_51 rfl rfl ?_
          refine r_callVi (pc := 52) hC [aI x2] [] dX1_isEmptyLineAhead_52 ml_RX1_82 my_X1_at mi_X1_at lX_3 rfl rfl ⟨Nat.le_of_ble_eq_true rfl, Nat.le_of_ble_eq_true rfl⟩ ⟨Nat.le_of_ble_eq_true rfl, Nat.le_of_ble_eq_true rfl⟩ (Nat.le_of_ble_eq_true rfl) rfl (s_Page_at l _ _ _ h) (fun r3 w1 hq => ?_)
          obtain ⟨e9, h⟩ := hq
          rw [e9]
          refine r_bipush (pc := 55) hC dX1_isEmptyLineAhead_55 ⟨rfl, rng_lit rfl⟩ ?_
          refine r_ic_ne (pc := 57) (tgt := 64) hC dX1_isEmptyLineAhead_57 rfl (fun hc1 => ?_) (fun hc1 => ?_)
          · have h := h.1 hc1
            refine r_iconst (pc := 64) hC dX1_isEmptyLineAhead_64 (rng_lit rfl) ?_
            exact r_reti (pc := 65) (kd := 1) hC hQ dX1_isEmptyLineAhead_65 hr hk (by decide) (Or.inr okK1_0) ⟨rfl, h⟩
          have h := h.2 hc1
          refine r_iconst (pc := 60) hC dX1_isEmptyLineAhead_60 (rng_lit rfl) ?_
          refine r_goto (tgt := 65) (pc := 61) hC dX1_isEmptyLineAhead_61 rfl ?_
          exact r_reti (pc := 65) (kd := 1) hC hQ dX1_isEmptyLineAhead_65 hr hk (by decide) (Or.inr okK1_1) ⟨rfl, h⟩
        refine r_ic_ge (pc := 21) (tgt := 50) hC dX1_isEmptyLineAhead_21 rfl (fun hc4 => ?_) (fun hc4 => ?_)
        · have h := h.1 hc4
          exact r_to [true, false, true] rfl rfl (S2 h)
        have h := h.2 hc4
        refine r_aload_n (pc := 24) hC 0 dX1_isEmptyLineAhead_24 rfl rfl ?_
        refine r_iload_n (pc := 25) hC 2 dX1_isEmptyLineAhead_25 rfl rfl ?_
        refine r_callVi (pc := 26) hC [aI x2] [] dX1_isEmptyLineAhead_26 ml_RX1_82 my_X1_at mi_X1_at lX_3 rfl rfl ⟨Nat.le_of_ble_eq_true rfl, Nat.le_of_ble_eq_true rfl⟩ ⟨Nat.le_of_ble_eq_true rfl, Nat.le_of_ble_eq_true rfl⟩ (Nat.le_of_ble_eq_true rfl) rfl (s_Page_at l _ _ _ h) (fun r4 w1 hq => ?_)
        obtain ⟨e9, h⟩ := hq
        rw [e9]
        refine r_bipush (pc := 29) hC dX1_isEmptyLineAhead_29 ⟨rfl, rng_lit rfl⟩ ?_
        obtain ⟨J3, hJ3, h⟩ := h
        have S3 : J3 → Wd p l e (rmD 1) s m args below meth c Q 0 0 3 D cA ad A LX w 44 [some (aR 3), none, some (aI x2)] [] := by
          intro hj
          have h := hJ3 hj
          refine r_iinc (ls2 := [some (aR 3), none, some (aI (x2 + 1))]) (pc := 44) hC dX1_isEmptyLineAhead_44 rfl (by decide) rfl h.1 rfl ?_
          have h := h.2
          refine r_goto (tgt := 16) (pc := 47) hC dX1_isEmptyLineAhead_47 rfl ?_
          exact r_to [true, false, true] rfl rfl (ih1 (x2 + 1) (Nat.lt_of_lt_of_le h.2 (Nat.le_of_lt_succ hn1)) h.1)
        refine r_ic_eq (pc := 31) (tgt := 44) hC dX1_isEmptyLineAhead_31 rfl (fun hc3 => ?_) (fun hc3 => ?_)
        · have h := h.1 hc3
          exact r_to [true, false, true] rfl rfl (S3 h)
        have h := h.2 hc3
        refine r_aload_n (pc := 34) hC 0 dX1_isEmptyLineAhead_34 rfl rfl ?_
        refine r_iload_n (pc := 35) hC 2 dX1_isEmptyLineAhead_35 rfl rfl ?_
        refine r_callVi (pc := 36) hC [aI x2] [] dX1_isEmptyLineAhead_36 ml_RX1_82 my_X1_at mi_X1_at lX_3 rfl rfl ⟨Nat.le_of_ble_eq_true rfl, Nat.le_of_ble_eq_true rfl⟩ ⟨Nat.le_of_ble_eq_true rfl, Nat.le_of_ble_eq_true rfl⟩ (Nat.le_of_ble_eq_true rfl) rfl (s_Page_at l _ _ _ h) (fun r5 w1 hq => ?_)
        obtain ⟨e9, h⟩ := hq
        rw [e9]
        refine r_bipush (pc := 39) hC dX1_isEmptyLineAhead_39 ⟨rfl, rng_lit rfl⟩ ?_
        refine r_ic_ne (pc := 41) (tgt := 50) hC dX1_isEmptyLineAhead_41 rfl (fun hc2 => ?_) (fun hc2 => ?_)
        · have h := h.1 hc2
          exact r_to [true, false, true] rfl rfl (S2 h)
        have h := h.2 hc2
        exact r_to [true, false, true] rfl rfl (S3 h)
    exact r_to [true, false, true] rfl rfl (S1 _ (a1 + 1) (Nat.lt_succ_self _) hI1)
  have h := h.2 hc5
  refine r_iconst (pc := 10) hC dX1_isEmptyLineAhead_10 (rng_lit rfl) ?_
  exact r_reti (pc := 11) (kd := 1) hC hQ dX1_isEmptyLineAhead_11 hr hk (by decide) (Or.inr okK1_0) ⟨rfl, h⟩
def wp_Page_withoutBlanks (pg_bytes : (Nat → Int)) (pg_length : Int) (a1 : Int) (a2 : Int) (Q : Int → Prop) : Prop := lpw1 (fun (x1 : Int) (k1 : Int → Prop) => (x1 ≤ a1 → Q x1) ∧ (¬ x1 ≤ a1 → (rng (x1 - 1)) ∧ (wp_Page_at pg_bytes pg_length (x1 - 1) (fun (r2 : Int) => wp_Picker_isBlank r2 (fun (r3 : Int) => (r3 = 0 → Q x1) ∧ (¬ r3 = 0 → (rng (x1 + (-1))) ∧ (k1 (x1 + (-1))))))))) a2
set_option maxHeartbeats 4000000 in
set_option maxRecDepth 20000 in
theorem s_Page_withoutBlanks (l : Launch) (w : St) (a1 : Int) (a2 : Int) (P : Int → Prop) (h : wp_Page_withoutBlanks (w.1 4) (w.1 3 14) a1 a2 P) : Cn l yX1_withoutBlanks cX1_withoutBlanks 4 (some .int) 1 LX w [aR 3, aI a1, aI a2] (okI (fun r w1 => w1 = w ∧ P r)) := by
  unfold wp_Page_withoutBlanks at h
  refine Cn.of2 [some (aR 3), some (aI a1), some (aI a2), none] (by decide) (Nat.le_of_ble_eq_true rfl) rfl (fun p e s m args below meth c D cA ad A Q hQ hC hr hk => ?_)
  refine r_iload_n (pc := 0) hC 2 dX1_withoutBlanks_0 rfl rfl ?_
  refine r_istore_n (ls2 := [some (aR 3), some (aI a1), some (aI a2), some (aI a2)]) (pc := 1) hC 3 dX1_withoutBlanks_1 rfl (by decide) rfl rfl ?_
  obtain ⟨I1, μ1, hI1, hB1⟩ := h
  have S1 : ∀ (nn : Nat) (x1 : Int), μ1 x1 < nn → I1 x1 → Wd p l e (rmD 1) s m args below meth c Q 0 0 4 D cA ad A LX w 2 [some (aR 3), some (aI a1), none, some (aI x1)] [] := by
    intro nn
    induction nn with
    | zero => intro x1 hn; exact absurd hn (Nat.not_lt_zero _)
    | succ nn ih1 =>
      intro x1 hn1 hi
      have h := hB1 x1 hi
      refine r_iload_n (pc := 2) hC 3 dX1_withoutBlanks_2 rfl rfl ?_
      refine r_iload_n (pc := 3) hC 1 dX1_withoutBlanks_3 rfl rfl ?_
      refine r_ic_le (pc := 4) (tgt := 26) hC dX1_withoutBlanks_4 rfl (fun hc2 => ?_) (fun hc2 => ?_)
      · have h := h.1 hc2
        refine r_iload_n (pc := 26) hC 3 dX1_withoutBlanks_26 rfl rfl ?_
        exact r_reti (pc := 27) (kd := 0) hC hQ dX1_withoutBlanks_27 hr hk (by decide) (Or.inl rfl) ⟨rfl, h⟩
      have h := h.2 hc2
      refine r_aload_n (pc := 7) hC 0 dX1_withoutBlanks_7 rfl rfl ?_
      refine r_iload_n (pc := 8) hC 3 dX1_withoutBlanks_8 rfl rfl ?_
      refine r_iconst (pc := 9) hC dX1_withoutBlanks_9 (rng_lit rfl) ?_
      refine r_isub (pc := 10) hC dX1_withoutBlanks_10 h.1 ?_
      have h := h.2
      refine r_callVi (pc := 11) hC [aI (x1 - 1)] [] dX1_withoutBlanks_11 ml_RX1_82 my_X1_at mi_X1_at lX_3 rfl rfl ⟨Nat.le_of_ble_eq_true rfl, Nat.le_of_ble_eq_true rfl⟩ ⟨Nat.le_of_ble_eq_true rfl, Nat.le_of_ble_eq_true rfl⟩ (Nat.le_of_ble_eq_true rfl) rfl (s_Page_at l _ _ _ h) (fun r2 w1 hq => ?_)
      obtain ⟨e9, h⟩ := hq
      rw [e9]
      refine r_callSNi (pc := 14) hC [aI r2] [] dX1_withoutBlanks_14 nl_RX1_111 my_X9_isBlank ms_X9_isBlank rfl ⟨Nat.le_of_ble_eq_true rfl, Nat.le_of_ble_eq_true rfl⟩ ⟨Nat.le_of_ble_eq_true rfl, Nat.le_of_ble_eq_true rfl⟩ (Nat.le_of_ble_eq_true rfl) rfl (s_Picker_isBlank l _ _ _ h) (fun r3 w1 hq => ?_)
      obtain ⟨e9, h⟩ := hq
      rw [e9]
      refine r_if_eq (pc := 17) (tgt := 26) hC dX1_withoutBlanks_17 rfl (fun hc1 => ?_) (fun hc1 => ?_)
      · have h := h.1 hc1
        refine r_iload_n (pc := 26) hC 3 dX1_withoutBlanks_26 rfl rfl ?_
        exact r_reti (pc := 27) (kd := 0) hC hQ dX1_withoutBlanks_27 hr hk (by decide) (Or.inl rfl) ⟨rfl, h⟩
      have h := h.2 hc1
      refine r_iinc (ls2 := [some (aR 3), some (aI a1), none, some (aI (x1 + (-1)))]) (pc := 20) hC dX1_withoutBlanks_20 rfl (by decide) rfl h.1 rfl ?_
      have h := h.2
      refine r_goto (tgt := 2) (pc := 23) hC dX1_withoutBlanks_23 rfl ?_
      exact r_to [true, true, false, true] rfl rfl (ih1 (x1 + (-1)) (Nat.lt_of_lt_of_le h.2 (Nat.le_of_lt_succ hn1)) h.1)
  exact r_to [true, true, false, true] rfl rfl (S1 _ a2 (Nat.lt_succ_self _) hI1)
def wp_Page_endOfSentence (pg_bytes : (Nat → Int)) (pg_letterAt : (Nat → Int)) (pg_signAt : (Nat → Int)) (pg_length : Int) (a1 : Int) (Q : Int → Prop) : Prop := lpw1 (fun (x1 : Int) (k1 : Int → Prop) => (pg_length ≤ x1 → wp_Page_withoutBlanks pg_bytes pg_length a1 pg_length (fun (r2 : Int) => Q r2)) ∧ (¬ pg_length ≤ x1 → wp_Page_behindClosing pg_bytes pg_letterAt pg_signAt pg_length x1 (fun (r3 : Int) => (r3 = (-1) → wp_Page_isEmptyLineAhead pg_bytes pg_length x1 (fun (r4 : Int) => (r4 = 0 → (rng (x1 + 1)) ∧ (k1 (x1 + 1))) ∧ (¬ r4 = 0 → wp_Page_withoutBlanks pg_bytes pg_length a1 x1 (fun (r5 : Int) => Q r5)))) ∧ (¬ r3 = (-1) → Q r3)))) a1
set_option maxHeartbeats 4000000 in
set_option maxRecDepth 20000 in
theorem s_Page_endOfSentence (l : Launch) (w : St) (a1 : Int) (P : Int → Prop) (h : wp_Page_endOfSentence (w.1 4) (w.1 5) (w.1 6) (w.1 3 14) a1 P) : Cn l yX1_endOfSentence cX1_endOfSentence 4 (some .int) 3 LX w [aR 3, aI a1] (okI (fun r w1 => w1 = w ∧ P r)) := by
  unfold wp_Page_endOfSentence at h
  refine Cn.of2 [some (aR 3), some (aI a1), none, none] (by decide) (Nat.le_of_ble_eq_true rfl) rfl (fun p e s m args below meth c D cA ad A Q hQ hC hr hk => ?_)
  refine r_iload_n (pc := 0) hC 1 dX1_endOfSentence_0 rfl rfl ?_
  refine r_istore_n (ls2 := [some (aR 3), some (aI a1), some (aI a1), none]) (pc := 1) hC 2 dX1_endOfSentence_1 rfl (by decide) rfl rfl ?_
  obtain ⟨I1, μ1, hI1, hB1⟩ := h
  have S1 : ∀ (nn : Nat) (x1 : Int), μ1 x1 < nn → I1 x1 → Wd p l e (rmD 3) s m args below meth c Q 0 0 4 D cA ad A LX w 2 [some (aR 3), some (aI a1), some (aI x1), none] [] := by
    intro nn
    induction nn with
    | zero => intro x1 hn; exact absurd hn (Nat.not_lt_zero _)
    | succ nn ih1 =>
      intro x1 hn1 hi
      have h := hB1 x1 hi
      refine r_iload_n (pc := 2) hC 2 dX1_endOfSentence_2 rfl rfl ?_
      refine r_aload_n (pc := 3) hC 0 dX1_endOfSentence_3 rfl rfl ?_
      refine r_get (kd := 0) (v := (w.1 3 14)) (pc := 4) hC dX1_endOfSentence_4 fl_RX1_62 lX_3 rfl rfl ?_
      refine r_ic_ge (pc := 7) (tgt := 44) hC dX1_endOfSentence_7 rfl (fun hc3 => ?_) (fun hc3 => ?_)
      · have h := h.1 hc3
        refine r_aload_n (pc := 44) hC 0 dX1_endOfSentence_44 rfl rfl ?_
        refine r_iload_n (pc := 45) hC 1 dX1_endOfSentence_45 rfl rfl ?_
        refine r_aload_n (pc := 46) hC 0 dX1_endOfSentence_46 rfl rfl ?_
        refine r_get (kd := 0) (v := (w.1 3 14)) (pc := 47) hC dX1_endOfSentence_47 fl_RX1_62 lX_3 rfl rfl ?_
        refine r_callVi (pc := 50) hC [aI a1, aI (w.1 3 14)] [] dX1_endOfSentence_50 ml_RX1_120 my_X1_withoutBlanks mi_X1_withoutBlanks lX_3 rfl rfl ⟨Nat.le_of_ble_eq_true rfl, Nat.le_of_ble_eq_true rfl⟩ ⟨Nat.le_of_ble_eq_true rfl, Nat.le_of_ble_eq_true rfl⟩ (Nat.le_of_ble_eq_true rfl) rfl (s_Page_withoutBlanks l _ _ _ _ h) (fun r2 w1 hq => ?_)
        obtain ⟨e9, h⟩ := hq
        rw [e9]
        exact r_reti (pc := 53) (kd := 0) hC hQ dX1_endOfSentence_53 hr hk (by decide) (Or.inl rfl) ⟨rfl, h⟩
      have h := h.2 hc3
      refine r_aload_n (pc := 10) hC 0 dX1_endOfSentence_10 rfl rfl ?_
      refine r_iload_n (pc := 11) hC 2 dX1_endOfSentence_11 rfl rfl ?_
      refine r_callVi (pc := 12) hC [aI x1] [] dX1_endOfSentence_12 ml_RX1_114 my_X1_behindClosing mi_X1_behindClosing lX_3 rfl rfl ⟨Nat.le_of_ble_eq_true rfl, Nat.le_of_ble_eq_true rfl⟩ ⟨Nat.le_of_ble_eq_true rfl, Nat.le_of_ble_eq_true rfl⟩ (Nat.le_of_ble_eq_true rfl) rfl (s_Page_behindClosing l _ _ _ h) (fun r3 w1 hq => ?_)
      obtain ⟨e9, h⟩ := hq
      rw [e9]
      refine r_istore_n (ls2 := [some (aR 3), some (aI a1), some (aI x1), some (aI r3)]) (pc := 15) hC 3 dX1_endOfSentence_15 rfl (by decide) rfl rfl ?_
      refine r_iload_n (pc := 16) hC 3 dX1_endOfSentence_16 rfl rfl ?_
      refine r_iconst (pc := 17) hC dX1_endOfSentence_17 (rng_lit rfl) ?_
      refine r_ic_eq (pc := 18) (tgt := 23) hC dX1_endOfSentence_18 rfl (fun hc2 => ?_) (fun hc2 => ?_)
      · have h := h.1 hc2
        refine r_aload_n (pc := 23) hC 0 dX1_endOfSentence_23 rfl rfl ?_
        refine r_iload_n (pc := 24) hC 2 dX1_endOfSentence_24 rfl rfl ?_
        refine r_callVi (pc := 25) hC [aI x1] [] dX1_endOfSentence_25 ml_RX1_117 my_X1_isEmptyLineAhead mi_X1_isEmptyLineAhead lX_3 rfl rfl ⟨Nat.le_of_ble_eq_true rfl, Nat.le_of_ble_eq_true rfl⟩ ⟨Nat.le_of_ble_eq_true rfl, Nat.le_of_ble_eq_true rfl⟩ (Nat.le_of_ble_eq_true rfl) rfl (s_Page_isEmptyLineAhead l _ _ _ h) (fun r4 w1 hq => ?_)
        obtain ⟨e9, h⟩ := hq
        rw [e9]
        refine r_if_eq (pc := 28) (tgt := 38) hC dX1_endOfSentence_28 rfl (fun hc1 => ?_) (fun hc1 => ?_)
        · have h := h.1 hc1
          refine r_iinc (ls2 := [some (aR 3), some (aI a1), some (aI (x1 + 1)), some (aI r3)]) (pc := 38) hC dX1_endOfSentence_38 rfl (by decide) rfl h.1 rfl ?_
          have h := h.2
          refine r_goto (tgt := 2) (pc := 41) hC dX1_endOfSentence_41 rfl ?_
          exact r_to [true, true, true, false] rfl rfl (ih1 (x1 + 1) (Nat.lt_of_lt_of_le h.2 (Nat.le_of_lt_succ hn1)) h.1)
        have h := h.2 hc1
        refine r_aload_n (pc := 31) hC 0 dX1_endOfSentence_31 rfl rfl ?_
        refine r_iload_n (pc := 32) hC 1 dX1_endOfSentence_32 rfl rfl ?_
        refine r_iload_n (pc := 33) hC 2 dX1_endOfSentence_33 rfl rfl ?_
        refine r_callVi (pc := 34) hC [aI a1, aI x1] [] dX1_endOfSentence_34 ml_RX1_120 my_X1_withoutBlanks mi_X1_withoutBlanks lX_3 rfl rfl ⟨Nat.le_of_ble_eq_true rfl, Nat.le_of_ble_eq_true rfl⟩ ⟨Nat.le_of_ble_eq_true rfl, Nat.le_of_ble_eq_true rfl⟩ (Nat.le_of_ble_eq_true rfl) rfl (s_Page_withoutBlanks l _ _ _ _ h) (fun r5 w1 hq => ?_)
        obtain ⟨e9, h⟩ := hq
        rw [e9]
        exact r_reti (pc := 37) (kd := 0) hC hQ dX1_endOfSentence_37 hr hk (by decide) (Or.inl rfl) ⟨rfl, h⟩
      have h := h.2 hc2
      refine r_iload_n (pc := 21) hC 3 dX1_endOfSentence_21 rfl rfl ?_
      exact r_reti (pc := 22) (kd := 0) hC hQ dX1_endOfSentence_22 hr hk (by decide) (Or.inl rfl) ⟨rfl, h⟩
  exact r_to [true, true, true, false] rfl rfl (S1 _ a1 (Nat.lt_succ_self _) hI1)
def wp_Page_findSentences (pg_bytes : (Nat → Int)) (pg_letterAt : (Nat → Int)) (pg_signAt : (Nat → Int)) (pg_sentenceBegin : (Nat → Int)) (pg_sentenceEnd : (Nat → Int)) (pg_sentenceSigns : (Nat → Int)) (pg_length : Int) (pg_sentences : Int) (Q : (Nat → Int) → (Nat → Int) → (Nat → Int) → Int → Prop) : Prop := lpw6 (fun (pg_sentenceBegin_1 : (Nat → Int)) (pg_sentenceEnd_2 : (Nat → Int)) (pg_sentenceSigns_3 : (Nat → Int)) (pg_sentences_4 : Int) (x5 : Int) (x6 : Int) (k1 : (Nat → Int) → (Nat → Int) → (Nat → Int) → Int → Int → Int → Prop) => (14 ≤ x6 → Q pg_sentenceBegin_1 pg_sentenceEnd_2 pg_sentenceSigns_3 pg_sentences_4) ∧ (¬ 14 ≤ x6 → wp_Page_firstNotBlank pg_bytes pg_length x5 (fun (r7 : Int) => (¬ r7 = pg_length → wp_Page_endOfSentence pg_bytes pg_letterAt pg_signAt pg_length r7 (fun (r8 : Int) => (0 ≤ x6 ∧ x6 < 14) ∧ ((0 ≤ x6 ∧ x6 < 14) ∧ ((0 ≤ r8 ∧ r8 < 601) ∧ ((0 ≤ r7 ∧ r7 < 601) ∧ ((rng ((pg_signAt (Int.toNat r8)) - (pg_signAt (Int.toNat r7)))) ∧ ((0 ≤ x6 ∧ x6 < 14) ∧ ((rng (pg_sentences_4 + 1)) ∧ ((rng (x6 + 1)) ∧ (k1 (uI pg_sentenceBegin_1 x6 r7) (uI pg_sentenceEnd_2 x6 r8) (uI pg_sentenceSigns_3 x6 ((pg_signAt (Int.toNat r8)) - (pg_signAt (Int.toNat r7)))) (pg_sentences_4 + 1) r8 (x6 + 1))))))))))) ∧ (r7 = pg_length → Q pg_sentenceBegin_1 pg_sentenceEnd_2 pg_sentenceSigns_3 pg_sentences_4)))) pg_sentenceBegin pg_sentenceEnd pg_sentenceSigns 0 0 0
set_option maxHeartbeats 4000000 in
set_option maxRecDepth 20000 in
theorem s_Page_findSentences (l : Launch) (w : St) (P : (Nat → Int) → (Nat → Int) → (Nat → Int) → Int → Prop) (h : wp_Page_findSentences (w.1 4) (w.1 5) (w.1 6) (w.1 11) (w.1 12) (w.1 13) (w.1 3 14) (w.1 3 17) P) : Cn l yX1_findSentences cX1_findSentences 4 none 4 LX w [aR 3] (okV (fun w1 => ∃ (o0 : (Nat → Int)) (o1 : (Nat → Int)) (o2 : (Nat → Int)) (o3 : Int), w1 = (wI (wA (wA (wA w 11 o0) 12 o1) 13 o2) 3 17 o3) ∧ P o0 o1 o2 o3)) := by
  unfold wp_Page_findSentences at h
  refine Cn.of2 [some (aR 3), none, none, none] (by decide) (Nat.le_of_ble_eq_true rfl) rfl (fun p e s m args below meth c D cA ad A Q hQ hC hr hk => ?_)
  refine r_aload_n (pc := 0) hC 0 dX1_findSentences_0 rfl rfl ?_
  refine r_iconst (pc := 1) hC dX1_findSentences_1 (rng_lit rfl) ?_
  refine r_put (kd := 0) (pc := 2) hC dX1_findSentences_2 pl_RX1_102 lX_3 rfl (by decide) (Or.inl rfl) ?_
  refine r_iconst (pc := 5) hC dX1_findSentences_5 (rng_lit rfl) ?_
  refine r_istore_n (ls2 := [some (aR 3), some (aI 0), none, none]) (pc := 6) hC 1 dX1_findSentences_6 rfl (by decide) rfl rfl ?_
  refine r_iconst (pc := 7) hC dX1_findSentences_7 (rng_lit rfl) ?_
  refine r_istore_n (ls2 := [some (aR 3), some (aI 0), some (aI 0), none]) (pc := 8) hC 2 dX1_findSentences_8 rfl (by decide) rfl rfl ?_
  obtain ⟨I1, μ1, hI1, hB1⟩ := h
  have S1 : ∀ (nn : Nat) (pg_sentenceBegin_1 : (Nat → Int)) (pg_sentenceEnd_2 : (Nat → Int)) (pg_sentenceSigns_3 : (Nat → Int)) (pg_sentences_4 : Int) (x5 : Int) (x6 : Int), μ1 pg_sentenceBegin_1 pg_sentenceEnd_2 pg_sentenceSigns_3 pg_sentences_4 x5 x6 < nn → I1 pg_sentenceBegin_1 pg_sentenceEnd_2 pg_sentenceSigns_3 pg_sentences_4 x5 x6 → Wd p l e (rmD 4) s m args below meth c Q 0 0 4 D cA ad A LX (wI (wA (wA (wA w 11 pg_sentenceBegin_1) 12 pg_sentenceEnd_2) 13 pg_sentenceSigns_3) 3 17 pg_sentences_4) 9 [some (aR 3), some (aI x5), some (aI x6), none] [] := by
    intro nn
    induction nn with
    | zero => intro pg_sentenceBegin_1 pg_sentenceEnd_2 pg_sentenceSigns_3 pg_sentences_4 x5 x6 hn; exact absurd hn (Nat.not_lt_zero _)
    | succ nn ih1 =>
      intro pg_sentenceBegin_1 pg_sentenceEnd_2 pg_sentenceSigns_3 pg_sentences_4 x5 x6 hn1 hi
      have h := hB1 pg_sentenceBegin_1 pg_sentenceEnd_2 pg_sentenceSigns_3 pg_sentences_4 x5 x6 hi
      refine r_iload_n (pc := 9) hC 2 dX1_findSentences_9 rfl rfl ?_
      refine r_bipush (pc := 10) hC dX1_findSentences_10 ⟨rfl, rng_lit rfl⟩ ?_
      refine r_ic_ge (pc := 12) (tgt := 87) hC dX1_findSentences_12 rfl (fun hc2 => ?_) (fun hc2 => ?_)
      · have h := h.1 hc2
        refine r_conv (w2 := (wI (wA (wA (wA w 11 pg_sentenceBegin_1) 12 pg_sentenceEnd_2) 13 pg_sentenceSigns_3) 3 17 pg_sentences_4)) rfl ?_
        exact r_retv (pc := 87) hC hQ dX1_findSentences_87 hr hk ⟨pg_sentenceBegin_1, pg_sentenceEnd_2, pg_sentenceSigns_3, pg_sentences_4, rfl, h⟩
      have h := h.2 hc2
      refine r_aload_n (pc := 15) hC 0 dX1_findSentences_15 rfl rfl ?_
      refine r_iload_n (pc := 16) hC 1 dX1_findSentences_16 rfl rfl ?_
      refine r_callVi (pc := 17) hC [aI x5] [] dX1_findSentences_17 ml_RX1_105 my_X1_firstNotBlank mi_X1_firstNotBlank lX_3 rfl rfl ⟨Nat.le_of_ble_eq_true rfl, Nat.le_of_ble_eq_true rfl⟩ ⟨Nat.le_of_ble_eq_true rfl, Nat.le_of_ble_eq_true rfl⟩ (Nat.le_of_ble_eq_true rfl) rfl (s_Page_firstNotBlank l _ _ _ h) (fun r7 w1 hq => ?_)
      obtain ⟨e9, h⟩ := hq
      rw [e9]
      refine r_istore_n (ls2 := [some (aR 3), some (aI x5), some (aI x6), some (aI r7)]) (pc := 20) hC 3 dX1_findSentences_20 rfl (by decide) rfl rfl ?_
      refine r_iload_n (pc := 21) hC 3 dX1_findSentences_21 rfl rfl ?_
      refine r_aload_n (pc := 22) hC 0 dX1_findSentences_22 rfl rfl ?_
      refine r_get (kd := 0) (v := (w.1 3 14)) (pc := 23) hC dX1_findSentences_23 fl_RX1_62 lX_3 rfl rfl ?_
      refine r_ic_ne (pc := 26) (tgt := 32) hC dX1_findSentences_26 rfl (fun hc1 => ?_) (fun hc1 => ?_)
      · have h := h.1 hc1
        refine r_aload_n (pc := 32) hC 0 dX1_findSentences_32 rfl rfl ?_
        refine r_iload_n (pc := 33) hC 3 dX1_findSentences_33 rfl rfl ?_
        refine r_callVi (pc := 34) hC [aI r7] [] dX1_findSentences_34 ml_RX1_108 my_X1_endOfSentence mi_X1_endOfSentence lX_3 rfl rfl ⟨Nat.le_of_ble_eq_true rfl, Nat.le_of_ble_eq_true rfl⟩ ⟨Nat.le_of_ble_eq_true rfl, Nat.le_of_ble_eq_true rfl⟩ (Nat.le_of_ble_eq_true rfl) rfl (s_Page_endOfSentence l _ _ _ h) (fun r8 w1 hq => ?_)
        obtain ⟨e9, h⟩ := hq
        rw [e9]
        refine r_istore_n (ls2 := [some (aR 3), some (aI r8), some (aI x6), some (aI r7)]) (pc := 37) hC 1 dX1_findSentences_37 rfl (by decide) rfl rfl ?_
        refine r_aload_n (pc := 38) hC 0 dX1_findSentences_38 rfl rfl ?_
        refine r_getr (r := 11) (pc := 39) hC dX1_findSentences_39 fl_RX1_34 lX_3 rfl ?_
        refine r_iload_n (pc := 42) hC 2 dX1_findSentences_42 rfl rfl ?_
        refine r_iload_n (pc := 43) hC 3 dX1_findSentences_43 rfl rfl ?_
        refine r_iast (pc := 44) hC dX1_findSentences_44 lX_11 h.1.1 h.1.2 ?_
        have h := h.2
        refine r_aload_n (pc := 45) hC 0 dX1_findSentences_45 rfl rfl ?_
        refine r_getr (r := 12) (pc := 46) hC dX1_findSentences_46 fl_RX1_37 lX_3 rfl ?_
        refine r_iload_n (pc := 49) hC 2 dX1_findSentences_49 rfl rfl ?_
        refine r_iload_n (pc := 50) hC 1 dX1_findSentences_50 rfl rfl ?_
        refine r_iast (pc := 51) hC dX1_findSentences_51 lX_12 h.1.1 h.1.2 ?_
        have h := h.2
        refine r_aload_n (pc := 52) hC 0 dX1_findSentences_52 rfl rfl ?_
        refine r_getr (r := 13) (pc := 53) hC dX1_findSentences_53 fl_RX1_40 lX_3 rfl ?_
        refine r_iload_n (pc := 56) hC 2 dX1_findSentences_56 rfl rfl ?_
        refine r_aload_n (pc := 57) hC 0 dX1_findSentences_57 rfl rfl ?_
        refine r_getr (r := 6) (pc := 58) hC dX1_findSentences_58 fl_RX1_19 lX_3 rfl ?_
        refine r_iload_n (pc := 61) hC 1 dX1_findSentences_61 rfl rfl ?_
        refine r_iald (v := ((w.1 6) (Int.toNat r8))) (pc := 62) hC dX1_findSentences_62 lX_6 h.1.1 h.1.2 rfl ?_
        have h := h.2
        refine r_aload_n (pc := 63) hC 0 dX1_findSentences_63 rfl rfl ?_
        refine r_getr (r := 6) (pc := 64) hC dX1_findSentences_64 fl_RX1_19 lX_3 rfl ?_
        refine r_iload_n (pc := 67) hC 3 dX1_findSentences_67 rfl rfl ?_
        refine r_iald (v := ((w.1 6) (Int.toNat r7))) (pc := 68) hC dX1_findSentences_68 lX_6 h.1.1 h.1.2 rfl ?_
        have h := h.2
        refine r_isub (pc := 69) hC dX1_findSentences_69 h.1 ?_
        have h := h.2
        refine r_iast (pc := 70) hC dX1_findSentences_70 lX_13 h.1.1 h.1.2 ?_
        have h := h.2
        refine r_aload_n (pc := 71) hC 0 dX1_findSentences_71 rfl rfl ?_
        refine r_dup (pc := 72) hC dX1_findSentences_72 rfl ?_
        refine r_get (kd := 0) (v := pg_sentences_4) (pc := 73) hC dX1_findSentences_73 fl_RX1_102 lX_3 rfl rfl ?_
        refine r_iconst (pc := 76) hC dX1_findSentences_76 (rng_lit rfl) ?_
        refine r_iadd (pc := 77) hC dX1_findSentences_77 h.1 ?_
        have h := h.2
        refine r_put (kd := 0) (pc := 78) hC dX1_findSentences_78 pl_RX1_102 lX_3 rfl (by decide) (Or.inl rfl) ?_
        refine r_iinc (ls2 := [some (aR 3), some (aI r8), some (aI (x6 + 1)), some (aI r7)]) (pc := 81) hC dX1_findSentences_81 rfl (by decide) rfl h.1 rfl ?_
        have h := h.2
        refine r_goto (tgt := 9) (pc := 84) hC dX1_findSentences_84 rfl ?_
        exact r_to [true, true, true, false] rfl rfl (ih1 (uI pg_sentenceBegin_1 x6 r7) (uI pg_sentenceEnd_2 x6 r8) (uI pg_sentenceSigns_3 x6 (((w.1 6) (Int.toNat r8)) - ((w.1 6) (Int.toNat r7)))) (pg_sentences_4 + 1) r8 (x6 + 1) (Nat.lt_of_lt_of_le h.2 (Nat.le_of_lt_succ hn1)) h.1)
      have h := h.2 hc1
      refine r_goto (tgt := 87) (pc := 29) hC dX1_findSentences_29 rfl ?_
      refine r_conv (w2 := (wI (wA (wA (wA w 11 pg_sentenceBegin_1) 12 pg_sentenceEnd_2) 13 pg_sentenceSigns_3) 3 17 pg_sentences_4)) rfl ?_
      exact r_retv (pc := 87) hC hQ dX1_findSentences_87 hr hk ⟨pg_sentenceBegin_1, pg_sentenceEnd_2, pg_sentenceSigns_3, pg_sentences_4, rfl, h⟩
  exact r_to [true, true, true, false] rfl rfl (S1 _ (w.1 11) (w.1 12) (w.1 13) 0 0 0 (Nat.lt_succ_self _) hI1)
def wp_Page_findWords (pg_letterAt : (Nat → Int)) (pg_wordBegin : (Nat → Int)) (pg_wordEnd : (Nat → Int)) (pg_length : Int) (pg_words : Int) (Q : (Nat → Int) → (Nat → Int) → Int → Prop) : Prop := lpw4 (fun (pg_wordBegin_1 : (Nat → Int)) (pg_wordEnd_2 : (Nat → Int)) (pg_words_3 : Int) (x4 : Int) (k1 : (Nat → Int) → (Nat → Int) → Int → Int → Prop) => (pg_length ≤ x4 → Q pg_wordBegin_1 pg_wordEnd_2 pg_words_3) ∧ (¬ pg_length ≤ x4 → (100 ≤ pg_words_3 → Q pg_wordBegin_1 pg_wordEnd_2 pg_words_3) ∧ (¬ 100 ≤ pg_words_3 → wp_Page_isLetter pg_letterAt pg_length x4 (fun (r5 : Int) => jn1 (fun (J2 : (Nat → Int) → Prop) => (r5 = 0 → J2 pg_wordBegin_1) ∧ (¬ r5 = 0 → (rng (x4 - 1)) ∧ (wp_Page_isLetter pg_letterAt pg_length (x4 - 1) (fun (r11 : Int) => (¬ r11 = 0 → J2 pg_wordBegin_1) ∧ (r11 = 0 → (0 ≤ pg_words_3 ∧ pg_words_3 < 100) ∧ (J2 (uI pg_wordBegin_1 pg_words_3 x4))))))) (fun (pg_wordBegin_6 : (Nat → Int)) => wp_Page_isLetter pg_letterAt pg_length x4 (fun (r7 : Int) => jn2 (fun (J3 : (Nat → Int) → Int → Prop) => (r7 = 0 → J3 pg_wordEnd_2 pg_words_3) ∧ (¬ r7 = 0 → (rng (x4 + 1)) ∧ (wp_Page_isLetter pg_letterAt pg_length (x4 + 1) (fun (r10 : Int) => (¬ r10 = 0 → J3 pg_wordEnd_2 pg_words_3) ∧ (r10 = 0 → (rng (x4 + 1)) ∧ ((0 ≤ pg_words_3 ∧ pg_words_3 < 100) ∧ ((rng (pg_words_3 + 1)) ∧ (J3 (uI pg_wordEnd_2 pg_words_3 (x4 + 1)) (pg_words_3 + 1))))))))) (fun (pg_wordEnd_8 : (Nat → Int)) (pg_words_9 : Int) => (rng (x4 + 1)) ∧ (k1 pg_wordBegin_6 pg_wordEnd_8 pg_words_9 (x4 + 1))))))))) pg_wordBegin pg_wordEnd 0 0
set_option maxHeartbeats 4000000 in
set_option maxRecDepth 20000 in
theorem s_Page_findWords (l : Launch) (w : St) (P : (Nat → Int) → (Nat → Int) → Int → Prop) (h : wp_Page_findWords (w.1 5) (w.1 7) (w.1 8) (w.1 3 14) (w.1 3 16) P) : Cn l yX1_findWords cX1_findWords 2 none 1 LX w [aR 3] (okV (fun w1 => ∃ (o0 : (Nat → Int)) (o1 : (Nat → Int)) (o2 : Int), w1 = (wI (wA (wA w 7 o0) 8 o1) 3 16 o2) ∧ P o0 o1 o2)) := by
  unfold wp_Page_findWords at h
  refine Cn.of2 [some (aR 3), none] (by decide) (Nat.le_of_ble_eq_true rfl) rfl (fun p e s m args below meth c D cA ad A Q hQ hC hr hk => ?_)
  refine r_aload_n (pc := 0) hC 0 dX1_findWords_0 rfl rfl ?_
  refine r_iconst (pc := 1) hC dX1_findWords_1 (rng_lit rfl) ?_
  refine r_put (kd := 0) (pc := 2) hC dX1_findWords_2 pl_RX1_96 lX_3 rfl (by decide) (Or.inl rfl) ?_
  refine r_iconst (pc := 5) hC dX1_findWords_5 (rng_lit rfl) ?_
  refine r_istore_n (ls2 := [some (aR 3), some (aI 0)]) (pc := 6) hC 1 dX1_findWords_6 rfl (by decide) rfl rfl ?_
  obtain ⟨I1, μ1, hI1, hB1⟩ := h
  have S1 : ∀ (nn : Nat) (pg_wordBegin_1 : (Nat → Int)) (pg_wordEnd_2 : (Nat → Int)) (pg_words_3 : Int) (x4 : Int), μ1 pg_wordBegin_1 pg_wordEnd_2 pg_words_3 x4 < nn → I1 pg_wordBegin_1 pg_wordEnd_2 pg_words_3 x4 → Wd p l e (rmD 1) s m args below meth c Q 0 0 2 D cA ad A LX (wI (wA (wA w 7 pg_wordBegin_1) 8 pg_wordEnd_2) 3 16 pg_words_3) 7 [some (aR 3), some (aI x4)] [] := by
    intro nn
    induction nn with
    | zero => intro pg_wordBegin_1 pg_wordEnd_2 pg_words_3 x4 hn; exact absurd hn (Nat.not_lt_zero _)
    | succ nn ih1 =>
      intro pg_wordBegin_1 pg_wordEnd_2 pg_words_3 x4 hn1 hi
      have h := hB1 pg_wordBegin_1 pg_wordEnd_2 pg_words_3 x4 hi
      refine r_iload_n (pc := 7) hC 1 dX1_findWords_7 rfl rfl ?_
      refine r_aload_n (pc := 8) hC 0 dX1_findWords_8 rfl rfl ?_
      refine r_get (kd := 0) (v := (w.1 3 14)) (pc := 9) hC dX1_findWords_9 fl_RX1_62 lX_3 rfl rfl ?_
      refine r_ic_ge (pc := 12) (tgt := 98) hC dX1_findWords_12 rfl (fun hc6 => ?_) (fun hc6 => ?_)
      · have h := h.1 hc6
        refine r_conv (w2 := (wI (wA (wA w 7 pg_wordBegin_1) 8 pg_wordEnd_2) 3 16 pg_words_3)) rfl ?_
        exact r_retv (pc := 98) hC hQ dX1_findWords_98 hr hk ⟨pg_wordBegin_1, pg_wordEnd_2, pg_words_3, rfl, h⟩
      have h := h.2 hc6
      refine r_aload_n (pc := 15) hC 0 dX1_findWords_15 rfl rfl ?_
      refine r_get (kd := 0) (v := pg_words_3) (pc := 16) hC dX1_findWords_16 fl_RX1_96 lX_3 rfl rfl ?_
      refine r_bipush (pc := 19) hC dX1_findWords_19 ⟨rfl, rng_lit rfl⟩ ?_
      refine r_ic_ge (pc := 21) (tgt := 98) hC dX1_findWords_21 rfl (fun hc5 => ?_) (fun hc5 => ?_)
      · have h := h.1 hc5
        refine r_conv (w2 := (wI (wA (wA w 7 pg_wordBegin_1) 8 pg_wordEnd_2) 3 16 pg_words_3)) rfl ?_
        exact r_retv (pc := 98) hC hQ dX1_findWords_98 hr hk ⟨pg_wordBegin_1, pg_wordEnd_2, pg_words_3, rfl, h⟩
      have h := h.2 hc5
      refine r_aload_n (pc := 24) hC 0 dX1_findWords_24 rfl rfl ?_
      refine r_iload_n (pc := 25) hC 1 dX1_findWords_25 rfl rfl ?_
      refine r_callVi (pc := 26) hC [aI x4] [] dX1_findWords_26 ml_RX1_99 my_X1_isLetter mi_X1_isLetter lX_3 rfl rfl ⟨Nat.le_of_ble_eq_true rfl, Nat.le_of_ble_eq_true rfl⟩ ⟨Nat.le_of_ble_eq_true rfl, Nat.le_of_ble_eq_true rfl⟩ (Nat.le_of_ble_eq_true rfl) rfl (s_Page_isLetter l _ _ _ h) (fun r5 w1 hq => ?_)
      obtain ⟨e9, h⟩ := hq
      rw [e9]
      obtain ⟨J2, hJ2, h⟩ := h
      have S2 : ∀ (pg_wordBegin_6 : (Nat → Int)), J2 pg_wordBegin_6 → Wd p l e (rmD 1) s m args below meth c Q 0 0 2 D cA ad A LX (wI (wA (wA w 7 pg_wordBegin_6) 8 pg_wordEnd_2) 3 16 pg_words_3) 52 [some (aR 3), some (aI x4)] [] := by
        intro pg_wordBegin_6 hj
        have h := hJ2 pg_wordBegin_6 hj
        refine r_aload_n (pc := 52) hC 0 dX1_findWords_52 rfl rfl ?_
        refine r_iload_n (pc := 53) hC 1 dX1_findWords_53 rfl rfl ?_
        refine r_callVi (pc := 54) hC [aI x4] [] dX1_findWords_54 ml_RX1_99 my_X1_isLetter mi_X1_isLetter lX_3 rfl rfl ⟨Nat.le_of_ble_eq_true rfl, Nat.le_of_ble_eq_true rfl⟩ ⟨Nat.le_of_ble_eq_true rfl, Nat.le_of_ble_eq_true rfl⟩ (Nat.le_of_ble_eq_true rfl) rfl (s_Page_isLetter l _ _ _ h) (fun r7 w1 hq => ?_)
        obtain ⟨e9, h⟩ := hq
        rw [e9]
        obtain ⟨J3, hJ3, h⟩ := h
        have S3 : ∀ (pg_wordEnd_8 : (Nat → Int)) (pg_words_9 : Int), J3 pg_wordEnd_8 pg_words_9 → Wd p l e (rmD 1) s m args below meth c Q 0 0 2 D cA ad A LX (wI (wA (wA w 7 pg_wordBegin_6) 8 pg_wordEnd_8) 3 16 pg_words_9) 92 [some (aR 3), some (aI x4)] [] := by
          intro pg_wordEnd_8 pg_words_9 hj
          have h := hJ3 pg_wordEnd_8 pg_words_9 hj
          refine r_iinc (ls2 := [some (aR 3), some (aI (x4 + 1))]) (pc := 92) hC dX1_findWords_92 rfl (by decide) rfl h.1 rfl ?_
          have h := h.2
          refine r_goto (tgt := 7) (pc := 95) hC dX1_findWords_95 rfl ?_
          exact r_to [true, true] rfl rfl (ih1 pg_wordBegin_6 pg_wordEnd_8 pg_words_9 (x4 + 1) (Nat.lt_of_lt_of_le h.2 (Nat.le_of_lt_succ hn1)) h.1)
        refine r_if_eq (pc := 57) (tgt := 92) hC dX1_findWords_57 rfl (fun hc2 => ?_) (fun hc2 => ?_)
        · have h := h.1 hc2
          exact r_to [true, true] rfl rfl (S3 pg_wordEnd_2 pg_words_3 h)
        have h := h.2 hc2
        refine r_aload_n (pc := 60) hC 0 dX1_findWords_60 rfl rfl ?_
        refine r_iload_n (pc := 61) hC 1 dX1_findWords_61 rfl rfl ?_
        refine r_iconst (pc := 62) hC dX1_findWords_62 (rng_lit rfl) ?_
        refine r_iadd (pc := 63) hC dX1_findWords_63 h.1 ?_
        have h := h.2
        refine r_callVi (pc := 64) hC [aI (x4 + 1)] [] dX1_findWords_64 ml_RX1_99 my_X1_isLetter mi_X1_isLetter lX_3 rfl rfl ⟨Nat.le_of_ble_eq_true rfl, Nat.le_of_ble_eq_true rfl⟩ ⟨Nat.le_of_ble_eq_true rfl, Nat.le_of_ble_eq_true rfl⟩ (Nat.le_of_ble_eq_true rfl) rfl (s_Page_isLetter l _ _ _ h) (fun r10 w1 hq => ?_)
        obtain ⟨e9, h⟩ := hq
        rw [e9]
        refine r_if_ne (pc := 67) (tgt := 92) hC dX1_findWords_67 rfl (fun hc1 => ?_) (fun hc1 => ?_)
        · have h := h.1 hc1
          exact r_to [true, true] rfl rfl (S3 pg_wordEnd_2 pg_words_3 h)
        have h := h.2 hc1
        refine r_aload_n (pc := 70) hC 0 dX1_findWords_70 rfl rfl ?_
        refine r_getr (r := 8) (pc := 71) hC dX1_findWords_71 fl_RX1_25 lX_3 rfl ?_
        refine r_aload_n (pc := 74) hC 0 dX1_findWords_74 rfl rfl ?_
        refine r_get (kd := 0) (v := pg_words_3) (pc := 75) hC dX1_findWords_75 fl_RX1_96 lX_3 rfl rfl ?_
        refine r_iload_n (pc := 78) hC 1 dX1_findWords_78 rfl rfl ?_
        refine r_iconst (pc := 79) hC dX1_findWords_79 (rng_lit rfl) ?_
        refine r_iadd (pc := 80) hC dX1_findWords_80 h.1 ?_
        have h := h.2
        refine r_iast (pc := 81) hC dX1_findWords_81 lX_8 h.1.1 h.1.2 ?_
        have h := h.2
        refine r_aload_n (pc := 82) hC 0 dX1_findWords_82 rfl rfl ?_
        refine r_dup (pc := 83) hC dX1_findWords_83 rfl ?_
        refine r_get (kd := 0) (v := pg_words_3) (pc := 84) hC dX1_findWords_84 fl_RX1_96 lX_3 rfl rfl ?_
        refine r_iconst (pc := 87) hC dX1_findWords_87 (rng_lit rfl) ?_
        refine r_iadd (pc := 88) hC dX1_findWords_88 h.1 ?_
        have h := h.2
        refine r_put (kd := 0) (pc := 89) hC dX1_findWords_89 pl_RX1_96 lX_3 rfl (by decide) (Or.inl rfl) ?_
        exact r_to [true, true] rfl rfl (S3 (uI pg_wordEnd_2 pg_words_3 (x4 + 1)) (pg_words_3 + 1) h)
      refine r_if_eq (pc := 29) (tgt := 52) hC dX1_findWords_29 rfl (fun hc4 => ?_) (fun hc4 => ?_)
      · have h := h.1 hc4
        exact r_to [true, true] rfl rfl (S2 pg_wordBegin_1 h)
      have h := h.2 hc4
      refine r_aload_n (pc := 32) hC 0 dX1_findWords_32 rfl rfl ?_
      refine r_iload_n (pc := 33) hC 1 dX1_findWords_33 rfl rfl ?_
      refine r_iconst (pc := 34) hC dX1_findWords_34 (rng_lit rfl) ?_
      refine r_isub (pc := 35) hC dX1_findWords_35 h.1 ?_
      have h := h.2
      refine r_callVi (pc := 36) hC [aI (x4 - 1)] [] dX1_findWords_36 ml_RX1_99 my_X1_isLetter mi_X1_isLetter lX_3 rfl rfl ⟨Nat.le_of_ble_eq_true rfl, Nat.le_of_ble_eq_true rfl⟩ ⟨Nat.le_of_ble_eq_true rfl, Nat.le_of_ble_eq_true rfl⟩ (Nat.le_of_ble_eq_true rfl) rfl (s_Page_isLetter l _ _ _ h) (fun r11 w1 hq => ?_)
      obtain ⟨e9, h⟩ := hq
      rw [e9]
      refine r_if_ne (pc := 39) (tgt := 52) hC dX1_findWords_39 rfl (fun hc3 => ?_) (fun hc3 => ?_)
      · have h := h.1 hc3
        exact r_to [true, true] rfl rfl (S2 pg_wordBegin_1 h)
      have h := h.2 hc3
      refine r_aload_n (pc := 42) hC 0 dX1_findWords_42 rfl rfl ?_
      refine r_getr (r := 7) (pc := 43) hC dX1_findWords_43 fl_RX1_22 lX_3 rfl ?_
      refine r_aload_n (pc := 46) hC 0 dX1_findWords_46 rfl rfl ?_
      refine r_get (kd := 0) (v := pg_words_3) (pc := 47) hC dX1_findWords_47 fl_RX1_96 lX_3 rfl rfl ?_
      refine r_iload_n (pc := 50) hC 1 dX1_findWords_50 rfl rfl ?_
      refine r_iast (pc := 51) hC dX1_findWords_51 lX_7 h.1.1 h.1.2 ?_
      have h := h.2
      exact r_to [true, true] rfl rfl (S2 (uI pg_wordBegin_1 pg_words_3 x4) h)
  exact r_to [true, true] rfl rfl (S1 _ (w.1 7) (w.1 8) 0 0 (Nat.lt_succ_self _) hI1)
