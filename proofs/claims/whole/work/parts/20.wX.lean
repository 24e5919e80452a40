def wp_JA_fill_30 (mt_beginning : (Nat → Int)) (a1 : Int) (Q : (Nat → Int) → Prop) : Prop := lpw2 (fun (mt_beginning_1 : (Nat → Int)) (x2 : Int) (k1 : (Nat → Int) → Int → Prop) => (100 ≤ x2 → Q mt_beginning_1) ∧ (¬ 100 ≤ x2 → (0 ≤ x2 ∧ x2 < 100) ∧ ((rng (x2 + 1)) ∧ (k1 (uI mt_beginning_1 x2 a1) (x2 + 1))))) mt_beginning 0
set_option maxHeartbeats 4000000 in
set_option maxRecDepth 20000 in
theorem s_JA_fill_30 (l : Launch) (w : St) (a1 : Int) (P : (Nat → Int) → Prop) (h : wp_JA_fill_30 (w.1 30) a1 P) : Cn l yJ7_fill_53178 cJ7_fill_53178 4 none 0 LX w [aR 30, aI a1] (okV (fun w1 => ∃ (o0 : (Nat → Int)), w1 = (wA w 30 o0) ∧ P o0)) := by
  unfold wp_JA_fill_30 at h
  refine Cn.of2 [some (aR 30), some (aI a1), none, none] (by decide) (Nat.le_of_ble_eq_true rfl) rfl (fun p e s m args below meth c D cA ad A Q hQ hC hr hk => ?_)
  refine r_iconst (pc := 0) hC dJ7_fill_53178_0 (rng_lit rfl) ?_
  refine r_istore_n (ls2 := [some (aR 30), some (aI a1), some (aI 0), none]) (pc := 1) hC 2 dJ7_fill_53178_1 rfl (by decide) rfl rfl ?_
  refine r_aload_n (pc := 2) hC 0 dJ7_fill_53178_2 rfl rfl ?_
  refine r_alen (pc := 3) hC dJ7_fill_53178_3 lX_30 (by decide) (by decide) ?_
  refine r_istore_n (ls2 := [some (aR 30), some (aI a1), some (aI 0), some (aI 100)]) (pc := 4) hC 3 dJ7_fill_53178_4 rfl (by decide) rfl rfl ?_
  obtain ⟨I1, μ1, hI1, hB1⟩ := h
  have S1 : ∀ (nn : Nat) (mt_beginning_1 : (Nat → Int)) (x2 : Int), μ1 mt_beginning_1 x2 < nn → I1 mt_beginning_1 x2 → Wd p l e (rmD 0) s m args below meth c Q 0 0 4 D cA ad A LX (wA w 30 mt_beginning_1) 5 [some (aR 30), some (aI a1), some (aI x2), some (aI 100)] [] := by
    intro nn
    induction nn with
    | zero => intro mt_beginning_1 x2 hn; exact absurd hn (Nat.not_lt_zero _)
    | succ nn ih1 =>
      intro mt_beginning_1 x2 hn1 hi
      have h := hB1 mt_beginning_1 x2 hi
      refine r_iload_n (pc := 5) hC 2 dJ7_fill_53178_5 rfl rfl ?_
      refine r_iload_n (pc := 6) hC 3 dJ7_fill_53178_6 rfl rfl ?_
      refine r_ic_ge (pc := 7) (tgt := 20) hC dJ7_fill_53178_7 rfl (fun hc1 => ?_) (fun hc1 => ?_)
      · have h := h.1 hc1
        refine r_conv (w2 := (wA w 30 mt_beginning_1)) rfl ?_
        exact r_retv (pc := 20) hC hQ dJ7_fill_53178_20 hr hk ⟨mt_beginning_1, rfl, h⟩
      have h := h.2 hc1
      refine r_aload_n (pc := 10) hC 0 dJ7_fill_53178_10 rfl rfl ?_
      refine r_iload_n (pc := 11) hC 2 dJ7_fill_53178_11 rfl rfl ?_
      refine r_iload_n (pc := 12) hC 1 dJ7_fill_53178_12 rfl rfl ?_
      refine r_iast (pc := 13) hC dJ7_fill_53178_13 lX_30 h.1.1 h.1.2 ?_
      have h := h.2
      refine r_iinc (ls2 := [some (aR 30), some (aI a1), some (aI (x2 + 1)), some (aI 100)]) (pc := 14) hC dJ7_fill_53178_14 rfl (by decide) rfl h.1 rfl ?_
      have h := h.2
      refine r_goto (tgt := 5) (pc := 17) hC dJ7_fill_53178_17 rfl ?_
      exact r_to [true, true, true, true] rfl rfl (ih1 (uI mt_beginning_1 x2 a1) (x2 + 1) (Nat.lt_of_lt_of_le h.2 (Nat.le_of_lt_succ hn1)) h.1)
  exact r_to [true, true, true, true] rfl rfl (S1 _ (w.1 30) 0 (Nat.lt_succ_self _) hI1)
def wp_JA_fill_31 (mt_ending : (Nat → Int)) (a1 : Int) (Q : (Nat → Int) → Prop) : Prop := lpw2 (fun (mt_ending_1 : (Nat → Int)) (x2 : Int) (k1 : (Nat → Int) → Int → Prop) => (100 ≤ x2 → Q mt_ending_1) ∧ (¬ 100 ≤ x2 → (0 ≤ x2 ∧ x2 < 100) ∧ ((rng (x2 + 1)) ∧ (k1 (uI mt_ending_1 x2 a1) (x2 + 1))))) mt_ending 0
set_option maxHeartbeats 4000000 in
set_option maxRecDepth 20000 in
theorem s_JA_fill_31 (l : Launch) (w : St) (a1 : Int) (P : (Nat → Int) → Prop) (h : wp_JA_fill_31 (w.1 31) a1 P) : Cn l yJ7_fill_53178 cJ7_fill_53178 4 none 0 LX w [aR 31, aI a1] (okV (fun w1 => ∃ (o0 : (Nat → Int)), w1 = (wA w 31 o0) ∧ P o0)) := by
  unfold wp_JA_fill_31 at h
  refine Cn.of2 [some (aR 31), some (aI a1), none, none] (by decide) (Nat.le_of_ble_eq_true rfl) rfl (fun p e s m args below meth c D cA ad A Q hQ hC hr hk => ?_)
  refine r_iconst (pc := 0) hC dJ7_fill_53178_0 (rng_lit rfl) ?_
  refine r_istore_n (ls2 := [some (aR 31), some (aI a1), some (aI 0), none]) (pc := 1) hC 2 dJ7_fill_53178_1 rfl (by decide) rfl rfl ?_
  refine r_aload_n (pc := 2) hC 0 dJ7_fill_53178_2 rfl rfl ?_
  refine r_alen (pc := 3) hC dJ7_fill_53178_3 lX_31 (by decide) (by decide) ?_
  refine r_istore_n (ls2 := [some (aR 31), some (aI a1), some (aI 0), some (aI 100)]) (pc := 4) hC 3 dJ7_fill_53178_4 rfl (by decide) rfl rfl ?_
  obtain ⟨I1, μ1, hI1, hB1⟩ := h
  have S1 : ∀ (nn : Nat) (mt_ending_1 : (Nat → Int)) (x2 : Int), μ1 mt_ending_1 x2 < nn → I1 mt_ending_1 x2 → Wd p l e (rmD 0) s m args below meth c Q 0 0 4 D cA ad A LX (wA w 31 mt_ending_1) 5 [some (aR 31), some (aI a1), some (aI x2), some (aI 100)] [] := by
    intro nn
    induction nn with
    | zero => intro mt_ending_1 x2 hn; exact absurd hn (Nat.not_lt_zero _)
    | succ nn ih1 =>
      intro mt_ending_1 x2 hn1 hi
      have h := hB1 mt_ending_1 x2 hi
      refine r_iload_n (pc := 5) hC 2 dJ7_fill_53178_5 rfl rfl ?_
      refine r_iload_n (pc := 6) hC 3 dJ7_fill_53178_6 rfl rfl ?_
      refine r_ic_ge (pc := 7) (tgt := 20) hC dJ7_fill_53178_7 rfl (fun hc1 => ?_) (fun hc1 => ?_)
      · have h := h.1 hc1
        refine r_conv (w2 := (wA w 31 mt_ending_1)) rfl ?_
        exact r_retv (pc := 20) hC hQ dJ7_fill_53178_20 hr hk ⟨mt_ending_1, rfl, h⟩
      have h := h.2 hc1
      refine r_aload_n (pc := 10) hC 0 dJ7_fill_53178_10 rfl rfl ?_
      refine r_iload_n (pc := 11) hC 2 dJ7_fill_53178_11 rfl rfl ?_
      refine r_iload_n (pc := 12) hC 1 dJ7_fill_53178_12 rfl rfl ?_
      refine r_iast (pc := 13) hC dJ7_fill_53178_13 lX_31 h.1.1 h.1.2 ?_
      have h := h.2
      refine r_iinc (ls2 := [some (aR 31), some (aI a1), some (aI (x2 + 1)), some (aI 100)]) (pc := 14) hC dJ7_fill_53178_14 rfl (by decide) rfl h.1 rfl ?_
      have h := h.2
      refine r_goto (tgt := 5) (pc := 17) hC dJ7_fill_53178_17 rfl ?_
      exact r_to [true, true, true, true] rfl rfl (ih1 (uI mt_ending_1 x2 a1) (x2 + 1) (Nat.lt_of_lt_of_le h.2 (Nat.le_of_lt_succ hn1)) h.1)
  exact r_to [true, true, true, true] rfl rfl (S1 _ (w.1 31) 0 (Nat.lt_succ_self _) hI1)
def wp_JA_fill_32 (mt_touching : (Nat → Int)) (a1 : Int) (Q : (Nat → Int) → Prop) : Prop := lpw2 (fun (mt_touching_1 : (Nat → Int)) (x2 : Int) (k1 : (Nat → Int) → Int → Prop) => (100 ≤ x2 → Q mt_touching_1) ∧ (¬ 100 ≤ x2 → (0 ≤ x2 ∧ x2 < 100) ∧ ((rng (x2 + 1)) ∧ (k1 (uI mt_touching_1 x2 a1) (x2 + 1))))) mt_touching 0
set_option maxHeartbeats 4000000 in
set_option maxRecDepth 20000 in
theorem s_JA_fill_32 (l : Launch) (w : St) (a1 : Int) (P : (Nat → Int) → Prop) (h : wp_JA_fill_32 (w.1 32) a1 P) : Cn l yJ7_fill_53178 cJ7_fill_53178 4 none 0 LX w [aR 32, aI a1] (okV (fun w1 => ∃ (o0 : (Nat → Int)), w1 = (wA w 32 o0) ∧ P o0)) := by
  unfold wp_JA_fill_32 at h
  refine Cn.of2 [some (aR 32), some (aI a1), none, none] (by decide) (Nat.le_of_ble_eq_true rfl) rfl (fun p e s m args below meth c D cA ad A Q hQ hC hr hk => ?_)
  refine r_iconst (pc := 0) hC dJ7_fill_53178_0 (rng_lit rfl) ?_
  refine r_istore_n (ls2 := [some (aR 32), some (aI a1), some (aI 0), none]) (pc := 1) hC 2 dJ7_fill_53178_1 rfl (by decide) rfl rfl ?_
  refine r_aload_n (pc := 2) hC 0 dJ7_fill_53178_2 rfl rfl ?_
  refine r_alen (pc := 3) hC dJ7_fill_53178_3 lX_32 (by decide) (by decide) ?_
  refine r_istore_n (ls2 := [some (aR 32), some (aI a1), some (aI 0), some (aI 100)]) (pc := 4) hC 3 dJ7_fill_53178_4 rfl (by decide) rfl rfl ?_
  obtain ⟨I1, μ1, hI1, hB1⟩ := h
  have S1 : ∀ (nn : Nat) (mt_touching_1 : (Nat → Int)) (x2 : Int), μ1 mt_touching_1 x2 < nn → I1 mt_touching_1 x2 → Wd p l e (rmD 0) s m args below meth c Q 0 0 4 D cA ad A LX (wA w 32 mt_touching_1) 5 [some (aR 32), some (aI a1), some (aI x2), some (aI 100)] [] := by
    intro nn
    induction nn with
    | zero => intro mt_touching_1 x2 hn; exact absurd hn (Nat.not_lt_zero _)
    | succ nn ih1 =>
      intro mt_touching_1 x2 hn1 hi
      have h := hB1 mt_touching_1 x2 hi
      refine r_iload_n (pc := 5) hC 2 dJ7_fill_53178_5 rfl rfl ?_
      refine r_iload_n (pc := 6) hC 3 dJ7_fill_53178_6 rfl rfl ?_
      refine r_ic_ge (pc := 7) (tgt := 20) hC dJ7_fill_53178_7 rfl (fun hc1 => ?_) (fun hc1 => ?_)
      · have h := h.1 hc1
        refine r_conv (w2 := (wA w 32 mt_touching_1)) rfl ?_
        exact r_retv (pc := 20) hC hQ dJ7_fill_53178_20 hr hk ⟨mt_touching_1, rfl, h⟩
      have h := h.2 hc1
      refine r_aload_n (pc := 10) hC 0 dJ7_fill_53178_10 rfl rfl ?_
      refine r_iload_n (pc := 11) hC 2 dJ7_fill_53178_11 rfl rfl ?_
      refine r_iload_n (pc := 12) hC 1 dJ7_fill_53178_12 rfl rfl ?_
      refine r_iast (pc := 13) hC dJ7_fill_53178_13 lX_32 h.1.1 h.1.2 ?_
      have h := h.2
      refine r_iinc (ls2 := [some (aR 32), some (aI a1), some (aI (x2 + 1)), some (aI 100)]) (pc := 14) hC dJ7_fill_53178_14 rfl (by decide) rfl h.1 rfl ?_
      have h := h.2
      refine r_goto (tgt := 5) (pc := 17) hC dJ7_fill_53178_17 rfl ?_
      exact r_to [true, true, true, true] rfl rfl (ih1 (uI mt_touching_1 x2 a1) (x2 + 1) (Nat.lt_of_lt_of_le h.2 (Nat.le_of_lt_succ hn1)) h.1)
  exact r_to [true, true, true, true] rfl rfl (S1 _ (w.1 32) 0 (Nat.lt_succ_self _) hI1)
def wp_JA_fill_33 (mt_tallies : (Nat → Int64)) (a1 : Int64) (Q : (Nat → Int64) → Prop) : Prop := lpw2 (fun (mt_tallies_1 : (Nat → Int64)) (x2 : Int) (k1 : (Nat → Int64) → Int → Prop) => (14 ≤ x2 → Q mt_tallies_1) ∧ (¬ 14 ≤ x2 → (0 ≤ x2 ∧ x2 < 14) ∧ ((rng (x2 + 1)) ∧ (k1 (uL mt_tallies_1 x2 a1) (x2 + 1))))) mt_tallies 0
set_option maxHeartbeats 4000000 in
set_option maxRecDepth 20000 in
theorem s_JA_fill_33 (l : Launch) (w : St) (a1 : Int64) (P : (Nat → Int64) → Prop) (h : wp_JA_fill_33 (w.2 33) a1 P) : Cn l yJ7_fill_d0a16 cJ7_fill_d0a16 5 none 0 LX w [aR 33, aL a1] (okV (fun w1 => ∃ (o0 : (Nat → Int64)), w1 = (wB w 33 o0) ∧ P o0)) := by
  unfold wp_JA_fill_33 at h
  refine Cn.of2 [some (aR 33), some (aL a1), none, none, none] (by decide) (Nat.le_of_ble_eq_true rfl) rfl (fun p e s m args below meth c D cA ad A Q hQ hC hr hk => ?_)
  refine r_iconst (pc := 0) hC dJ7_fill_d0a16_0 (rng_lit rfl) ?_
  refine r_istore_n (ls2 := [some (aR 33), some (aL a1), none, some (aI 0), none]) (pc := 1) hC 3 dJ7_fill_d0a16_1 rfl (by decide) rfl rfl ?_
  refine r_aload_n (pc := 2) hC 0 dJ7_fill_d0a16_2 rfl rfl ?_
  refine r_alen (pc := 3) hC dJ7_fill_d0a16_3 lX_33 (by decide) (by decide) ?_
  refine r_istore (ls2 := [some (aR 33), some (aL a1), none, some (aI 0), some (aI 14)]) (pc := 4) hC dJ7_fill_d0a16_4 (by decide) rfl rfl ?_
  obtain ⟨I1, μ1, hI1, hB1⟩ := h
  have S1 : ∀ (nn : Nat) (mt_tallies_1 : (Nat → Int64)) (x2 : Int), μ1 mt_tallies_1 x2 < nn → I1 mt_tallies_1 x2 → Wd p l e (rmD 0) s m args below meth c Q 0 0 5 D cA ad A LX (wB w 33 mt_tallies_1) 6 [some (aR 33), some (aL a1), none, some (aI x2), some (aI 14)] [] := by
    intro nn
    induction nn with
    | zero => intro mt_tallies_1 x2 hn; exact absurd hn (Nat.not_lt_zero _)
    | succ nn ih1 =>
      intro mt_tallies_1 x2 hn1 hi
      have h := hB1 mt_tallies_1 x2 hi
      refine r_iload_n (pc := 6) hC 3 dJ7_fill_d0a16_6 rfl rfl ?_
      refine r_iload (pc := 7) hC dJ7_fill_d0a16_7 rfl ?_
      refine r_ic_ge (pc := 9) (tgt := 22) hC dJ7_fill_d0a16_9 rfl (fun hc1 => ?_) (fun hc1 => ?_)
      · have h := h.1 hc1
        refine r_conv (w2 := (wB w 33 mt_tallies_1)) rfl ?_
        exact r_retv (pc := 22) hC hQ dJ7_fill_d0a16_22 hr hk ⟨mt_tallies_1, rfl, h⟩
      have h := h.2 hc1
      refine r_aload_n (pc := 12) hC 0 dJ7_fill_d0a16_12 rfl rfl ?_
      refine r_iload_n (pc := 13) hC 3 dJ7_fill_d0a16_13 rfl rfl ?_
      refine r_lload_n (pc := 14) hC 1 dJ7_fill_d0a16_14 rfl rfl ?_
      refine r_last (pc := 15) hC dJ7_fill_d0a16_15 lX_33 h.1.1 h.1.2 ?_
      have h := h.2
      refine r_iinc (ls2 := [some (aR 33), some (aL a1), none, some (aI (x2 + 1)), some (aI 14)]) (pc := 16) hC dJ7_fill_d0a16_16 rfl (by decide) rfl h.1 rfl ?_
      have h := h.2
      refine r_goto (tgt := 6) (pc := 19) hC dJ7_fill_d0a16_19 rfl ?_
      exact r_to [true, true, false, true, true] rfl rfl (ih1 (uL mt_tallies_1 x2 a1) (x2 + 1) (Nat.lt_of_lt_of_le h.2 (Nat.le_of_lt_succ hn1)) h.1)
  exact r_to [true, true, false, true, true] rfl rfl (S1 _ (w.2 33) 0 (Nat.lt_succ_self _) hI1)
def wp_Page_lastWordOf (pg_sentenceFirst : (Nat → Int)) (pg_sentenceWords : (Nat → Int)) (a1 : Int) (Q : Int → Prop) : Prop := (0 ≤ a1 ∧ a1 < 14) ∧ ((¬ (pg_sentenceWords (Int.toNat a1)) = 0 → (0 ≤ a1 ∧ a1 < 14) ∧ ((0 ≤ a1 ∧ a1 < 14) ∧ ((rng ((pg_sentenceFirst (Int.toNat a1)) + (pg_sentenceWords (Int.toNat a1)))) ∧ ((rng (((pg_sentenceFirst (Int.toNat a1)) + (pg_sentenceWords (Int.toNat a1))) - 1)) ∧ (Q (((pg_sentenceFirst (Int.toNat a1)) + (pg_sentenceWords (Int.toNat a1))) - 1)))))) ∧ ((pg_sentenceWords (Int.toNat a1)) = 0 → Q (-1)))
set_option maxHeartbeats 4000000 in
set_option maxRecDepth 20000 in
theorem s_Page_lastWordOf (l : Launch) (w : St) (a1 : Int) (P : Int → Prop) (h : wp_Page_lastWordOf (w.1 14) (w.1 15) a1 P) : Cn l yX1_lastWordOf cX1_lastWordOf 2 (some .int) 0 LX w [aR 3, aI a1] (okI (fun r w1 => w1 = w ∧ P r)) := by
  unfold wp_Page_lastWordOf at h
  refine Cn.of2 [some (aR 3), some (aI a1)] (by decide) (Nat.le_of_ble_eq_true rfl) rfl (fun p e s m args below meth c D cA ad A Q hQ hC hr hk => ?_)
  refine r_aload_n (pc := 0) hC 0 dX1_lastWordOf_0 rfl rfl ?_
  refine r_getr (r := 15) (pc := 1) hC dX1_lastWordOf_1 fl_RX1_46 lX_3 rfl ?_
  refine r_iload_n (pc := 4) hC 1 dX1_lastWordOf_4 rfl rfl ?_
  refine r_iald (v := ((w.1 15) (Int.toNat a1))) (pc := 5) hC dX1_lastWordOf_5 lX_15 h.1.1 h.1.2 rfl ?_
  have h := h.2
  refine r_if_ne (pc := 6) (tgt := 13) hC dX1_lastWordOf_6 rfl (fun hc1 => ?_) (fun hc1 => ?_)
  · have h := h.1 hc1
    refine r_aload_n (pc := 13) hC 0 dX1_lastWordOf_13 rfl rfl ?_
    refine r_getr (r := 14) (pc := 14) hC dX1_lastWordOf_14 fl_RX1_43 lX_3 rfl ?_
    refine r_iload_n (pc := 17) hC 1 dX1_lastWordOf_17 rfl rfl ?_
    refine r_iald (v := ((w.1 14) (Int.toNat a1))) (pc := 18) hC dX1_lastWordOf_18 lX_14 h.1.1 h.1.2 rfl ?_
    have h := h.2
    refine r_aload_n (pc := 19) hC 0 dX1_lastWordOf_19 rfl rfl ?_
    refine r_getr (r := 15) (pc := 20) hC dX1_lastWordOf_20 fl_RX1_46 lX_3 rfl ?_
    refine r_iload_n (pc := 23) hC 1 dX1_lastWordOf_23 rfl rfl ?_
    refine r_iald (v := ((w.1 15) (Int.toNat a1))) (pc := 24) hC dX1_lastWordOf_24 lX_15 h.1.1 h.1.2 rfl ?_
    have h := h.2
    refine r_iadd (pc := 25) hC dX1_lastWordOf_25 h.1 ?_
    have h := h.2
    refine r_iconst (pc := 26) hC dX1_lastWordOf_26 (rng_lit rfl) ?_
    refine r_isub (pc := 27) hC dX1_lastWordOf_27 h.1 ?_
    have h := h.2
    exact r_reti (pc := 28) (kd := 0) hC hQ dX1_lastWordOf_28 hr hk (by decide) (Or.inl rfl) ⟨rfl, h⟩
  have h := h.2 hc1
  refine r_iconst (pc := 9) hC dX1_lastWordOf_9 (rng_lit rfl) ?_
  refine r_goto (tgt := 28) (pc := 10) hC dX1_lastWordOf_10 rfl ?_
  exact r_reti (pc := 28) (kd := 0) hC hQ dX1_lastWordOf_28 hr hk (by decide) (Or.inl rfl) ⟨rfl, h⟩
def wp_Picker_has (a0 : Int) (a1 : Int) (Q : Int → Prop) : Prop := ((iAnd (iUshr a0 a1) 1) = 0 → Q 0) ∧ (¬ (iAnd (iUshr a0 a1) 1) = 0 → Q 1)
set_option maxHeartbeats 4000000 in
set_option maxRecDepth 20000 in
theorem s_Picker_has (l : Launch) (w : St) (a0 : Int) (a1 : Int) (P : Int → Prop) (h : wp_Picker_has a0 a1 P) : Cn l yX9_has cX9_has 2 (some .boolean) 0 LX w [aI a0, aI a1] (okI (fun r w1 => w1 = w ∧ P r)) := by
  unfold wp_Picker_has at h
  refine Cn.of2 [some (aI a0), some (aI a1)] (by decide) (Nat.le_of_ble_eq_true rfl) rfl (fun p e s m args below meth c D cA ad A Q hQ hC hr hk => ?_)
  refine r_iload_n (pc := 0) hC 0 dX9_has_0 rfl rfl ?_
  refine r_iload_n (pc := 1) hC 1 dX9_has_1 rfl rfl ?_
  refine r_iushr (pc := 2) hC dX9_has_2 ?_
  refine r_iconst (pc := 3) hC dX9_has_3 (rng_lit rfl) ?_
  refine r_iand (pc := 4) hC dX9_has_4 ?_
  refine r_if_eq (pc := 5) (tgt := 12) hC dX9_has_5 rfl (fun hc1 => ?_) (fun hc1 => ?_)
  · have h := h.1 hc1
    refine r_iconst (pc := 12) hC dX9_has_12 (rng_lit rfl) ?_
    exact r_reti (pc := 13) (kd := 1) hC hQ dX9_has_13 hr hk (by decide) (Or.inr okK1_0) ⟨rfl, h⟩
  have h := h.2 hc1
  refine r_iconst (pc := 8) hC dX9_has_8 (rng_lit rfl) ?_
  refine r_goto (tgt := 13) (pc := 9) hC dX9_has_9 rfl ?_
  exact r_reti (pc := 13) (kd := 1) hC hQ dX9_has_13 hr hk (by decide) (Or.inr okK1_1) ⟨rfl, h⟩
def wp_Page_at (pg_bytes : (Nat → Int)) (pg_length : Int) (a1 : Int) (Q : Int → Prop) : Prop := jn0 (fun (J1 : Prop) => (a1 < 0 → J1) ∧ (¬ a1 < 0 → (a1 < pg_length → (0 ≤ a1 ∧ a1 < 600) ∧ (Q (pg_bytes (Int.toNat a1)))) ∧ (¬ a1 < pg_length → J1))) (Q (-1))
set_option maxHeartbeats 4000000 in
set_option maxRecDepth 20000 in
theorem s_Page_at (l : Launch) (w : St) (a1 : Int) (P : Int → Prop) (h : wp_Page_at (w.1 4) (w.1 3 14) a1 P) : Cn l yX1_at cX1_at 2 (some .int) 0 LX w [aR 3, aI a1] (okI (fun r w1 => w1 = w ∧ P r)) := by
  unfold wp_Page_at at h
  refine Cn.of2 [some (aR 3), some (aI a1)] (by decide) (Nat.le_of_ble_eq_true rfl) rfl (fun p e s m args below meth c D cA ad A Q hQ hC hr hk => ?_)
  refine r_iload_n (pc := 0) hC 1 dX1_at_0 rfl rfl ?_
  obtain ⟨J1, hJ1, h⟩ := h
  have S1 : J1 → Wd p l e (rmD 0) s m args below meth c Q 0 0 2 D cA ad A LX w 12 [none, none] [] := by
    intro hj
    have h := hJ1 hj
    refine r_iconst (pc := 12) hC dX1_at_12 (rng_lit rfl) ?_
    refine r_goto (tgt := 22) (pc := 13) hC dX1_at_13 rfl ?_
    exact r_reti (pc := 22) (kd := 0) hC hQ dX1_at_22 hr hk (by decide) (Or.inl rfl) ⟨rfl, h⟩
  refine r_if_lt (pc := 1) (tgt := 12) hC dX1_at_1 rfl (fun hc2 => ?_) (fun hc2 => ?_)
  · have h := h.1 hc2
    exact r_to [false, false] rfl rfl (S1 h)
  have h := h.2 hc2
  refine r_iload_n (pc := 4) hC 1 dX1_at_4 rfl rfl ?_
  refine r_aload_n (pc := 5) hC 0 dX1_at_5 rfl rfl ?_
  refine r_get (kd := 0) (v := (w.1 3 14)) (pc := 6) hC dX1_at_6 fl_RX1_62 lX_3 rfl rfl ?_
  refine r_ic_lt (pc := 9) (tgt := 16) hC dX1_at_9 rfl (fun hc1 => ?_) (fun hc1 => ?_)
  · have h := h.1 hc1
    refine r_aload_n (pc := 16) hC 0 dX1_at_16 rfl rfl ?_
    refine r_getr (r := 4) (pc := 17) hC dX1_at_17 fl_RX1_9 lX_3 rfl ?_
    refine r_iload_n (pc := 20) hC 1 dX1_at_20 rfl rfl ?_
    refine r_iald (v := ((w.1 4) (Int.toNat a1))) (pc := 21) hC dX1_at_21 lX_4 h.1.1 h.1.2 rfl ?_
    have h := h.2
    exact r_reti (pc := 22) (kd := 0) hC hQ dX1_at_22 hr hk (by decide) (Or.inl rfl) ⟨rfl, h⟩
  have h := h.2 hc1
  exact r_to [false, false] rfl rfl (S1 h)
def wp_Picker_small (a0 : Int) (Q : Int → Prop) : Prop := (a0 < 65 → Q a0) ∧ (¬ a0 < 65 → (90 < a0 → Q a0) ∧ (¬ 90 < a0 → (rng (a0 + 32)) ∧ (Q (a0 + 32))))
set_option maxHeartbeats 4000000 in
set_option maxRecDepth 20000 in
theorem s_Picker_small (l : Launch) (w : St) (a0 : Int) (P : Int → Prop) (h : wp_Picker_small a0 P) : Cn l yX9_small cX9_small 1 (some .int) 0 LX w [aI a0] (okI (fun r w1 => w1 = w ∧ P r)) := by
  unfold wp_Picker_small at h
  refine Cn.of2 [some (aI a0)] (by decide) (Nat.le_of_ble_eq_true rfl) rfl (fun p e s m args below meth c D cA ad A Q hQ hC hr hk => ?_)
  refine r_iload_n (pc := 0) hC 0 dX9_small_0 rfl rfl ?_
  refine r_bipush (pc := 1) hC dX9_small_1 ⟨rfl, rng_lit rfl⟩ ?_
  refine r_ic_lt (pc := 3) (tgt := 19) hC dX9_small_3 rfl (fun hc2 => ?_) (fun hc2 => ?_)
  · have h := h.1 hc2
    refine r_iload_n (pc := 19) hC 0 dX9_small_19 rfl rfl ?_
    exact r_reti (pc := 20) (kd := 0) hC hQ dX9_small_20 hr hk (by decide) (Or.inl rfl) ⟨rfl, h⟩
  have h := h.2 hc2
  refine r_iload_n (pc := 6) hC 0 dX9_small_6 rfl rfl ?_
  refine r_bipush (pc := 7) hC dX9_small_7 ⟨rfl, rng_lit rfl⟩ ?_
  refine r_ic_gt (pc := 9) (tgt := 19) hC dX9_small_9 rfl (fun hc1 => ?_) (fun hc1 => ?_)
  · have h := h.1 hc1
    refine r_iload_n (pc := 19) hC 0 dX9_small_19 rfl rfl ?_
    exact r_reti (pc := 20) (kd := 0) hC hQ dX9_small_20 hr hk (by decide) (Or.inl rfl) ⟨rfl, h⟩
  have h := h.2 hc1
  refine r_iload_n (pc := 12) hC 0 dX9_small_12 rfl rfl ?_
  refine r_bipush (pc := 13) hC dX9_small_13 ⟨rfl, rng_lit rfl⟩ ?_
  refine r_iadd (pc := 15) hC dX9_small_15 h.1 ?_
  have h := h.2
  refine r_goto (tgt := 20) (pc := 16) hC dX9_small_16 rfl ?_
  exact r_reti (pc := 20) (kd := 0) hC hQ dX9_small_20 hr hk (by decide) (Or.inl rfl) ⟨rfl, h⟩
def wp_Matches_termFits (pg_bytes : (Nat → Int)) (pg_wordBegin : (Nat → Int)) (pg_wordEnd : (Nat → Int)) (qy_termSizes : (Nat → Int)) (qy_letters : (Nat → Int)) (pg_length : Int) (qy_starredTerms : Int) (a1 : Int) (a2 : Int) (a3 : Int) (Q : Int → Prop) : Prop := (rng (a1 * 4)) ∧ ((rng ((a1 * 4) + a2)) ∧ ((0 ≤ ((a1 * 4) + a2) ∧ ((a1 * 4) + a2) < 32) ∧ ((0 ≤ a3 ∧ a3 < 100) ∧ ((0 ≤ a3 ∧ a3 < 100) ∧ ((rng ((pg_wordEnd (Int.toNat a3)) - (pg_wordBegin (Int.toNat a3)))) ∧ ((((pg_wordEnd (Int.toNat a3)) - (pg_wordBegin (Int.toNat a3))) < (qy_termSizes (Int.toNat ((a1 * 4) + a2))) → Q 0) ∧ (¬ ((pg_wordEnd (Int.toNat a3)) - (pg_wordBegin (Int.toNat a3))) < (qy_termSizes (Int.toNat ((a1 * 4) + a2))) → jn0 (fun (J1 : Prop) => (((pg_wordEnd (Int.toNat a3)) - (pg_wordBegin (Int.toNat a3))) ≤ (qy_termSizes (Int.toNat ((a1 * 4) + a2))) → J1) ∧ (¬ ((pg_wordEnd (Int.toNat a3)) - (pg_wordBegin (Int.toNat a3))) ≤ (qy_termSizes (Int.toNat ((a1 * 4) + a2))) → wp_Picker_has qy_starredTerms ((a1 * 4) + a2) (fun (r4 : Int) => (¬ r4 = 0 → J1) ∧ (r4 = 0 → Q 0)))) (lpw1 (fun (x1 : Int) (k2 : Int → Prop) => ((qy_termSizes (Int.toNat ((a1 * 4) + a2))) ≤ x1 → Q 1) ∧ (¬ (qy_termSizes (Int.toNat ((a1 * 4) + a2))) ≤ x1 → (rng ((pg_wordBegin (Int.toNat a3)) + x1)) ∧ (wp_Page_at pg_bytes pg_length ((pg_wordBegin (Int.toNat a3)) + x1) (fun (r2 : Int) => wp_Picker_small r2 (fun (r3 : Int) => (rng (((a1 * 4) + a2) * 12)) ∧ ((rng ((((a1 * 4) + a2) * 12) + x1)) ∧ ((0 ≤ ((((a1 * 4) + a2) * 12) + x1) ∧ ((((a1 * 4) + a2) * 12) + x1) < 384) ∧ ((r3 = (qy_letters (Int.toNat ((((a1 * 4) + a2) * 12) + x1))) → (rng (x1 + 1)) ∧ (k2 (x1 + 1))) ∧ (¬ r3 = (qy_letters (Int.toNat ((((a1 * 4) + a2) * 12) + x1))) → Q 0))))))))) 0))))))))
set_option maxHeartbeats 4000000 in
set_option maxRecDepth 20000 in
theorem s_Matches_termFits (l : Launch) (w : St) (a1 : Int) (a2 : Int) (a3 : Int) (P : Int → Prop) (h : wp_Matches_termFits (w.1 4) (w.1 7) (w.1 8) (w.1 21) (w.1 22) (w.1 3 14) (w.1 18 4) a1 a2 a3 P) : Cn l yX0_termFits cX0_termFits 9 (some .boolean) 1 LX w [aR 29, aI a1, aI a2, aI a3] (okI (fun r w1 => w1 = w ∧ P r)) := by
  unfold wp_Matches_termFits at h
  refine Cn.of2 [some (aR 29), some (aI a1), some (aI a2), some (aI a3), none, none, none, none, none] (by decide) (Nat.le_of_ble_eq_true rfl) rfl (fun p e s m args below meth c D cA ad A Q hQ hC hr hk => ?_)
  refine r_iload_n (pc := 0) hC 1 dX0_termFits_0 rfl rfl ?_
  refine r_iconst (pc := 1) hC dX0_termFits_1 (rng_lit rfl) ?_
  refine r_imul (pc := 2) hC dX0_termFits_2 h.1 ?_
  have h := h.2
  refine r_iload_n (pc := 3) hC 2 dX0_termFits_3 rfl rfl ?_
  refine r_iadd (pc := 4) hC dX0_termFits_4 h.1 ?_
  have h := h.2
  refine r_istore (ls2 := [some (aR 29), some (aI a1), some (aI a2), some (aI a3), some (aI ((a1 * 4) + a2)), none, none, none, none]) (pc := 5) hC dX0_termFits_5 (by decide) rfl rfl ?_
  refine r_aload_n (pc := 7) hC 0 dX0_termFits_7 rfl rfl ?_
  refine r_getr (r := 18) (pc := 8) hC dX0_termFits_8 fl_RX0_29 lX_29 rfl ?_
  refine r_getr (r := 21) (pc := 11) hC dX0_termFits_11 fl_RX0_78 lX_18 rfl ?_
  refine r_iload (pc := 14) hC dX0_termFits_14 rfl ?_
  refine r_iald (v := ((w.1 21) (Int.toNat ((a1 * 4) + a2)))) (pc := 16) hC dX0_termFits_16 lX_21 h.1.1 h.1.2 rfl ?_
  have h := h.2
  refine r_istore (ls2 := [some (aR 29), some (aI a1), some (aI a2), some (aI a3), some (aI ((a1 * 4) + a2)), some (aI ((w.1 21) (Int.toNat ((a1 * 4) + a2)))), none, none, none]) (pc := 17) hC dX0_termFits_17 (by decide) rfl rfl ?_
  refine r_aload_n (pc := 19) hC 0 dX0_termFits_19 rfl rfl ?_
  refine r_getr (r := 3) (pc := 20) hC dX0_termFits_20 fl_RX0_25 lX_29 rfl ?_
  refine r_getr (r := 7) (pc := 23) hC dX0_termFits_23 fl_RX0_81 lX_3 rfl ?_
  refine r_iload_n (pc := 26) hC 3 dX0_termFits_26 rfl rfl ?_
  refine r_iald (v := ((w.1 7) (Int.toNat a3))) (pc := 27) hC dX0_termFits_27 lX_7 h.1.1 h.1.2 rfl ?_
  have h := h.2
  refine r_istore (ls2 := [some (aR 29), some (aI a1), some (aI a2), some (aI a3), some (aI ((a1 * 4) + a2)), some (aI ((w.1 21) (Int.toNat ((a1 * 4) + a2)))), some (aI ((w.1 7) (Int.toNat a3))), none, none]) (pc := 28) hC dX0_termFits_28 (by decide) rfl rfl ?_
  refine r_aload_n (pc := 30) hC 0 dX0_termFits_30 rfl rfl ?_
  refine r_getr (r := 3) (pc := 31) hC dX0_termFits_31 fl_RX0_25 lX_29 rfl ?_
  refine r_getr (r := 8) (pc := 34) hC dX0_termFits_34 fl_RX0_84 lX_3 rfl ?_
  refine r_iload_n (pc := 37) hC 3 dX0_termFits_37 rfl rfl ?_
  refine r_iald (v := ((w.1 8) (Int.toNat a3))) (pc := 38) hC dX0_termFits_38 lX_8 h.1.1 h.1.2 rfl ?_
  have h := h.2
  refine r_iload (pc := 39) hC dX0_termFits_39 rfl ?_
  refine r_isub (pc := 41) hC dX0_termFits_41 h.1 ?_
  have h := h.2
  refine r_istore (ls2 := [some (aR 29), some (aI a1), some (aI a2), some (aI a3), some (aI ((a1 * 4) + a2)), some (aI ((w.1 21) (Int.toNat ((a1 * 4) + a2)))), some (aI ((w.1 7) (Int.toNat a3))), some (aI (((w.1 8) (Int.toNat a3)) - ((w.1 7) (Int.toNat a3)))), none]) (pc := 42) hC dX0_termFits_42 (by decide) rfl rfl ?_
  refine r_iload (pc := 44) hC dX0_termFits_44 rfl ?_
  refine r_iload (pc := 46) hC dX0_termFits_46 rfl ?_
  refine r_ic_lt (pc := 48) (tgt := 73) hC dX0_termFits_48 rfl (fun hc5 => ?_) (fun hc5 => ?_)
  · have h := h.1 hc5
    refine r_iconst (pc := 73) hC dX0_termFits_73 (rng_lit rfl) ?_
    exact r_reti (pc := 74) (kd := 1) hC hQ dX0_termFits_74 hr hk (by decide) (Or.inr okK1_0) ⟨rfl, h⟩
  have h := h.2 hc5
  refine r_iload (pc := 51) hC dX0_termFits_51 rfl ?_
  refine r_iload (pc := 53) hC dX0_termFits_53 rfl ?_
  obtain ⟨J1, hJ1, h⟩ := h
  have S1 : J1 → Wd p l e (rmD 1) s m args below meth c Q 0 0 9 D cA ad A LX w 75 [some (aR 29), none, none, none, some (aI ((a1 * 4) + a2)), some (aI ((w.1 21) (Int.toNat ((a1 * 4) + a2)))), some (aI ((w.1 7) (Int.toNat a3))), none, none] [] := by
    intro hj
    have h := hJ1 hj
    refine r_iconst (pc := 75) hC dX0_termFits_75 (rng_lit rfl) ?_
    refine r_istore (ls2 := [some (aR 29), none, none, none, some (aI ((a1 * 4) + a2)), some (aI ((w.1 21) (Int.toNat ((a1 * 4) + a2)))), some (aI ((w.1 7) (Int.toNat a3))), none, some (aI 0)]) (pc := 76) hC dX0_termFits_76 (by decide) rfl rfl ?_
    obtain ⟨I2, μ2, hI2, hB2⟩ := h
    have S2 : ∀ (nn : Nat) (x1 : Int), μ2 x1 < nn → I2 x1 → Wd p l e (rmD 1) s m args below meth c Q 0 0 9 D cA ad A LX w 78 [some (aR 29), none, none, none, some (aI ((a1 * 4) + a2)), some (aI ((w.1 21) (Int.toNat ((a1 * 4) + a2)))), some (aI ((w.1 7) (Int.toNat a3))), none, some (aI x1)] [] := by
      intro nn
      induction nn with
      | zero => intro x1 hn; exact absurd hn (Nat.not_lt_zero _)
      | succ nn ih2 =>
        intro x1 hn2 hi
        have h := hB2 x1 hi
        refine r_iload (pc := 78) hC dX0_termFits_78 rfl ?_
        refine r_iload (pc := 80) hC dX0_termFits_80 rfl ?_
        refine r_ic_ge (pc := 82) (tgt := 127) hC dX0_termFits_82 rfl (fun hc2 => ?_) (fun hc2 => ?_)
        · have h := h.1 hc2
          refine r_iconst (pc := 127) hC dX0_termFits_127 (rng_lit rfl) ?_
          exact r_reti (pc := 128) (kd := 1) hC hQ dX0_termFits_128 hr hk (by decide) (Or.inr okK1_1) ⟨rfl, h⟩
        have h := h.2 hc2
        refine r_aload_n (pc := 85) hC 0 dX0_termFits_85 rfl rfl ?_
        refine r_getr (r := 3) (pc := 86) hC dX0_termFits_86 fl_RX0_25 lX_29 rfl ?_
        refine r_iload (pc := 89) hC dX0_termFits_89 rfl ?_
        refine r_iload (pc := 91) hC dX0_termFits_91 rfl ?_
        refine r_iadd (pc := 93) hC dX0_termFits_93 h.1 ?_
        have h := h.2
        refine r_callVi (pc := 94) hC [aI (((w.1 7) (Int.toNat a3)) + x1)] [] dX0_termFits_94 ml_RX0_93 my_X1_at mi_X1_at lX_3 rfl rfl ⟨Nat.le_of_ble_eq_true rfl, Nat.le_of_ble_eq_true rfl⟩ ⟨Nat.le_of_ble_eq_true rfl, Nat.le_of_ble_eq_true rfl⟩ (Nat.le_of_ble_eq_true rfl) rfl (s_Page_at l _ _ _ h) (fun r2 w1 hq => ?_)
        obtain ⟨e9, h⟩ := hq
        rw [e9]
        refine r_callSNi (pc := 97) hC [aI r2] [] dX0_termFits_97 nl_RX0_96 my_X9_small ms_X9_small rfl ⟨Nat.le_of_ble_eq_true rfl, Nat.le_of_ble_eq_true rfl⟩ ⟨Nat.le_of_ble_eq_true rfl, Nat.le_of_ble_eq_true rfl⟩ (Nat.le_of_ble_eq_true rfl) rfl (s_Picker_small l _ _ _ h) (fun r3 w1 hq => ?_)
        obtain ⟨e9, h⟩ := hq
        rw [e9]
        refine r_aload_n (pc := 100) hC 0 dX0_termFits_100 rfl rfl ?_
        refine r_getr (r := 18) (pc := 101) hC dX0_termFits_101 fl_RX0_29 lX_29 rfl ?_
        refine r_getr (r := 22) (pc := 104) hC dX0_termFits_104 fl_RX0_99 lX_18 rfl ?_
        refine r_iload (pc := 107) hC dX0_termFits_107 rfl ?_
        refine r_bipush (pc := 109) hC dX0_termFits_109 ⟨rfl, rng_lit rfl⟩ ?_
        refine r_imul (pc := 111) hC dX0_termFits_111 h.1 ?_
        have h := h.2
        refine r_iload (pc := 112) hC dX0_termFits_112 rfl ?_
        refine r_iadd (pc := 114) hC dX0_termFits_114 h.1 ?_
        have h := h.2
        refine r_iald (v := ((w.1 22) (Int.toNat ((((a1 * 4) + a2) * 12) + x1)))) (pc := 115) hC dX0_termFits_115 lX_22 h.1.1 h.1.2 rfl ?_
        have h := h.2
        refine r_ic_eq (pc := 116) (tgt := 121) hC dX0_termFits_116 rfl (fun hc1 => ?_) (fun hc1 => ?_)
        · have h := h.1 hc1
          refine r_iinc (ls2 := [some (aR 29), none, none, none, some (aI ((a1 * 4) + a2)), some (aI ((w.1 21) (Int.toNat ((a1 * 4) + a2)))), some (aI ((w.1 7) (Int.toNat a3))), none, some (aI (x1 + 1))]) (pc := 121) hC dX0_termFits_121 rfl (by decide) rfl h.1 rfl ?_
          have h := h.2
          refine r_goto (tgt := 78) (pc := 124) hC dX0_termFits_124 rfl ?_
          exact r_to [true, false, false, false, true, true, true, false, true] rfl rfl (ih2 (x1 + 1) (Nat.lt_of_lt_of_le h.2 (Nat.le_of_lt_succ hn2)) h.1)
        have h := h.2 hc1
        refine r_iconst (pc := 119) hC dX0_termFits_119 (rng_lit rfl) ?_
        exact r_reti (pc := 120) (kd := 1) hC hQ dX0_termFits_120 hr hk (by decide) (Or.inr okK1_0) ⟨rfl, h⟩
    exact r_to [true, false, false, false, true, true, true, false, true] rfl rfl (S2 _ 0 (Nat.lt_succ_self _) hI2)
  refine r_ic_le (pc := 55) (tgt := 75) hC dX0_termFits_55 rfl (fun hc4 => ?_) (fun hc4 => ?_)
  · have h := h.1 hc4
    exact r_to [true, false, false, false, true, true, true, false, false] rfl rfl (S1 h)
  have h := h.2 hc4
  refine r_aload_n (pc := 58) hC 0 dX0_termFits_58 rfl rfl ?_
  refine r_getr (r := 18) (pc := 59) hC dX0_termFits_59 fl_RX0_29 lX_29 rfl ?_
  refine r_get (kd := 0) (v := (w.1 18 4)) (pc := 62) hC dX0_termFits_62 fl_RX0_87 lX_18 rfl rfl ?_
  refine r_iload (pc := 65) hC dX0_termFits_65 rfl ?_
  refine r_callSNi (pc := 67) hC [aI (w.1 18 4), aI ((a1 * 4) + a2)] [] dX0_termFits_67 nl_RX0_90 my_X9_has ms_X9_has rfl ⟨Nat.le_of_ble_eq_true rfl, Nat.le_of_ble_eq_true rfl⟩ ⟨Nat.le_of_ble_eq_true rfl, Nat.le_of_ble_eq_true rfl⟩ (Nat.le_of_ble_eq_true rfl) rfl (s_Picker_has l _ _ _ _ h) (fun r4 w1 hq => ?_)
  obtain ⟨e9, h⟩ := hq
  rw [e9]
  refine r_if_ne (pc := 70) (tgt := 75) hC dX0_termFits_70 rfl (fun hc3 => ?_) (fun hc3 => ?_)
  · have h := h.1 hc3
    exact r_to [true, false, false, false, true, true, true, false, false] rfl rfl (S1 h)
  have h := h.2 hc3
  refine r_iconst (pc := 73) hC dX0_termFits_73 (rng_lit rfl) ?_
  exact r_reti (pc := 74) (kd := 1) hC hQ dX0_termFits_74 hr hk (by decide) (Or.inr okK1_0) ⟨rfl, h⟩
def wp_Matches_matchesFrom (pg_bytes : (Nat → Int)) (pg_wordBegin : (Nat → Int)) (pg_wordEnd : (Nat → Int)) (pg_wordSentence : (Nat → Int)) (pg_sentenceFirst : (Nat → Int)) (pg_sentenceWords : (Nat → Int)) (qy_termCounts : (Nat → Int)) (qy_termSizes : (Nat → Int)) (qy_letters : (Nat → Int)) (pg_length : Int) (qy_starredTerms : Int) (a1 : Int) (a2 : Int) (Q : Int → Prop) : Prop := (0 ≤ a2 ∧ a2 < 8) ∧ ((0 ≤ a1 ∧ a1 < 100) ∧ (((pg_wordSentence (Int.toNat a1)) = (-1) → Q 0) ∧ (¬ (pg_wordSentence (Int.toNat a1)) = (-1) → (rng (a1 + (qy_termCounts (Int.toNat a2)))) ∧ ((rng ((a1 + (qy_termCounts (Int.toNat a2))) - 1)) ∧ (wp_Page_lastWordOf pg_sentenceFirst pg_sentenceWords (pg_wordSentence (Int.toNat a1)) (fun (r1 : Int) => (((a1 + (qy_termCounts (Int.toNat a2))) - 1) ≤ r1 → lpw1 (fun (x2 : Int) (k1 : Int → Prop) => ((qy_termCounts (Int.toNat a2)) ≤ x2 → Q 1) ∧ (¬ (qy_termCounts (Int.toNat a2)) ≤ x2 → (rng (a1 + x2)) ∧ (wp_Matches_termFits pg_bytes pg_wordBegin pg_wordEnd qy_termSizes qy_letters pg_length qy_starredTerms a2 x2 (a1 + x2) (fun (r3 : Int) => (¬ r3 = 0 → (rng (x2 + 1)) ∧ (k1 (x2 + 1))) ∧ (r3 = 0 → Q 0))))) 0) ∧ (¬ ((a1 + (qy_termCounts (Int.toNat a2))) - 1) ≤ r1 → Q 0)))))))
set_option maxHeartbeats 4000000 in
set_option maxRecDepth 20000 in
theorem s_Matches_matchesFrom (l : Launch) (w : St) (a1 : Int) (a2 : Int) (P : Int → Prop) (h : wp_Matches_matchesFrom (w.1 4) (w.1 7) (w.1 8) (w.1 9) (w.1 14) (w.1 15) (w.1 20) (w.1 21) (w.1 22) (w.1 3 14) (w.1 18 4) a1 a2 P) : Cn l yX0_matchesFrom cX0_matchesFrom 6 (some .boolean) 2 LX w [aR 29, aI a1, aI a2] (okI (fun r w1 => w1 = w ∧ P r)) := by
  unfold wp_Matches_matchesFrom at h
  refine Cn.of2 [some (aR 29), some (aI a1), some (aI a2), none, none, none] (by decide) (Nat.le_of_ble_eq_true rfl) rfl (fun p e s m args below meth c D cA ad A Q hQ hC hr hk => ?_)
  refine r_aload_n (pc := 0) hC 0 dX0_matchesFrom_0 rfl rfl ?_
  refine r_getr (r := 18) (pc := 1) hC dX0_matchesFrom_1 fl_RX0_29 lX_29 rfl ?_
  refine r_getr (r := 20) (pc := 4) hC dX0_matchesFrom_4 fl_RX0_64 lX_18 rfl ?_
  refine r_iload_n (pc := 7) hC 2 dX0_matchesFrom_7 rfl rfl ?_
  refine r_iald (v := ((w.1 20) (Int.toNat a2))) (pc := 8) hC dX0_matchesFrom_8 lX_20 h.1.1 h.1.2 rfl ?_
  have h := h.2
  refine r_istore_n (ls2 := [some (aR 29), some (aI a1), some (aI a2), some (aI ((w.1 20) (Int.toNat a2))), none, none]) (pc := 9) hC 3 dX0_matchesFrom_9 rfl (by decide) rfl rfl ?_
  refine r_aload_n (pc := 10) hC 0 dX0_matchesFrom_10 rfl rfl ?_
  refine r_getr (r := 3) (pc := 11) hC dX0_matchesFrom_11 fl_RX0_25 lX_29 rfl ?_
  refine r_getr (r := 9) (pc := 14) hC dX0_matchesFrom_14 fl_RX0_67 lX_3 rfl ?_
  refine r_iload_n (pc := 17) hC 1 dX0_matchesFrom_17 rfl rfl ?_
  refine r_iald (v := ((w.1 9) (Int.toNat a1))) (pc := 18) hC dX0_matchesFrom_18 lX_9 h.1.1 h.1.2 rfl ?_
  have h := h.2
  refine r_istore (ls2 := [some (aR 29), some (aI a1), some (aI a2), some (aI ((w.1 20) (Int.toNat a2))), some (aI ((w.1 9) (Int.toNat a1))), none]) (pc := 19) hC dX0_matchesFrom_19 (by decide) rfl rfl ?_
  refine r_iload (pc := 21) hC dX0_matchesFrom_21 rfl ?_
  refine r_iconst (pc := 23) hC dX0_matchesFrom_23 (rng_lit rfl) ?_
  refine r_ic_eq (pc := 24) (tgt := 44) hC dX0_matchesFrom_24 rfl (fun hc4 => ?_) (fun hc4 => ?_)
  · have h := h.1 hc4
    refine r_iconst (pc := 44) hC dX0_matchesFrom_44 (rng_lit rfl) ?_
    exact r_reti (pc := 45) (kd := 1) hC hQ dX0_matchesFrom_45 hr hk (by decide) (Or.inr okK1_0) ⟨rfl, h⟩
  have h := h.2 hc4
  refine r_iload_n (pc := 27) hC 1 dX0_matchesFrom_27 rfl rfl ?_
  refine r_iload_n (pc := 28) hC 3 dX0_matchesFrom_28 rfl rfl ?_
  refine r_iadd (pc := 29) hC dX0_matchesFrom_29 h.1 ?_
  have h := h.2
  refine r_iconst (pc := 30) hC dX0_matchesFrom_30 (rng_lit rfl) ?_
  refine r_isub (pc := 31) hC dX0_matchesFrom_31 h.1 ?_
  have h := h.2
  refine r_aload_n (pc := 32) hC 0 dX0_matchesFrom_32 rfl rfl ?_
  refine r_getr (r := 3) (pc := 33) hC dX0_matchesFrom_33 fl_RX0_25 lX_29 rfl ?_
  refine r_iload (pc := 36) hC dX0_matchesFrom_36 rfl ?_
  refine r_callVi (pc := 38) hC [aI ((w.1 9) (Int.toNat a1))] [aI ((a1 + ((w.1 20) (Int.toNat a2))) - 1)] dX0_matchesFrom_38 ml_RX0_70 my_X1_lastWordOf mi_X1_lastWordOf lX_3 rfl rfl ⟨Nat.le_of_ble_eq_true rfl, Nat.le_of_ble_eq_true rfl⟩ ⟨Nat.le_of_ble_eq_true rfl, Nat.le_of_ble_eq_true rfl⟩ (Nat.le_of_ble_eq_true rfl) rfl (s_Page_lastWordOf l _ _ _ h) (fun r1 w1 hq => ?_)
  obtain ⟨e9, h⟩ := hq
  rw [e9]
  refine r_ic_le (pc := 41) (tgt := 46) hC dX0_matchesFrom_41 rfl (fun hc3 => ?_) (fun hc3 => ?_)
  · have h := h.1 hc3
    refine r_iconst (pc := 46) hC dX0_matchesFrom_46 (rng_lit rfl) ?_
    refine r_istore (ls2 := [some (aR 29), some (aI a1), some (aI a2), some (aI ((w.1 20) (Int.toNat a2))), some (aI ((w.1 9) (Int.toNat a1))), some (aI 0)]) (pc := 47) hC dX0_matchesFrom_47 (by decide) rfl rfl ?_
    obtain ⟨I1, μ1, hI1, hB1⟩ := h
    have S1 : ∀ (nn : Nat) (x2 : Int), μ1 x2 < nn → I1 x2 → Wd p l e (rmD 2) s m args below meth c Q 0 0 6 D cA ad A LX w 49 [some (aR 29), some (aI a1), some (aI a2), some (aI ((w.1 20) (Int.toNat a2))), none, some (aI x2)] [] := by
      intro nn
      induction nn with
      | zero => intro x2 hn; exact absurd hn (Nat.not_lt_zero _)
      | succ nn ih1 =>
        intro x2 hn1 hi
        have h := hB1 x2 hi
        refine r_iload (pc := 49) hC dX0_matchesFrom_49 rfl ?_
        refine r_iload_n (pc := 51) hC 3 dX0_matchesFrom_51 rfl rfl ?_
        refine r_ic_ge (pc := 52) (tgt := 77) hC dX0_matchesFrom_52 rfl (fun hc2 => ?_) (fun hc2 => ?_)
        · have h := h.1 hc2
          refine r_iconst (pc := 77) hC dX0_matchesFrom_77 (rng_lit rfl) ?_
          exact r_reti (pc := 78) (kd := 1) hC hQ dX0_matchesFrom_78 hr hk (by decide) (Or.inr okK1_1) ⟨rfl, h⟩
        have h := h.2 hc2
        refine r_aload_n (pc := 55) hC 0 dX0_matchesFrom_55 rfl rfl ?_
        refine r_iload_n (pc := 56) hC 2 dX0_matchesFrom_56 rfl rfl ?_
        refine r_iload (pc := 57) hC dX0_matchesFrom_57 rfl ?_
        refine r_iload_n (pc := 59) hC 1 dX0_matchesFrom_59 rfl rfl ?_
        refine r_iload (pc := 60) hC dX0_matchesFrom_60 rfl ?_
        refine r_iadd (pc := 62) hC dX0_matchesFrom_62 h.1 ?_
        have h := h.2
        refine r_callVi (pc := 63) hC [aI a2, aI x2, aI (a1 + x2)] [] dX0_matchesFrom_63 ml_RX0_74 my_X0_termFits mi_X0_termFits lX_29 rfl rfl ⟨Nat.le_of_ble_eq_true rfl, Nat.le_of_ble_eq_true rfl⟩ ⟨Nat.le_of_ble_eq_true rfl, Nat.le_of_ble_eq_true rfl⟩ (Nat.le_of_ble_eq_true rfl) rfl (s_Matches_termFits l _ _ _ _ _ h) (fun r3 w1 hq => ?_)
        obtain ⟨e9, h⟩ := hq
        rw [e9]
        refine r_if_ne (pc := 66) (tgt := 71) hC dX0_matchesFrom_66 rfl (fun hc1 => ?_) (fun hc1 => ?_)
        · have h := h.1 hc1
          refine r_iinc (ls2 := [some (aR 29), some (aI a1), some (aI a2), some (aI ((w.1 20) (Int.toNat a2))), none, some (aI (x2 + 1))]) (pc := 71) hC dX0_matchesFrom_71 rfl (by decide) rfl h.1 rfl ?_
          have h := h.2
          refine r_goto (tgt := 49) (pc := 74) hC dX0_matchesFrom_74 rfl ?_
          exact r_to [true, true, true, true, false, true] rfl rfl (ih1 (x2 + 1) (Nat.lt_of_lt_of_le h.2 (Nat.le_of_lt_succ hn1)) h.1)
        have h := h.2 hc1
        refine r_iconst (pc := 69) hC dX0_matchesFrom_69 (rng_lit rfl) ?_
        exact r_reti (pc := 70) (kd := 1) hC hQ dX0_matchesFrom_70 hr hk (by decide) (Or.inr okK1_0) ⟨rfl, h⟩
    exact r_to [true, true, true, true, false, true] rfl rfl (S1 _ 0 (Nat.lt_succ_self _) hI1)
  have h := h.2 hc3
  refine r_iconst (pc := 44) hC dX0_matchesFrom_44 (rng_lit rfl) ?_
  exact r_reti (pc := 45) (kd := 1) hC hQ dX0_matchesFrom_45 hr hk (by decide) (Or.inr okK1_0) ⟨rfl, h⟩
def wp_Query_oneOf (a1 : Int) (Q : Int64 → Prop) : Prop := (rng (a1 * 8)) ∧ (Q (lShl 1 (a1 * 8)))
set_option maxHeartbeats 4000000 in
set_option maxRecDepth 20000 in
theorem s_Query_oneOf (l : Launch) (w : St) (a1 : Int) (P : Int64 → Prop) (h : wp_Query_oneOf a1 P) : Cn l yX2_oneOf cX2_oneOf 2 (some .long) 0 LX w [aR 18, aI a1] (okJ (fun r w1 => w1 = w ∧ P r)) := by
  unfold wp_Query_oneOf at h
  refine Cn.of2 [some (aR 18), some (aI a1)] (by decide) (Nat.le_of_ble_eq_true rfl) rfl (fun p e s m args below meth c D cA ad A Q hQ hC hr hk => ?_)
  refine r_lconst (x := 1) (pc := 0) hC dX2_oneOf_0 rfl ?_
  refine r_iload_n (pc := 1) hC 1 dX2_oneOf_1 rfl rfl ?_
  refine r_bipush (pc := 2) hC dX2_oneOf_2 ⟨rfl, rng_lit rfl⟩ ?_
  refine r_imul (pc := 4) hC dX2_oneOf_4 h.1 ?_
  have h := h.2
  refine r_lshl (pc := 5) hC dX2_oneOf_5 ?_
  exact r_retl (pc := 6) hC hQ dX2_oneOf_6 hr hk ⟨rfl, h⟩
def wp_Matches_add (pg_wordSentence : (Nat → Int)) (qy_termCounts : (Nat → Int)) (mt_beginning : (Nat → Int)) (mt_ending : (Nat → Int)) (mt_touching : (Nat → Int)) (mt_total : Int) (mt_tallies : (Nat → Int64)) (a1 : Int) (a2 : Int) (Q : (Nat → Int) → (Nat → Int) → (Nat → Int) → Int → (Nat → Int64) → Prop) : Prop := (0 ≤ a2 ∧ a2 < 8) ∧ ((rng (a1 + (qy_termCounts (Int.toNat a2)))) ∧ ((rng ((a1 + (qy_termCounts (Int.toNat a2))) - 1)) ∧ ((rng (mt_total + 1)) ∧ ((0 ≤ a1 ∧ a1 < 100) ∧ ((0 ≤ a1 ∧ a1 < 100) ∧ ((0 ≤ ((a1 + (qy_termCounts (Int.toNat a2))) - 1) ∧ ((a1 + (qy_termCounts (Int.toNat a2))) - 1) < 100) ∧ ((0 ≤ ((a1 + (qy_termCounts (Int.toNat a2))) - 1) ∧ ((a1 + (qy_termCounts (Int.toNat a2))) - 1) < 100) ∧ (lpw2 (fun (mt_touching_1 : (Nat → Int)) (x2 : Int) (k1 : (Nat → Int) → Int → Prop) => (((a1 + (qy_termCounts (Int.toNat a2))) - 1) < x2 → (0 ≤ a1 ∧ a1 < 100) ∧ ((0 ≤ (pg_wordSentence (Int.toNat a1)) ∧ (pg_wordSentence (Int.toNat a1)) < 14) ∧ (wp_Query_oneOf a2 (fun (r3 : Int64) => (0 ≤ (pg_wordSentence (Int.toNat a1)) ∧ (pg_wordSentence (Int.toNat a1)) < 14) ∧ (Q (uI mt_beginning a1 (iOr (mt_beginning (Int.toNat a1)) (iShl 1 a2))) (uI mt_ending ((a1 + (qy_termCounts (Int.toNat a2))) - 1) (iOr (mt_ending (Int.toNat ((a1 + (qy_termCounts (Int.toNat a2))) - 1))) (iShl 1 a2))) mt_touching_1 (mt_total + 1) (uL mt_tallies (pg_wordSentence (Int.toNat a1)) ((mt_tallies (Int.toNat (pg_wordSentence (Int.toNat a1)))) + r3))))))) ∧ (¬ ((a1 + (qy_termCounts (Int.toNat a2))) - 1) < x2 → (0 ≤ x2 ∧ x2 < 100) ∧ ((0 ≤ x2 ∧ x2 < 100) ∧ ((rng (x2 + 1)) ∧ (k1 (uI mt_touching_1 x2 (iOr (mt_touching_1 (Int.toNat x2)) (iShl 1 a2))) (x2 + 1)))))) mt_touching a1))))))))
set_option maxHeartbeats 4000000 in
set_option maxRecDepth 20000 in
theorem s_Matches_add (l : Launch) (w : St) (a1 : Int) (a2 : Int) (P : (Nat → Int) → (Nat → Int) → (Nat → Int) → Int → (Nat → Int64) → Prop) (h : wp_Matches_add (w.1 9) (w.1 20) (w.1 30) (w.1 31) (w.1 32) (w.1 29 6) (w.2 33) a1 a2 P) : Cn l yX0_add cX0_add 5 none 1 LX w [aR 29, aI a1, aI a2] (okV (fun w1 => ∃ (o0 : (Nat → Int)) (o1 : (Nat → Int)) (o2 : (Nat → Int)) (o3 : Int) (o4 : (Nat → Int64)), w1 = (wB (wI (wA (wA (wA w 30 o0) 31 o1) 32 o2) 29 6 o3) 33 o4) ∧ P o0 o1 o2 o3 o4)) := by
  unfold wp_Matches_add at h
  refine Cn.of2 [some (aR 29), some (aI a1), some (aI a2), none, none] (by decide) (Nat.le_of_ble_eq_true rfl) rfl (fun p e s m args below meth c D cA ad A Q hQ hC hr hk => ?_)
  refine r_iload_n (pc := 0) hC 1 dX0_add_0 rfl rfl ?_
  refine r_aload_n (pc := 1) hC 0 dX0_add_1 rfl rfl ?_
  refine r_getr (r := 18) (pc := 2) hC dX0_add_2 fl_RX0_29 lX_29 rfl ?_
  refine r_getr (r := 20) (pc := 5) hC dX0_add_5 fl_RX0_64 lX_18 rfl ?_
  refine r_iload_n (pc := 8) hC 2 dX0_add_8 rfl rfl ?_
  refine r_iald (v := ((w.1 20) (Int.toNat a2))) (pc := 9) hC dX0_add_9 lX_20 h.1.1 h.1.2 rfl ?_
  have h := h.2
  refine r_iadd (pc := 10) hC dX0_add_10 h.1 ?_
  have h := h.2
  refine r_iconst (pc := 11) hC dX0_add_11 (rng_lit rfl) ?_
  refine r_isub (pc := 12) hC dX0_add_12 h.1 ?_
  have h := h.2
  refine r_istore_n (ls2 := [some (aR 29), some (aI a1), some (aI a2), some (aI ((a1 + ((w.1 20) (Int.toNat a2))) - 1)), none]) (pc := 13) hC 3 dX0_add_13 rfl (by decide) rfl rfl ?_
  refine r_aload_n (pc := 14) hC 0 dX0_add_14 rfl rfl ?_
  refine r_dup (pc := 15) hC dX0_add_15 rfl ?_
  refine r_get (kd := 0) (v := (w.1 29 6)) (pc := 16) hC dX0_add_16 fl_RX0_33 lX_29 rfl rfl ?_
  refine r_iconst (pc := 19) hC dX0_add_19 (rng_lit rfl) ?_
  refine r_iadd (pc := 20) hC dX0_add_20 h.1 ?_
  have h := h.2
  refine r_put (kd := 0) (pc := 21) hC dX0_add_21 pl_RX0_33 lX_29 rfl (by decide) (Or.inl rfl) ?_
  refine r_aload_n (pc := 24) hC 0 dX0_add_24 rfl rfl ?_
  refine r_getr (r := 30) (pc := 25) hC dX0_add_25 fl_RX0_9 lX_29 rfl ?_
  refine r_iload_n (pc := 28) hC 1 dX0_add_28 rfl rfl ?_
  refine r_dup2 (pc := 29) hC dX0_add_29 rfl rfl ?_
  refine r_iald (v := ((w.1 30) (Int.toNat a1))) (pc := 30) hC dX0_add_30 lX_30 h.1.1 h.1.2 rfl ?_
  have h := h.2
  refine r_iconst (pc := 31) hC dX0_add_31 (rng_lit rfl) ?_
  refine r_iload_n (pc := 32) hC 2 dX0_add_32 rfl rfl ?_
  refine r_ishl (pc := 33) hC dX0_add_33 ?_
  refine r_ior (pc := 34) hC dX0_add_34 ?_
  refine r_iast (pc := 35) hC dX0_add_35 lX_30 h.1.1 h.1.2 ?_
  have h := h.2
  refine r_aload_n (pc := 36) hC 0 dX0_add_36 rfl rfl ?_
  refine r_getr (r := 31) (pc := 37) hC dX0_add_37 fl_RX0_15 lX_29 rfl ?_
  refine r_iload_n (pc := 40) hC 3 dX0_add_40 rfl rfl ?_
  refine r_dup2 (pc := 41) hC dX0_add_41 rfl rfl ?_
  refine r_iald (v := ((w.1 31) (Int.toNat ((a1 + ((w.1 20) (Int.toNat a2))) - 1)))) (pc := 42) hC dX0_add_42 lX_31 h.1.1 h.1.2 rfl ?_
  have h := h.2
  refine r_iconst (pc := 43) hC dX0_add_43 (rng_lit rfl) ?_
  refine r_iload_n (pc := 44) hC 2 dX0_add_44 rfl rfl ?_
  refine r_ishl (pc := 45) hC dX0_add_45 ?_
  refine r_ior (pc := 46) hC dX0_add_46 ?_
  refine r_iast (pc := 47) hC dX0_add_47 lX_31 h.1.1 h.1.2 ?_
  have h := h.2
  refine r_iload_n (pc := 48) hC 1 dX0_add_48 rfl rfl ?_
  refine r_istore (ls2 := [some (aR 29), some (aI a1), some (aI a2), some (aI ((a1 + ((w.1 20) (Int.toNat a2))) - 1)), some (aI a1)]) (pc := 49) hC dX0_add_49 (by decide) rfl rfl ?_
  obtain ⟨I1, μ1, hI1, hB1⟩ := h
  have S1 : ∀ (nn : Nat) (mt_touching_1 : (Nat → Int)) (x2 : Int), μ1 mt_touching_1 x2 < nn → I1 mt_touching_1 x2 → Wd p l e (rmD 1) s m args below meth c Q 0 0 5 D cA ad A LX (wI (wA (wA (wA w 30 (uI (w.1 30) a1 (iOr ((w.1 30) (Int.toNat a1)) (iShl 1 a2)))) 31 (uI (w.1 31) ((a1 + ((w.1 20) (Int.toNat a2))) - 1) (iOr ((w.1 31) (Int.toNat ((a1 + ((w.1 20) (Int.toNat a2))) - 1))) (iShl 1 a2)))) 32 mt_touching_1) 29 6 ((w.1 29 6) + 1)) 51 [some (aR 29), some (aI a1), some (aI a2), some (aI ((a1 + ((w.1 20) (Int.toNat a2))) - 1)), some (aI x2)] [] := by
    intro nn
    induction nn with
    | zero => intro mt_touching_1 x2 hn; exact absurd hn (Nat.not_lt_zero _)
    | succ nn ih1 =>
      intro mt_touching_1 x2 hn1 hi
      have h := hB1 mt_touching_1 x2 hi
      refine r_iload (pc := 51) hC dX0_add_51 rfl ?_
      refine r_iload_n (pc := 53) hC 3 dX0_add_53 rfl rfl ?_
      refine r_ic_gt (pc := 54) (tgt := 76) hC dX0_add_54 rfl (fun hc1 => ?_) (fun hc1 => ?_)
      · have h := h.1 hc1
        refine r_aload_n (pc := 76) hC 0 dX0_add_76 rfl rfl ?_
        refine r_getr (r := 33) (pc := 77) hC dX0_add_77 fl_RX0_21 lX_29 rfl ?_
        refine r_aload_n (pc := 80) hC 0 dX0_add_80 rfl rfl ?_
        refine r_getr (r := 3) (pc := 81) hC dX0_add_81 fl_RX0_25 lX_29 rfl ?_
        refine r_getr (r := 9) (pc := 84) hC dX0_add_84 fl_RX0_67 lX_3 rfl ?_
        refine r_iload_n (pc := 87) hC 1 dX0_add_87 rfl rfl ?_
        refine r_iald (v := ((w.1 9) (Int.toNat a1))) (pc := 88) hC dX0_add_88 lX_9 h.1.1 h.1.2 rfl ?_
        have h := h.2
        refine r_dup2 (pc := 89) hC dX0_add_89 rfl rfl ?_
        refine r_lald (v := ((w.2 33) (Int.toNat ((w.1 9) (Int.toNat a1))))) (pc := 90) hC dX0_add_90 lX_33 h.1.1 h.1.2 rfl ?_
        have h := h.2
        refine r_aload_n (pc := 91) hC 0 dX0_add_91 rfl rfl ?_
        refine r_getr (r := 18) (pc := 92) hC dX0_add_92 fl_RX0_29 lX_29 rfl ?_
        refine r_iload_n (pc := 95) hC 2 dX0_add_95 rfl rfl ?_
        refine r_callVl (pc := 96) hC [aI a2] [aL ((w.2 33) (Int.toNat ((w.1 9) (Int.toNat a1)))), aI ((w.1 9) (Int.toNat a1)), aR 33] dX0_add_96 ml_RX0_102 my_X2_oneOf mi_X2_oneOf lX_18 rfl rfl ⟨Nat.le_of_ble_eq_true rfl, Nat.le_of_ble_eq_true rfl⟩ ⟨Nat.le_of_ble_eq_true rfl, Nat.le_of_ble_eq_true rfl⟩ (Nat.le_of_ble_eq_true rfl) rfl (s_Query_oneOf l _ _ _ h) (fun r3 w1 hq => ?_)
        obtain ⟨e9, h⟩ := hq
        rw [e9]
        refine r_ladd (pc := 99) hC dX0_add_99 ?_
        refine r_last (pc := 100) hC dX0_add_100 lX_33 h.1.1 h.1.2 ?_
        have h := h.2
        refine r_conv (w2 := (wB (wI (wA (wA (wA w 30 (uI (w.1 30) a1 (iOr ((w.1 30) (Int.toNat a1)) (iShl 1 a2)))) 31 (uI (w.1 31) ((a1 + ((w.1 20) (Int.toNat a2))) - 1) (iOr ((w.1 31) (Int.toNat ((a1 + ((w.1 20) (Int.toNat a2))) - 1))) (iShl 1 a2)))) 32 mt_touching_1) 29 6 ((w.1 29 6) + 1)) 33 (uL (w.2 33) ((w.1 9) (Int.toNat a1)) (((w.2 33) (Int.toNat ((w.1 9) (Int.toNat a1)))) + r3)))) rfl ?_
        exact r_retv (pc := 101) hC hQ dX0_add_101 hr hk ⟨(uI (w.1 30) a1 (iOr ((w.1 30) (Int.toNat a1)) (iShl 1 a2))), (uI (w.1 31) ((a1 + ((w.1 20) (Int.toNat a2))) - 1) (iOr ((w.1 31) (Int.toNat ((a1 + ((w.1 20) (Int.toNat a2))) - 1))) (iShl 1 a2))), mt_touching_1, ((w.1 29 6) + 1), (uL (w.2 33) ((w.1 9) (Int.toNat a1)) (((w.2 33) (Int.toNat ((w.1 9) (Int.toNat a1)))) + r3)), rfl, h⟩
      have h := h.2 hc1
      refine r_aload_n (pc := 57) hC 0 dX0_add_57 rfl rfl ?_
      refine r_getr (r := 32) (pc := 58) hC dX0_add_58 fl_RX0_18 lX_29 rfl ?_
      refine r_iload (pc := 61) hC dX0_add_61 rfl ?_
      refine r_dup2 (pc := 63) hC dX0_add_63 rfl rfl ?_
      refine r_iald (v := (mt_touching_1 (Int.toNat x2))) (pc := 64) hC dX0_add_64 lX_32 h.1.1 h.1.2 rfl ?_
      have h := h.2
      refine r_iconst (pc := 65) hC dX0_add_65 (rng_lit rfl) ?_
      refine r_iload_n (pc := 66) hC 2 dX0_add_66 rfl rfl ?_
      refine r_ishl (pc := 67) hC dX0_add_67 ?_
      refine r_ior (pc := 68) hC dX0_add_68 ?_
      refine r_iast (pc := 69) hC dX0_add_69 lX_32 h.1.1 h.1.2 ?_
      have h := h.2
      refine r_iinc (ls2 := [some (aR 29), some (aI a1), some (aI a2), some (aI ((a1 + ((w.1 20) (Int.toNat a2))) - 1)), some (aI (x2 + 1))]) (pc := 70) hC dX0_add_70 rfl (by decide) rfl h.1 rfl ?_
      have h := h.2
      refine r_goto (tgt := 51) (pc := 73) hC dX0_add_73 rfl ?_
      exact r_to [true, true, true, true, true] rfl rfl (ih1 (uI mt_touching_1 x2 (iOr (mt_touching_1 (Int.toNat x2)) (iShl 1 a2))) (x2 + 1) (Nat.lt_of_lt_of_le h.2 (Nat.le_of_lt_succ hn1)) h.1)
  exact r_to [true, true, true, true, true] rfl rfl (S1 _ (w.1 32) a1 (Nat.lt_succ_self _) hI1)
def wp_Matches_findAll (pg_bytes : (Nat → Int)) (pg_wordBegin : (Nat → Int)) (pg_wordEnd : (Nat → Int)) (pg_wordSentence : (Nat → Int)) (pg_sentenceFirst : (Nat → Int)) (pg_sentenceWords : (Nat → Int)) (qy_termCounts : (Nat → Int)) (qy_termSizes : (Nat → Int)) (qy_letters : (Nat → Int)) (mt_beginning : (Nat → Int)) (mt_ending : (Nat → Int)) (mt_touching : (Nat → Int)) (pg_length : Int) (pg_words : Int) (qy_starredTerms : Int) (qy_items : Int) (mt_total : Int) (mt_tallies : (Nat → Int64)) (Q : (Nat → Int) → (Nat → Int) → (Nat → Int) → Int → (Nat → Int64) → Prop) : Prop := wp_JA_fill_30 mt_beginning 0 (fun (mt_beginning_1 : (Nat → Int)) => wp_JA_fill_31 mt_ending 0 (fun (mt_ending_2 : (Nat → Int)) => wp_JA_fill_32 mt_touching 0 (fun (mt_touching_3 : (Nat → Int)) => wp_JA_fill_33 mt_tallies 0 (fun (mt_tallies_4 : (Nat → Int64)) => lpw6 (fun (mt_beginning_5 : (Nat → Int)) (mt_ending_6 : (Nat → Int)) (mt_touching_7 : (Nat → Int)) (mt_total_8 : Int) (mt_tallies_9 : (Nat → Int64)) (x10 : Int) (k1 : (Nat → Int) → (Nat → Int) → (Nat → Int) → Int → (Nat → Int64) → Int → Prop) => (pg_words ≤ x10 → Q mt_beginning_5 mt_ending_6 mt_touching_7 mt_total_8 mt_tallies_9) ∧ (¬ pg_words ≤ x10 → lpw6 (fun (mt_beginning_11 : (Nat → Int)) (mt_ending_12 : (Nat → Int)) (mt_touching_13 : (Nat → Int)) (mt_total_14 : Int) (mt_tallies_15 : (Nat → Int64)) (x16 : Int) (k2 : (Nat → Int) → (Nat → Int) → (Nat → Int) → Int → (Nat → Int64) → Int → Prop) => (qy_items ≤ x16 → (rng (x10 + 1)) ∧ (k1 mt_beginning_11 mt_ending_12 mt_touching_13 mt_total_14 mt_tallies_15 (x10 + 1))) ∧ (¬ qy_items ≤ x16 → wp_Matches_matchesFrom pg_bytes pg_wordBegin pg_wordEnd pg_wordSentence pg_sentenceFirst pg_sentenceWords qy_termCounts qy_termSizes qy_letters pg_length qy_starredTerms x10 x16 (fun (r17 : Int) => jn5 (fun (J3 : (Nat → Int) → (Nat → Int) → (Nat → Int) → Int → (Nat → Int64) → Prop) => (r17 = 0 → J3 mt_beginning_11 mt_ending_12 mt_touching_13 mt_total_14 mt_tallies_15) ∧ (¬ r17 = 0 → wp_Matches_add pg_wordSentence qy_termCounts mt_beginning_11 mt_ending_12 mt_touching_13 mt_total_14 mt_tallies_15 x10 x16 (fun (mt_beginning_23 : (Nat → Int)) (mt_ending_24 : (Nat → Int)) (mt_touching_25 : (Nat → Int)) (mt_total_26 : Int) (mt_tallies_27 : (Nat → Int64)) => J3 mt_beginning_23 mt_ending_24 mt_touching_25 mt_total_26 mt_tallies_27))) (fun (mt_beginning_18 : (Nat → Int)) (mt_ending_19 : (Nat → Int)) (mt_touching_20 : (Nat → Int)) (mt_total_21 : Int) (mt_tallies_22 : (Nat → Int64)) => (rng (x16 + 1)) ∧ (k2 mt_beginning_18 mt_ending_19 mt_touching_20 mt_total_21 mt_tallies_22 (x16 + 1)))))) mt_beginning_5 mt_ending_6 mt_touching_7 mt_total_8 mt_tallies_9 0)) mt_beginning_1 mt_ending_2 mt_touching_3 0 mt_tallies_4 0))))
set_option maxHeartbeats 4000000 in
set_option maxRecDepth 20000 in
theorem s_Matches_findAll (l : Launch) (w : St) (P : (Nat → Int) → (Nat → Int) → (Nat → Int) → Int → (Nat → Int64) → Prop) (h : wp_Matches_findAll (w.1 4) (w.1 7) (w.1 8) (w.1 9) (w.1 14) (w.1 15) (w.1 20) (w.1 21) (w.1 22) (w.1 30) (w.1 31) (w.1 32) (w.1 3 14) (w.1 3 16) (w.1 18 4) (w.1 18 6) (w.1 29 6) (w.2 33) P) : Cn l yX0_findAll cX0_findAll 3 none 3 LX w [aR 29] (okV (fun w1 => ∃ (o0 : (Nat → Int)) (o1 : (Nat → Int)) (o2 : (Nat → Int)) (o3 : Int) (o4 : (Nat → Int64)), w1 = (wB (wI (wA (wA (wA w 30 o0) 31 o1) 32 o2) 29 6 o3) 33 o4) ∧ P o0 o1 o2 o3 o4)) := by
  unfold wp_Matches_findAll at h
  refine Cn.of2 [some (aR 29), none, none] (by decide) (Nat.le_of_ble_eq_true rfl) rfl (fun p e s m args below meth c D cA ad A Q hQ hC hr hk => ?_)
  refine r_aload_n (pc := 0) hC 0 dX0_findAll_0 rfl rfl ?_
  refine r_iconst (pc := 1) hC dX0_findAll_1 (rng_lit rfl) ?_
  refine r_put (kd := 0) (pc := 2) hC dX0_findAll_2 pl_RX0_33 lX_29 rfl (by decide) (Or.inl rfl) ?_
  refine r_aload_n (pc := 5) hC 0 dX0_findAll_5 rfl rfl ?_
  refine r_getr (r := 30) (pc := 6) hC dX0_findAll_6 fl_RX0_9 lX_29 rfl ?_
  refine r_iconst (pc := 9) hC dX0_findAll_9 (rng_lit rfl) ?_
  refine r_callSv (pc := 10) hC [aR 30, aI 0] [] dX0_findAll_10 ml_RX0_37 my_J7_fill_53178 ms_J7_fill_53178 rfl ⟨Nat.le_of_ble_eq_true rfl, Nat.le_of_ble_eq_true rfl⟩ ⟨Nat.le_of_ble_eq_true rfl, Nat.le_of_ble_eq_true rfl⟩ (Nat.le_of_ble_eq_true rfl) rfl (s_JA_fill_30 l _ _ _ h) (fun w1 hq => ?_)
  obtain ⟨mt_beginning_1, e9, h⟩ := hq
  rw [e9]
  refine r_aload_n (pc := 13) hC 0 dX0_findAll_13 rfl rfl ?_
  refine r_getr (r := 31) (pc := 14) hC dX0_findAll_14 fl_RX0_15 lX_29 rfl ?_
  refine r_iconst (pc := 17) hC dX0_findAll_17 (rng_lit rfl) ?_
  refine r_callSv (pc := 18) hC [aR 31, aI 0] [] dX0_findAll_18 ml_RX0_37 my_J7_fill_53178 ms_J7_fill_53178 rfl ⟨Nat.le_of_ble_eq_true rfl, Nat.le_of_ble_eq_true rfl⟩ ⟨Nat.le_of_ble_eq_true rfl, Nat.le_of_ble_eq_true rfl⟩ (Nat.le_of_ble_eq_true rfl) rfl (s_JA_fill_31 l _ _ _ h) (fun w1 hq => ?_)
  obtain ⟨mt_ending_2, e9, h⟩ := hq
  rw [e9]
  refine r_aload_n (pc := 21) hC 0 dX0_findAll_21 rfl rfl ?_
  refine r_getr (r := 32) (pc := 22) hC dX0_findAll_22 fl_RX0_18 lX_29 rfl ?_
  refine r_iconst (pc := 25) hC dX0_findAll_25 (rng_lit rfl) ?_
  refine r_callSv (pc := 26) hC [aR 32, aI 0] [] dX0_findAll_26 ml_RX0_37 my_J7_fill_53178 ms_J7_fill_53178 rfl ⟨Nat.le_of_ble_eq_true rfl, Nat.le_of_ble_eq_true rfl⟩ ⟨Nat.le_of_ble_eq_true rfl, Nat.le_of_ble_eq_true rfl⟩ (Nat.le_of_ble_eq_true rfl) rfl (s_JA_fill_32 l _ _ _ h) (fun w1 hq => ?_)
  obtain ⟨mt_touching_3, e9, h⟩ := hq
  rw [e9]
  refine r_aload_n (pc := 29) hC 0 dX0_findAll_29 rfl rfl ?_
  refine r_getr (r := 33) (pc := 30) hC dX0_findAll_30 fl_RX0_21 lX_29 rfl ?_
  refine r_lconst (x := 0) (pc := 33) hC dX0_findAll_33 rfl ?_
  refine r_callSv (pc := 34) hC [aR 33, aL 0] [] dX0_findAll_34 ml_RX0_43 my_J7_fill_d0a16 ms_J7_fill_d0a16 rfl ⟨Nat.le_of_ble_eq_true rfl, Nat.le_of_ble_eq_true rfl⟩ ⟨Nat.le_of_ble_eq_true rfl, Nat.le_of_ble_eq_true rfl⟩ (Nat.le_of_ble_eq_true rfl) rfl (s_JA_fill_33 l _ _ _ h) (fun w1 hq => ?_)
  obtain ⟨mt_tallies_4, e9, h⟩ := hq
  rw [e9]
  refine r_iconst (pc := 37) hC dX0_findAll_37 (rng_lit rfl) ?_
  refine r_istore_n (ls2 := [some (aR 29), some (aI 0), none]) (pc := 38) hC 1 dX0_findAll_38 rfl (by decide) rfl rfl ?_
  obtain ⟨I1, μ1, hI1, hB1⟩ := h
  have S1 : ∀ (nn : Nat) (mt_beginning_5 : (Nat → Int)) (mt_ending_6 : (Nat → Int)) (mt_touching_7 : (Nat → Int)) (mt_total_8 : Int) (mt_tallies_9 : (Nat → Int64)) (x10 : Int), μ1 mt_beginning_5 mt_ending_6 mt_touching_7 mt_total_8 mt_tallies_9 x10 < nn → I1 mt_beginning_5 mt_ending_6 mt_touching_7 mt_total_8 mt_tallies_9 x10 → Wd p l e (rmD 3) s m args below meth c Q 0 0 3 D cA ad A LX (wB (wI (wA (wA (wA w 30 mt_beginning_5) 31 mt_ending_6) 32 mt_touching_7) 29 6 mt_total_8) 33 mt_tallies_9) 39 [some (aR 29), some (aI x10), none] [] := by
    intro nn
    induction nn with
    | zero => intro mt_beginning_5 mt_ending_6 mt_touching_7 mt_total_8 mt_tallies_9 x10 hn; exact absurd hn (Nat.not_lt_zero _)
    | succ nn ih1 =>
      intro mt_beginning_5 mt_ending_6 mt_touching_7 mt_total_8 mt_tallies_9 x10 hn1 hi
      have h := hB1 mt_beginning_5 mt_ending_6 mt_touching_7 mt_total_8 mt_tallies_9 x10 hi
      refine r_iload_n (pc := 39) hC 1 dX0_findAll_39 rfl rfl ?_
      refine r_aload_n (pc := 40) hC 0 dX0_findAll_40 rfl rfl ?_
      refine r_getr (r := 3) (pc := 41) hC dX0_findAll_41 fl_RX0_25 lX_29 rfl ?_
      refine r_get (kd := 0) (v := (w.1 3 16)) (pc := 44) hC dX0_findAll_44 fl_RX0_46 lX_3 rfl rfl ?_
      refine r_ic_ge (pc := 47) (tgt := 90) hC dX0_findAll_47 rfl (fun hc3 => ?_) (fun hc3 => ?_)
      · have h := h.1 hc3
        refine r_conv (w2 := (wB (wI (wA (wA (wA w 30 mt_beginning_5) 31 mt_ending_6) 32 mt_touching_7) 29 6 mt_total_8) 33 mt_tallies_9)) rfl ?_
        exact r_retv (pc := 90) hC hQ dX0_findAll_90 hr hk ⟨mt_beginning_5, mt_ending_6, mt_touching_7, mt_total_8, mt_tallies_9, rfl, h⟩
      have h := h.2 hc3
      refine r_iconst (pc := 50) hC dX0_findAll_50 (rng_lit rfl) ?_
      refine r_istore_n (ls2 := [some (aR 29), some (aI x10), some (aI 0)]) (pc := 51) hC 2 dX0_findAll_51 rfl (by decide) rfl rfl ?_
      obtain ⟨I2, μ2, hI2, hB2⟩ := h
      have S2 : ∀ (nn : Nat) (mt_beginning_11 : (Nat → Int)) (mt_ending_12 : (Nat → Int)) (mt_touching_13 : (Nat → Int)) (mt_total_14 : Int) (mt_tallies_15 : (Nat → Int64)) (x16 : Int), μ2 mt_beginning_11 mt_ending_12 mt_touching_13 mt_total_14 mt_tallies_15 x16 < nn → I2 mt_beginning_11 mt_ending_12 mt_touching_13 mt_total_14 mt_tallies_15 x16 → Wd p l e (rmD 3) s m args below meth c Q 0 0 3 D cA ad A LX (wB (wI (wA (wA (wA w 30 mt_beginning_11) 31 mt_ending_12) 32 mt_touching_13) 29 6 mt_total_14) 33 mt_tallies_15) 52 [some (aR 29), some (aI x10), some (aI x16)] [] := by
        intro nn
        induction nn with
        | zero => intro mt_beginning_11 mt_ending_12 mt_touching_13 mt_total_14 mt_tallies_15 x16 hn; exact absurd hn (Nat.not_lt_zero _)
        | succ nn ih2 =>
          intro mt_beginning_11 mt_ending_12 mt_touching_13 mt_total_14 mt_tallies_15 x16 hn2 hi
          have h := hB2 mt_beginning_11 mt_ending_12 mt_touching_13 mt_total_14 mt_tallies_15 x16 hi
          refine r_iload_n (pc := 52) hC 2 dX0_findAll_52 rfl rfl ?_
          refine r_aload_n (pc := 53) hC 0 dX0_findAll_53 rfl rfl ?_
          refine r_getr (r := 18) (pc := 54) hC dX0_findAll_54 fl_RX0_29 lX_29 rfl ?_
          refine r_get (kd := 0) (v := (w.1 18 6)) (pc := 57) hC dX0_findAll_57 fl_RX0_51 lX_18 rfl rfl ?_
          refine r_ic_ge (pc := 60) (tgt := 84) hC dX0_findAll_60 rfl (fun hc2 => ?_) (fun hc2 => ?_)
          · have h := h.1 hc2
            refine r_iinc (ls2 := [some (aR 29), some (aI (x10 + 1)), some (aI x16)]) (pc := 84) hC dX0_findAll_84 rfl (by decide) rfl h.1 rfl ?_
            have h := h.2
            refine r_goto (tgt := 39) (pc := 87) hC dX0_findAll_87 rfl ?_
            exact r_to [true, true, false] rfl rfl (ih1 mt_beginning_11 mt_ending_12 mt_touching_13 mt_total_14 mt_tallies_15 (x10 + 1) (Nat.lt_of_lt_of_le h.2 (Nat.le_of_lt_succ hn1)) h.1)
          have h := h.2 hc2
          refine r_aload_n (pc := 63) hC 0 dX0_findAll_63 rfl rfl ?_
          refine r_iload_n (pc := 64) hC 1 dX0_findAll_64 rfl rfl ?_
          refine r_iload_n (pc := 65) hC 2 dX0_findAll_65 rfl rfl ?_
          refine r_callVi (pc := 66) hC [aI x10, aI x16] [] dX0_findAll_66 ml_RX0_56 my_X0_matchesFrom mi_X0_matchesFrom lX_29 rfl rfl ⟨Nat.le_of_ble_eq_true rfl, Nat.le_of_ble_eq_true rfl⟩ ⟨Nat.le_of_ble_eq_true rfl, Nat.le_of_ble_eq_true rfl⟩ (Nat.le_of_ble_eq_true rfl) rfl (s_Matches_matchesFrom l _ _ _ _ h) (fun r17 w1 hq => ?_)
          obtain ⟨e9, h⟩ := hq
          rw [e9]
          obtain ⟨J3, hJ3, h⟩ := h
          have S3 : ∀ (mt_beginning_18 : (Nat → Int)) (mt_ending_19 : (Nat → Int)) (mt_touching_20 : (Nat → Int)) (mt_total_21 : Int) (mt_tallies_22 : (Nat → Int64)), J3 mt_beginning_18 mt_ending_19 mt_touching_20 mt_total_21 mt_tallies_22 → Wd p l e (rmD 3) s m args below meth c Q 0 0 3 D cA ad A LX (wB (wI (wA (wA (wA w 30 mt_beginning_18) 31 mt_ending_19) 32 mt_touching_20) 29 6 mt_total_21) 33 mt_tallies_22) 78 [some (aR 29), some (aI x10), some (aI x16)] [] := by
            intro mt_beginning_18 mt_ending_19 mt_touching_20 mt_total_21 mt_tallies_22 hj
            have h := hJ3 mt_beginning_18 mt_ending_19 mt_touching_20 mt_total_21 mt_tallies_22 hj
            refine r_iinc (ls2 := [some (aR 29), some (aI x10), some (aI (x16 + 1))]) (pc := 78) hC dX0_findAll_78 rfl (by decide) rfl h.1 rfl ?_
            have h := h.2
            refine r_goto (tgt := 52) (pc := 81) hC dX0_findAll_81 rfl ?_
            exact r_to [true, true, true] rfl rfl (ih2 mt_beginning_18 mt_ending_19 mt_touching_20 mt_total_21 mt_tallies_22 (x16 + 1) (Nat.lt_of_lt_of_le h.2 (Nat.le_of_lt_succ hn2)) h.1)
          refine r_if_eq (pc := 69) (tgt := 78) hC dX0_findAll_69 rfl (fun hc1 => ?_) (fun hc1 => ?_)
          · have h := h.1 hc1
            exact r_to [true, true, true] rfl rfl (S3 mt_beginning_11 mt_ending_12 mt_touching_13 mt_total_14 mt_tallies_15 h)
          have h := h.2 hc1
          refine r_aload_n (pc := 72) hC 0 dX0_findAll_72 rfl rfl ?_
          refine r_iload_n (pc := 73) hC 1 dX0_findAll_73 rfl rfl ?_
          refine r_iload_n (pc := 74) hC 2 dX0_findAll_74 rfl rfl ?_
          refine r_callVv (pc := 75) hC [aI x10, aI x16] [] dX0_findAll_75 ml_RX0_60 my_X0_add mi_X0_add lX_29 rfl rfl ⟨Nat.le_of_ble_eq_true rfl, Nat.le_of_ble_eq_true rfl⟩ ⟨Nat.le_of_ble_eq_true rfl, Nat.le_of_ble_eq_true rfl⟩ (Nat.le_of_ble_eq_true rfl) rfl (s_Matches_add l _ _ _ _ h) (fun w1 hq => ?_)
          obtain ⟨mt_beginning_23, mt_ending_24, mt_touching_25, mt_total_26, mt_tallies_27, e9, h⟩ := hq
          rw [e9]
          exact r_to [true, true, true] rfl rfl (S3 mt_beginning_23 mt_ending_24 mt_touching_25 mt_total_26 mt_tallies_27 h)
      exact r_to [true, true, true] rfl rfl (S2 _ mt_beginning_5 mt_ending_6 mt_touching_7 mt_total_8 mt_tallies_9 0 (Nat.lt_succ_self _) hI2)
  exact r_to [true, true, false] rfl rfl (S1 _ mt_beginning_1 mt_ending_2 mt_touching_3 0 mt_tallies_4 0 (Nat.lt_succ_self _) hI1)
def wp_JI_bitCount (a0 : Int) (Q : Int → Prop) : Prop := (rng (a0 - (iAnd (iUshr a0 1) 1431655765))) ∧ ((rng ((iAnd (a0 - (iAnd (iUshr a0 1) 1431655765)) 858993459) + (iAnd (iUshr (a0 - (iAnd (iUshr a0 1) 1431655765)) 2) 858993459))) ∧ ((rng (((iAnd (a0 - (iAnd (iUshr a0 1) 1431655765)) 858993459) + (iAnd (iUshr (a0 - (iAnd (iUshr a0 1) 1431655765)) 2) 858993459)) + (iUshr ((iAnd (a0 - (iAnd (iUshr a0 1) 1431655765)) 858993459) + (iAnd (iUshr (a0 - (iAnd (iUshr a0 1) 1431655765)) 2) 858993459)) 4))) ∧ ((rng ((iAnd (((iAnd (a0 - (iAnd (iUshr a0 1) 1431655765)) 858993459) + (iAnd (iUshr (a0 - (iAnd (iUshr a0 1) 1431655765)) 2) 858993459)) + (iUshr ((iAnd (a0 - (iAnd (iUshr a0 1) 1431655765)) 858993459) + (iAnd (iUshr (a0 - (iAnd (iUshr a0 1) 1431655765)) 2) 858993459)) 4)) 252645135) + (iUshr (iAnd (((iAnd (a0 - (iAnd (iUshr a0 1) 1431655765)) 858993459) + (iAnd (iUshr (a0 - (iAnd (iUshr a0 1) 1431655765)) 2) 858993459)) + (iUshr ((iAnd (a0 - (iAnd (iUshr a0 1) 1431655765)) 858993459) + (iAnd (iUshr (a0 - (iAnd (iUshr a0 1) 1431655765)) 2) 858993459)) 4)) 252645135) 8))) ∧ ((rng (((iAnd (((iAnd (a0 - (iAnd (iUshr a0 1) 1431655765)) 858993459) + (iAnd (iUshr (a0 - (iAnd (iUshr a0 1) 1431655765)) 2) 858993459)) + (iUshr ((iAnd (a0 - (iAnd (iUshr a0 1) 1431655765)) 858993459) + (iAnd (iUshr (a0 - (iAnd (iUshr a0 1) 1431655765)) 2) 858993459)) 4)) 252645135) + (iUshr (iAnd (((iAnd (a0 - (iAnd (iUshr a0 1) 1431655765)) 858993459) + (iAnd (iUshr (a0 - (iAnd (iUshr a0 1) 1431655765)) 2) 858993459)) + (iUshr ((iAnd (a0 - (iAnd (iUshr a0 1) 1431655765)) 858993459) + (iAnd (iUshr (a0 - (iAnd (iUshr a0 1) 1431655765)) 2) 858993459)) 4)) 252645135) 8)) + (iUshr ((iAnd (((iAnd (a0 - (iAnd (iUshr a0 1) 1431655765)) 858993459) + (iAnd (iUshr (a0 - (iAnd (iUshr a0 1) 1431655765)) 2) 858993459)) + (iUshr ((iAnd (a0 - (iAnd (iUshr a0 1) 1431655765)) 858993459) + (iAnd (iUshr (a0 - (iAnd (iUshr a0 1) 1431655765)) 2) 858993459)) 4)) 252645135) + (iUshr (iAnd (((iAnd (a0 - (iAnd (iUshr a0 1) 1431655765)) 858993459) + (iAnd (iUshr (a0 - (iAnd (iUshr a0 1) 1431655765)) 2) 858993459)) + (iUshr ((iAnd (a0 - (iAnd (iUshr a0 1) 1431655765)) 858993459) + (iAnd (iUshr (a0 - (iAnd (iUshr a0 1) 1431655765)) 2) 858993459)) 4)) 252645135) 8)) 16))) ∧ (Q (iAnd (((iAnd (((iAnd (a0 - (iAnd (iUshr a0 1) 1431655765)) 858993459) + (iAnd (iUshr (a0 - (iAnd (iUshr a0 1) 1431655765)) 2) 858993459)) + (iUshr ((iAnd (a0 - (iAnd (iUshr a0 1) 1431655765)) 858993459) + (iAnd (iUshr (a0 - (iAnd (iUshr a0 1) 1431655765)) 2) 858993459)) 4)) 252645135) + (iUshr (iAnd (((iAnd (a0 - (iAnd (iUshr a0 1) 1431655765)) 858993459) + (iAnd (iUshr (a0 - (iAnd (iUshr a0 1) 1431655765)) 2) 858993459)) + (iUshr ((iAnd (a0 - (iAnd (iUshr a0 1) 1431655765)) 858993459) + (iAnd (iUshr (a0 - (iAnd (iUshr a0 1) 1431655765)) 2) 858993459)) 4)) 252645135) 8)) + (iUshr ((iAnd (((iAnd (a0 - (iAnd (iUshr a0 1) 1431655765)) 858993459) + (iAnd (iUshr (a0 - (iAnd (iUshr a0 1) 1431655765)) 2) 858993459)) + (iUshr ((iAnd (a0 - (iAnd (iUshr a0 1) 1431655765)) 858993459) + (iAnd (iUshr (a0 - (iAnd (iUshr a0 1) 1431655765)) 2) 858993459)) 4)) 252645135) + (iUshr (iAnd (((iAnd (a0 - (iAnd (iUshr a0 1) 1431655765)) 858993459) + (iAnd (iUshr (a0 - (iAnd (iUshr a0 1) 1431655765)) 2) 858993459)) + (iUshr ((iAnd (a0 - (iAnd (iUshr a0 1) 1431655765)) 858993459) + (iAnd (iUshr (a0 - (iAnd (iUshr a0 1) 1431655765)) 2) 858993459)) 4)) 252645135) 8)) 16)) 63))))))
set_option maxHeartbeats 4000000 in
set_option maxRecDepth 20000 in
theorem s_JI_bitCount (l : Launch) (w : St) (a0 : Int) (P : Int → Prop) (h : wp_JI_bitCount a0 P) : Cn l yJ6_bitCount_0f7a4 cJ6_bitCount_0f7a4 1 (some .int) 0 LX w [aI a0] (okI (fun r w1 => w1 = w ∧ P r)) := by
  unfold wp_JI_bitCount at h
  refine Cn.of2 [some (aI a0)] (by decide) (Nat.le_of_ble_eq_true rfl) rfl (fun p e s m args below meth c D cA ad A Q hQ hC hr hk => ?_)
  refine r_iload_n (pc := 0) hC 0 dJ6_bitCount_0f7a4_0 rfl rfl ?_
  refine r_iload_n (pc := 1) hC 0 dJ6_bitCount_0f7a4_1 rfl rfl ?_
  refine r_iconst (pc := 2) hC dJ6_bitCount_0f7a4_2 (rng_lit rfl) ?_
  refine r_iushr (pc := 3) hC dJ6_bitCount_0f7a4_3 ?_
  refine r_ldcw (n := 1431655765) (pc := 4) hC dJ6_bitCount_0f7a4_4 kc_RJ6_265 (rng_lit rfl) ?_
  refine r_iand (pc := 7) hC dJ6_bitCount_0f7a4_7 ?_
  refine r_isub (pc := 8) hC dJ6_bitCount_0f7a4_8 h.1 ?_
  have h := h.2
  refine r_istore_n (ls2 := [some (aI (a0 - (iAnd (iUshr a0 1) 1431655765)))]) (pc := 9) hC 0 dJ6_bitCount_0f7a4_9 rfl (by decide) rfl rfl ?_
  refine r_iload_n (pc := 10) hC 0 dJ6_bitCount_0f7a4_10 rfl rfl ?_
  refine r_ldcw (n := 858993459) (pc := 11) hC dJ6_bitCount_0f7a4_11 kc_RJ6_266 (rng_lit rfl) ?_
  refine r_iand (pc := 14) hC dJ6_bitCount_0f7a4_14 ?_
  refine r_iload_n (pc := 15) hC 0 dJ6_bitCount_0f7a4_15 rfl rfl ?_
  refine r_iconst (pc := 16) hC dJ6_bitCount_0f7a4_16 (rng_lit rfl) ?_
  refine r_iushr (pc := 17) hC dJ6_bitCount_0f7a4_17 ?_
  refine r_ldcw (n := 858993459) (pc := 18) hC dJ6_bitCount_0f7a4_18 kc_RJ6_266 (rng_lit rfl) ?_
  refine r_iand (pc := 21) hC dJ6_bitCount_0f7a4_21 ?_
  refine r_iadd (pc := 22) hC dJ6_bitCount_0f7a4_22 h.1 ?_
  have h := h.2
  refine r_istore_n (ls2 := [some (aI ((iAnd (a0 - (iAnd (iUshr a0 1) 1431655765)) 858993459) + (iAnd (iUshr (a0 - (iAnd (iUshr a0 1) 1431655765)) 2) 858993459)))]) (pc := 23) hC 0 dJ6_bitCount_0f7a4_23 rfl (by decide) rfl rfl ?_
  refine r_iload_n (pc := 24) hC 0 dJ6_bitCount_0f7a4_24 rfl rfl ?_
  refine r_iload_n (pc := 25) hC 0 dJ6_bitCount_0f7a4_25 rfl rfl ?_
  refine r_iconst (pc := 26) hC dJ6_bitCount_0f7a4_26 (rng_lit rfl) ?_
  refine r_iushr (pc := 27) hC dJ6_bitCount_0f7a4_27 ?_
  refine r_iadd (pc := 28) hC dJ6_bitCount_0f7a4_28 h.1 ?_
  have h := h.2
  refine r_ldcw (n := 252645135) (pc := 29) hC dJ6_bitCount_0f7a4_29 kc_RJ6_267 (rng_lit rfl) ?_
  refine r_iand (pc := 32) hC dJ6_bitCount_0f7a4_32 ?_
  refine r_istore_n (ls2 := [some (aI (iAnd (((iAnd (a0 - (iAnd (iUshr a0 1) 1431655765)) 858993459) + (iAnd (iUshr (a0 - (iAnd (iUshr a0 1) 1431655765)) 2) 858993459)) + (iUshr ((iAnd (a0 - (iAnd (iUshr a0 1) 1431655765)) 858993459) + (iAnd (iUshr (a0 - (iAnd (iUshr a0 1) 1431655765)) 2) 858993459)) 4)) 252645135))]) (pc := 33) hC 0 dJ6_bitCount_0f7a4_33 rfl (by decide) rfl rfl ?_
  refine r_iload_n (pc := 34) hC 0 dJ6_bitCount_0f7a4_34 rfl rfl ?_
  refine r_iload_n (pc := 35) hC 0 dJ6_bitCount_0f7a4_35 rfl rfl ?_
  refine r_bipush (pc := 36) hC dJ6_bitCount_0f7a4_36 ⟨rfl, rng_lit rfl⟩ ?_
  refine r_iushr (pc := 38) hC dJ6_bitCount_0f7a4_38 ?_
  refine r_iadd (pc := 39) hC dJ6_bitCount_0f7a4_39 h.1 ?_
  have h := h.2
  refine r_istore_n (ls2 := [some (aI ((iAnd (((iAnd (a0 - (iAnd (iUshr a0 1) 1431655765)) 858993459) + (iAnd (iUshr (a0 - (iAnd (iUshr a0 1) 1431655765)) 2) 858993459)) + (iUshr ((iAnd (a0 - (iAnd (iUshr a0 1) 1431655765)) 858993459) + (iAnd (iUshr (a0 - (iAnd (iUshr a0 1) 1431655765)) 2) 858993459)) 4)) 252645135) + (iUshr (iAnd (((iAnd (a0 - (iAnd (iUshr a0 1) 1431655765)) 858993459) + (iAnd (iUshr (a0 - (iAnd (iUshr a0 1) 1431655765)) 2) 858993459)) + (iUshr ((iAnd (a0 - (iAnd (iUshr a0 1) 1431655765)) 858993459) + (iAnd (iUshr (a0 - (iAnd (iUshr a0 1) 1431655765)) 2) 858993459)) 4)) 252645135) 8)))]) (pc := 40) hC 0 dJ6_bitCount_0f7a4_40 rfl (by decide) rfl rfl ?_
  refine r_iload_n (pc := 41) hC 0 dJ6_bitCount_0f7a4_41 rfl rfl ?_
  refine r_iload_n (pc := 42) hC 0 dJ6_bitCount_0f7a4_42 rfl rfl ?_
  refine r_bipush (pc := 43) hC dJ6_bitCount_0f7a4_43 ⟨rfl, rng_lit rfl⟩ ?_
  refine r_iushr (pc := 45) hC dJ6_bitCount_0f7a4_45 ?_
  refine r_iadd (pc := 46) hC dJ6_bitCount_0f7a4_46 h.1 ?_
  have h := h.2
  refine r_istore_n (ls2 := [some (aI (((iAnd (((iAnd (a0 - (iAnd (iUshr a0 1) 1431655765)) 858993459) + (iAnd (iUshr (a0 - (iAnd (iUshr a0 1) 1431655765)) 2) 858993459)) + (iUshr ((iAnd (a0 - (iAnd (iUshr a0 1) 1431655765)) 858993459) + (iAnd (iUshr (a0 - (iAnd (iUshr a0 1) 1431655765)) 2) 858993459)) 4)) 252645135) + (iUshr (iAnd (((iAnd (a0 - (iAnd (iUshr a0 1) 1431655765)) 858993459) + (iAnd (iUshr (a0 - (iAnd (iUshr a0 1) 1431655765)) 2) 858993459)) + (iUshr ((iAnd (a0 - (iAnd (iUshr a0 1) 1431655765)) 858993459) + (iAnd (iUshr (a0 - (iAnd (iUshr a0 1) 1431655765)) 2) 858993459)) 4)) 252645135) 8)) + (iUshr ((iAnd (((iAnd (a0 - (iAnd (iUshr a0 1) 1431655765)) 858993459) + (iAnd (iUshr (a0 - (iAnd (iUshr a0 1) 1431655765)) 2) 858993459)) + (iUshr ((iAnd (a0 - (iAnd (iUshr a0 1) 1431655765)) 858993459) + (iAnd (iUshr (a0 - (iAnd (iUshr a0 1) 1431655765)) 2) 858993459)) 4)) 252645135) + (iUshr (iAnd (((iAnd (a0 - (iAnd (iUshr a0 1) 1431655765)) 858993459) + (iAnd (iUshr (a0 - (iAnd (iUshr a0 1) 1431655765)) 2) 858993459)) + (iUshr ((iAnd (a0 - (iAnd (iUshr a0 1) 1431655765)) 858993459) + (iAnd (iUshr (a0 - (iAnd (iUshr a0 1) 1431655765)) 2) 858993459)) 4)) 252645135) 8)) 16)))]) (pc := 47) hC 0 dJ6_bitCount_0f7a4_47 rfl (by decide) rfl rfl ?_
  refine r_iload_n (pc := 48) hC 0 dJ6_bitCount_0f7a4_48 rfl rfl ?_
  refine r_bipush (pc := 49) hC dJ6_bitCount_0f7a4_49 ⟨rfl, rng_lit rfl⟩ ?_
  refine r_iand (pc := 51) hC dJ6_bitCount_0f7a4_51 ?_
  exact r_reti (pc := 52) (kd := 0) hC hQ dJ6_bitCount_0f7a4_52 hr hk (by decide) (Or.inl rfl) ⟨rfl, h⟩
def wp_Matches_firstWordOf (mt_beginning : (Nat → Int)) (pg_words : Int) (a1 : Int) (Q : Int → Prop) : Prop := lpw2 (fun (x1 : Int) (x2 : Int) (k1 : Int → Int → Prop) => (pg_words ≤ x2 → Q (-1)) ∧ (¬ pg_words ≤ x2 → (0 ≤ x2 ∧ x2 < 100) ∧ (wp_JI_bitCount (mt_beginning (Int.toNat x2)) (fun (r3 : Int) => (rng (x1 + r3)) ∧ (((x1 + r3) ≤ a1 → (rng (x2 + 1)) ∧ (k1 (x1 + r3) (x2 + 1))) ∧ (¬ (x1 + r3) ≤ a1 → Q x2)))))) 0 0
set_option maxHeartbeats 4000000 in
set_option maxRecDepth 20000 in
theorem s_Matches_firstWordOf (l : Launch) (w : St) (a1 : Int) (P : Int → Prop) (h : wp_Matches_firstWordOf (w.1 30) (w.1 3 16) a1 P) : Cn l yX0_firstWordOf cX0_firstWordOf 4 (some .int) 1 LX w [aR 29, aI a1] (okI (fun r w1 => w1 = w ∧ P r)) := by
  unfold wp_Matches_firstWordOf at h
  refine Cn.of2 [some (aR 29), some (aI a1), none, none] (by decide) (Nat.le_of_ble_eq_true rfl) rfl (fun p e s m args below meth c D cA ad A Q hQ hC hr hk => ?_)
  refine r_iconst (pc := 0) hC dX0_firstWordOf_0 (rng_lit rfl) ?_
  refine r_istore_n (ls2 := [some (aR 29), some (aI a1), some (aI 0), none]) (pc := 1) hC 2 dX0_firstWordOf_1 rfl (by decide) rfl rfl ?_
  refine r_iconst (pc := 2) hC dX0_firstWordOf_2 (rng_lit rfl) ?_
  refine r_istore_n (ls2 := [some (aR 29), some (aI a1), some (aI 0), some (aI 0)]) (pc := 3) hC 3 dX0_firstWordOf_3 rfl (by decide) rfl rfl ?_
  obtain ⟨I1, μ1, hI1, hB1⟩ := h
  have S1 : ∀ (nn : Nat) (x1 : Int) (x2 : Int), μ1 x1 x2 < nn → I1 x1 x2 → Wd p l e (rmD 1) s m args below meth c Q 0 0 4 D cA ad A LX w 4 [some (aR 29), some (aI a1), some (aI x1), some (aI x2)] [] := by
    intro nn
    induction nn with
    | zero => intro x1 x2 hn; exact absurd hn (Nat.not_lt_zero _)
    | succ nn ih1 =>
      intro x1 x2 hn1 hi
      have h := hB1 x1 x2 hi
      refine r_iload_n (pc := 4) hC 3 dX0_firstWordOf_4 rfl rfl ?_
      refine r_aload_n (pc := 5) hC 0 dX0_firstWordOf_5 rfl rfl ?_
      refine r_getr (r := 3) (pc := 6) hC dX0_firstWordOf_6 fl_RX0_25 lX_29 rfl ?_
      refine r_get (kd := 0) (v := (w.1 3 16)) (pc := 9) hC dX0_firstWordOf_9 fl_RX0_46 lX_3 rfl rfl ?_
      refine r_ic_ge (pc := 12) (tgt := 40) hC dX0_firstWordOf_12 rfl (fun hc2 => ?_) (fun hc2 => ?_)
      · have h := h.1 hc2
        refine r_iconst (pc := 40) hC dX0_firstWordOf_40 (rng_lit rfl) ?_
        exact r_reti (pc := 41) (kd := 0) hC hQ dX0_firstWordOf_41 hr hk (by decide) (Or.inl rfl) ⟨rfl, h⟩
      have h := h.2 hc2
      refine r_iload_n (pc := 15) hC 2 dX0_firstWordOf_15 rfl rfl ?_
      refine r_aload_n (pc := 16) hC 0 dX0_firstWordOf_16 rfl rfl ?_
      refine r_getr (r := 30) (pc := 17) hC dX0_firstWordOf_17 fl_RX0_9 lX_29 rfl ?_
      refine r_iload_n (pc := 20) hC 3 dX0_firstWordOf_20 rfl rfl ?_
      refine r_iald (v := ((w.1 30) (Int.toNat x2))) (pc := 21) hC dX0_firstWordOf_21 lX_30 h.1.1 h.1.2 rfl ?_
      have h := h.2
      refine r_callSi (pc := 22) hC [aI ((w.1 30) (Int.toNat x2))] [aI x1] dX0_firstWordOf_22 ml_RX0_106 my_J6_bitCount_0f7a4 ms_J6_bitCount_0f7a4 rfl ⟨Nat.le_of_ble_eq_true rfl, Nat.le_of_ble_eq_true rfl⟩ ⟨Nat.le_of_ble_eq_true rfl, Nat.le_of_ble_eq_true rfl⟩ (Nat.le_of_ble_eq_true rfl) rfl (s_JI_bitCount l _ _ _ h) (fun r3 w1 hq => ?_)
      obtain ⟨e9, h⟩ := hq
      rw [e9]
      refine r_iadd (pc := 25) hC dX0_firstWordOf_25 h.1 ?_
      have h := h.2
      refine r_istore_n (ls2 := [some (aR 29), some (aI a1), some (aI (x1 + r3)), some (aI x2)]) (pc := 26) hC 2 dX0_firstWordOf_26 rfl (by decide) rfl rfl ?_
      refine r_iload_n (pc := 27) hC 2 dX0_firstWordOf_27 rfl rfl ?_
      refine r_iload_n (pc := 28) hC 1 dX0_firstWordOf_28 rfl rfl ?_
      refine r_ic_le (pc := 29) (tgt := 34) hC dX0_firstWordOf_29 rfl (fun hc1 => ?_) (fun hc1 => ?_)
      · have h := h.1 hc1
        refine r_iinc (ls2 := [some (aR 29), some (aI a1), some (aI (x1 + r3)), some (aI (x2 + 1))]) (pc := 34) hC dX0_firstWordOf_34 rfl (by decide) rfl h.1 rfl ?_
        have h := h.2
        refine r_goto (tgt := 4) (pc := 37) hC dX0_firstWordOf_37 rfl ?_
        exact r_to [true, true, true, true] rfl rfl (ih1 (x1 + r3) (x2 + 1) (Nat.lt_of_lt_of_le h.2 (Nat.le_of_lt_succ hn1)) h.1)
      have h := h.2 hc1
      refine r_iload_n (pc := 32) hC 3 dX0_firstWordOf_32 rfl rfl ?_
      exact r_reti (pc := 33) (kd := 0) hC hQ dX0_firstWordOf_33 hr hk (by decide) (Or.inl rfl) ⟨rfl, h⟩
  exact r_to [true, true, true, true] rfl rfl (S1 _ 0 0 (Nat.lt_succ_self _) hI1)
def wp_Matches_itemOf (mt_beginning : (Nat → Int)) (pg_words : Int) (qy_items : Int) (a1 : Int) (Q : Int → Prop) : Prop := lpw2 (fun (x1 : Int) (x2 : Int) (k1 : Int → Int → Prop) => (pg_words ≤ x2 → Q 0) ∧ (¬ pg_words ≤ x2 → lpw2 (fun (x3 : Int) (x4 : Int) (k2 : Int → Int → Prop) => (qy_items ≤ x4 → (rng (x2 + 1)) ∧ (k1 x3 (x2 + 1))) ∧ (¬ qy_items ≤ x4 → (0 ≤ x2 ∧ x2 < 100) ∧ ((rng (x3 + (iAnd (iUshr (mt_beginning (Int.toNat x2)) x4) 1))) ∧ (((x3 + (iAnd (iUshr (mt_beginning (Int.toNat x2)) x4) 1)) ≤ a1 → (rng (x4 + 1)) ∧ (k2 (x3 + (iAnd (iUshr (mt_beginning (Int.toNat x2)) x4) 1)) (x4 + 1))) ∧ (¬ (x3 + (iAnd (iUshr (mt_beginning (Int.toNat x2)) x4) 1)) ≤ a1 → Q x4))))) x1 0)) 0 0
set_option maxHeartbeats 4000000 in
set_option maxRecDepth 20000 in
theorem s_Matches_itemOf (l : Launch) (w : St) (a1 : Int) (P : Int → Prop) (h : wp_Matches_itemOf (w.1 30) (w.1 3 16) (w.1 18 6) a1 P) : Cn l yX0_itemOf cX0_itemOf 5 (some .int) 0 LX w [aR 29, aI a1] (okI (fun r w1 => w1 = w ∧ P r)) := by
  unfold wp_Matches_itemOf at h
  refine Cn.of2 [some (aR 29), some (aI a1), none, none, none] (by decide) (Nat.le_of_ble_eq_true rfl) rfl (fun p e s m args below meth c D cA ad A Q hQ hC hr hk => ?_)
  refine r_iconst (pc := 0) hC dX0_itemOf_0 (rng_lit rfl) ?_
  refine r_istore_n (ls2 := [some (aR 29), some (aI a1), some (aI 0), none, none]) (pc := 1) hC 2 dX0_itemOf_1 rfl (by decide) rfl rfl ?_
  refine r_iconst (pc := 2) hC dX0_itemOf_2 (rng_lit rfl) ?_
  refine r_istore_n (ls2 := [some (aR 29), some (aI a1), some (aI 0), some (aI 0), none]) (pc := 3) hC 3 dX0_itemOf_3 rfl (by decide) rfl rfl ?_
  obtain ⟨I1, μ1, hI1, hB1⟩ := h
  have S1 : ∀ (nn : Nat) (x1 : Int) (x2 : Int), μ1 x1 x2 < nn → I1 x1 x2 → Wd p l e (rmD 0) s m args below meth c Q 0 0 5 D cA ad A LX w 4 [some (aR 29), some (aI a1), some (aI x1), some (aI x2), none] [] := by
    intro nn
    induction nn with
    | zero => intro x1 x2 hn; exact absurd hn (Nat.not_lt_zero _)
    | succ nn ih1 =>
      intro x1 x2 hn1 hi
      have h := hB1 x1 x2 hi
      refine r_iload_n (pc := 4) hC 3 dX0_itemOf_4 rfl rfl ?_
      refine r_aload_n (pc := 5) hC 0 dX0_itemOf_5 rfl rfl ?_
      refine r_getr (r := 3) (pc := 6) hC dX0_itemOf_6 fl_RX0_25 lX_29 rfl ?_
      refine r_get (kd := 0) (v := (w.1 3 16)) (pc := 9) hC dX0_itemOf_9 fl_RX0_46 lX_3 rfl rfl ?_
      refine r_ic_ge (pc := 12) (tgt := 64) hC dX0_itemOf_12 rfl (fun hc3 => ?_) (fun hc3 => ?_)
      · have h := h.1 hc3
        refine r_iconst (pc := 64) hC dX0_itemOf_64 (rng_lit rfl) ?_
        exact r_reti (pc := 65) (kd := 0) hC hQ dX0_itemOf_65 hr hk (by decide) (Or.inl rfl) ⟨rfl, h⟩
      have h := h.2 hc3
      refine r_iconst (pc := 15) hC dX0_itemOf_15 (rng_lit rfl) ?_
      refine r_istore (ls2 := [some (aR 29), some (aI a1), some (aI x1), some (aI x2), some (aI 0)]) (pc := 16) hC dX0_itemOf_16 (by decide) rfl rfl ?_
      obtain ⟨I2, μ2, hI2, hB2⟩ := h
      have S2 : ∀ (nn : Nat) (x3 : Int) (x4 : Int), μ2 x3 x4 < nn → I2 x3 x4 → Wd p l e (rmD 0) s m args below meth c Q 0 0 5 D cA ad A LX w 18 [some (aR 29), some (aI a1), some (aI x3), some (aI x2), some (aI x4)] [] := by
        intro nn
        induction nn with
        | zero => intro x3 x4 hn; exact absurd hn (Nat.not_lt_zero _)
        | succ nn ih2 =>
          intro x3 x4 hn2 hi
          have h := hB2 x3 x4 hi
          refine r_iload (pc := 18) hC dX0_itemOf_18 rfl ?_
          refine r_aload_n (pc := 20) hC 0 dX0_itemOf_20 rfl rfl ?_
          refine r_getr (r := 18) (pc := 21) hC dX0_itemOf_21 fl_RX0_29 lX_29 rfl ?_
          refine r_get (kd := 0) (v := (w.1 18 6)) (pc := 24) hC dX0_itemOf_24 fl_RX0_51 lX_18 rfl rfl ?_
          refine r_ic_ge (pc := 27) (tgt := 58) hC dX0_itemOf_27 rfl (fun hc2 => ?_) (fun hc2 => ?_)
          · have h := h.1 hc2
            refine r_iinc (ls2 := [some (aR 29), some (aI a1), some (aI x3), some (aI (x2 + 1)), some (aI x4)]) (pc := 58) hC dX0_itemOf_58 rfl (by decide) rfl h.1 rfl ?_
            have h := h.2
            refine r_goto (tgt := 4) (pc := 61) hC dX0_itemOf_61 rfl ?_
            exact r_to [true, true, true, true, false] rfl rfl (ih1 x3 (x2 + 1) (Nat.lt_of_lt_of_le h.2 (Nat.le_of_lt_succ hn1)) h.1)
          have h := h.2 hc2
          refine r_iload_n (pc := 30) hC 2 dX0_itemOf_30 rfl rfl ?_
          refine r_aload_n (pc := 31) hC 0 dX0_itemOf_31 rfl rfl ?_
          refine r_getr (r := 30) (pc := 32) hC dX0_itemOf_32 fl_RX0_9 lX_29 rfl ?_
          refine r_iload_n (pc := 35) hC 3 dX0_itemOf_35 rfl rfl ?_
          refine r_iald (v := ((w.1 30) (Int.toNat x2))) (pc := 36) hC dX0_itemOf_36 lX_30 h.1.1 h.1.2 rfl ?_
          have h := h.2
          refine r_iload (pc := 37) hC dX0_itemOf_37 rfl ?_
          refine r_iushr (pc := 39) hC dX0_itemOf_39 ?_
          refine r_iconst (pc := 40) hC dX0_itemOf_40 (rng_lit rfl) ?_
          refine r_iand (pc := 41) hC dX0_itemOf_41 ?_
          refine r_iadd (pc := 42) hC dX0_itemOf_42 h.1 ?_
          have h := h.2
          refine r_istore_n (ls2 := [some (aR 29), some (aI a1), some (aI (x3 + (iAnd (iUshr ((w.1 30) (Int.toNat x2)) x4) 1))), some (aI x2), some (aI x4)]) (pc := 43) hC 2 dX0_itemOf_43 rfl (by decide) rfl rfl ?_
          refine r_iload_n (pc := 44) hC 2 dX0_itemOf_44 rfl rfl ?_
          refine r_iload_n (pc := 45) hC 1 dX0_itemOf_45 rfl rfl ?_
          refine r_ic_le (pc := 46) (tgt := 52) hC dX0_itemOf_46 rfl (fun hc1 => ?_) (fun hc1 => ?_)
          · have h := h.1 hc1
            refine r_iinc (ls2 := [some (aR 29), some (aI a1), some (aI (x3 + (iAnd (iUshr ((w.1 30) (Int.toNat x2)) x4) 1))), some (aI x2), some (aI (x4 + 1))]) (pc := 52) hC dX0_itemOf_52 rfl (by decide) rfl h.1 rfl ?_
            have h := h.2
            refine r_goto (tgt := 18) (pc := 55) hC dX0_itemOf_55 rfl ?_
            exact r_to [true, true, true, true, true] rfl rfl (ih2 (x3 + (iAnd (iUshr ((w.1 30) (Int.toNat x2)) x4) 1)) (x4 + 1) (Nat.lt_of_lt_of_le h.2 (Nat.le_of_lt_succ hn2)) h.1)
          have h := h.2 hc1
          refine r_iload (pc := 49) hC dX0_itemOf_49 rfl ?_
          exact r_reti (pc := 51) (kd := 0) hC hQ dX0_itemOf_51 hr hk (by decide) (Or.inl rfl) ⟨rfl, h⟩
      exact r_to [true, true, true, true, true] rfl rfl (S2 _ x1 0 (Nat.lt_succ_self _) hI2)
  exact r_to [true, true, true, true, false] rfl rfl (S1 _ 0 0 (Nat.lt_succ_self _) hI1)
def wp_Query_countIn (a1 : Int64) (a3 : Int) (Q : Int → Prop) : Prop := (rng (a3 * 8)) ∧ (Q (l2i ((lUshr a1 (a3 * 8)) &&& 255)))
set_option maxHeartbeats 4000000 in
set_option maxRecDepth 20000 in
theorem s_Query_countIn (l : Launch) (w : St) (a1 : Int64) (a3 : Int) (P : Int → Prop) (h : wp_Query_countIn a1 a3 P) : Cn l yX2_countIn cX2_countIn 4 (some .int) 0 LX w [aR 18, aL a1, aI a3] (okI (fun r w1 => w1 = w ∧ P r)) := by
  unfold wp_Query_countIn at h
  refine Cn.of2 [some (aR 18), some (aL a1), none, some (aI a3)] (by decide) (Nat.le_of_ble_eq_true rfl) rfl (fun p e s m args below meth c D cA ad A Q hQ hC hr hk => ?_)
  refine r_lload_n (pc := 0) hC 1 dX2_countIn_0 rfl rfl ?_
  refine r_iload_n (pc := 1) hC 3 dX2_countIn_1 rfl rfl ?_
  refine r_bipush (pc := 2) hC dX2_countIn_2 ⟨rfl, rng_lit rfl⟩ ?_
  refine r_imul (pc := 4) hC dX2_countIn_4 h.1 ?_
  have h := h.2
  refine r_lushr (pc := 5) hC dX2_countIn_5 ?_
  refine r_ldc2 (x := 255) (pc := 6) hC dX2_countIn_6 kc_RX2_50 ?_
  refine r_land (pc := 9) hC dX2_countIn_9 ?_
  refine r_l2i (pc := 10) hC dX2_countIn_10 ?_
  exact r_reti (pc := 11) (kd := 0) hC hQ dX2_countIn_11 hr hk (by decide) (Or.inl rfl) ⟨rfl, h⟩
def wp_Matches_sentencesWith (pg_sentences : Int) (mt_tallies : (Nat → Int64)) (a1 : Int) (Q : Int → Prop) : Prop := lpw2 (fun (x1 : Int) (x2 : Int) (k1 : Int → Int → Prop) => (pg_sentences ≤ x2 → Q x1) ∧ (¬ pg_sentences ≤ x2 → (0 ≤ x2 ∧ x2 < 14) ∧ (wp_Query_countIn (mt_tallies (Int.toNat x2)) a1 (fun (r3 : Int) => jn1 (fun (J2 : Int → Prop) => (r3 ≤ 0 → J2 0) ∧ (¬ r3 ≤ 0 → J2 (iShl 1 x2))) (fun (y4 : Int) => (rng (x2 + 1)) ∧ (k1 (iOr x1 y4) (x2 + 1))))))) 0 0
set_option maxHeartbeats 4000000 in
set_option maxRecDepth 20000 in
theorem s_Matches_sentencesWith (l : Launch) (w : St) (a1 : Int) (P : Int → Prop) (h : wp_Matches_sentencesWith (w.1 3 17) (w.2 33) a1 P) : Cn l yX0_sentencesWith cX0_sentencesWith 4 (some .int) 1 LX w [aR 29, aI a1] (okI (fun r w1 => w1 = w ∧ P r)) := by
  unfold wp_Matches_sentencesWith at h
  refine Cn.of2 [some (aR 29), some (aI a1), none, none] (by decide) (Nat.le_of_ble_eq_true rfl) rfl (fun p e s m args below meth c D cA ad A Q hQ hC hr hk => ?_)
  refine r_iconst (pc := 0) hC dX0_sentencesWith_0 (rng_lit rfl) ?_
  refine r_istore_n (ls2 := [some (aR 29), some (aI a1), some (aI 0), none]) (pc := 1) hC 2 dX0_sentencesWith_1 rfl (by decide) rfl rfl ?_
  refine r_iconst (pc := 2) hC dX0_sentencesWith_2 (rng_lit rfl) ?_
  refine r_istore_n (ls2 := [some (aR 29), some (aI a1), some (aI 0), some (aI 0)]) (pc := 3) hC 3 dX0_sentencesWith_3 rfl (by decide) rfl rfl ?_
  obtain ⟨I1, μ1, hI1, hB1⟩ := h
  have S1 : ∀ (nn : Nat) (x1 : Int) (x2 : Int), μ1 x1 x2 < nn → I1 x1 x2 → Wd p l e (rmD 1) s m args below meth c Q 0 0 4 D cA ad A LX w 4 [some (aR 29), some (aI a1), some (aI x1), some (aI x2)] [] := by
    intro nn
    induction nn with
    | zero => intro x1 x2 hn; exact absurd hn (Nat.not_lt_zero _)
    | succ nn ih1 =>
      intro x1 x2 hn1 hi
      have h := hB1 x1 x2 hi
      refine r_iload_n (pc := 4) hC 3 dX0_sentencesWith_4 rfl rfl ?_
      refine r_aload_n (pc := 5) hC 0 dX0_sentencesWith_5 rfl rfl ?_
      refine r_getr (r := 3) (pc := 6) hC dX0_sentencesWith_6 fl_RX0_25 lX_29 rfl ?_
      refine r_get (kd := 0) (v := (w.1 3 17)) (pc := 9) hC dX0_sentencesWith_9 fl_RX0_111 lX_3 rfl rfl ?_
      refine r_ic_ge (pc := 12) (tgt := 48) hC dX0_sentencesWith_12 rfl (fun hc2 => ?_) (fun hc2 => ?_)
      · have h := h.1 hc2
        refine r_iload_n (pc := 48) hC 2 dX0_sentencesWith_48 rfl rfl ?_
        exact r_reti (pc := 49) (kd := 0) hC hQ dX0_sentencesWith_49 hr hk (by decide) (Or.inl rfl) ⟨rfl, h⟩
      have h := h.2 hc2
      refine r_iload_n (pc := 15) hC 2 dX0_sentencesWith_15 rfl rfl ?_
      refine r_aload_n (pc := 16) hC 0 dX0_sentencesWith_16 rfl rfl ?_
      refine r_getr (r := 18) (pc := 17) hC dX0_sentencesWith_17 fl_RX0_29 lX_29 rfl ?_
      refine r_aload_n (pc := 20) hC 0 dX0_sentencesWith_20 rfl rfl ?_
      refine r_getr (r := 33) (pc := 21) hC dX0_sentencesWith_21 fl_RX0_21 lX_29 rfl ?_
      refine r_iload_n (pc := 24) hC 3 dX0_sentencesWith_24 rfl rfl ?_
      refine r_lald (v := ((w.2 33) (Int.toNat x2))) (pc := 25) hC dX0_sentencesWith_25 lX_33 h.1.1 h.1.2 rfl ?_
      have h := h.2
      refine r_iload_n (pc := 26) hC 1 dX0_sentencesWith_26 rfl rfl ?_
      refine r_callVi (pc := 27) hC [aL ((w.2 33) (Int.toNat x2)), aI a1] [aI x1] dX0_sentencesWith_27 ml_RX0_114 my_X2_countIn mi_X2_countIn lX_18 rfl rfl ⟨Nat.le_of_ble_eq_true rfl, Nat.le_of_ble_eq_true rfl⟩ ⟨Nat.le_of_ble_eq_true rfl, Nat.le_of_ble_eq_true rfl⟩ (Nat.le_of_ble_eq_true rfl) rfl (s_Query_countIn l _ _ _ _ h) (fun r3 w1 hq => ?_)
      obtain ⟨e9, h⟩ := hq
      rw [e9]
      obtain ⟨J2, hJ2, h⟩ := h
      have S2 : ∀ (y4 : Int), J2 y4 → Wd p l e (rmD 1) s m args below meth c Q 0 0 4 D cA ad A LX w 40 [some (aR 29), some (aI a1), none, some (aI x2)] [aI y4, aI x1] := by
        intro y4 hj
        have h := hJ2 y4 hj
        refine r_ior (pc := 40) hC dX0_sentencesWith_40 ?_
        refine r_istore_n (ls2 := [some (aR 29), some (aI a1), some (aI (iOr x1 y4)), some (aI x2)]) (pc := 41) hC 2 dX0_sentencesWith_41 rfl (by decide) rfl rfl ?_
        refine r_iinc (ls2 := [some (aR 29), some (aI a1), some (aI (iOr x1 y4)), some (aI (x2 + 1))]) (pc := 42) hC dX0_sentencesWith_42 rfl (by decide) rfl h.1 rfl ?_
        have h := h.2
        refine r_goto (tgt := 4) (pc := 45) hC dX0_sentencesWith_45 rfl ?_
        exact r_to [true, true, true, true] rfl rfl (ih1 (iOr x1 y4) (x2 + 1) (Nat.lt_of_lt_of_le h.2 (Nat.le_of_lt_succ hn1)) h.1)
      refine r_if_le (pc := 30) (tgt := 39) hC dX0_sentencesWith_30 rfl (fun hc1 => ?_) (fun hc1 => ?_)
      · have h := h.1 hc1
        refine r_iconst (pc := 39) hC dX0_sentencesWith_39 (rng_lit rfl) ?_
        exact r_to [true, true, false, true] rfl rfl (S2 0 h)
      have h := h.2 hc1
      refine r_iconst (pc := 33) hC dX0_sentencesWith_33 (rng_lit rfl) ?_
      refine r_iload_n (pc := 34) hC 3 dX0_sentencesWith_34 rfl rfl ?_
      refine r_ishl (pc := 35) hC dX0_sentencesWith_35 ?_
      refine r_goto (tgt := 40) (pc := 36) hC dX0_sentencesWith_36 rfl ?_
      exact r_to [true, true, false, true] rfl rfl (S2 (iShl 1 x2) h)
  exact r_to [true, true, true, true] rfl rfl (S1 _ 0 0 (Nat.lt_succ_self _) hI1)
