def wp_M_thrown (m_thrown : Int) (Q : Int → Prop) : Prop := Q m_thrown
set_option maxHeartbeats 4000000 in
set_option maxRecDepth 20000 in
theorem s_M_thrown (l : Launch) (w : St) (P : Int → Prop) (h : wp_M_thrown (w.1 0 0) P) : Cn l yX10_thrown cX10_thrown 1 (some .int) 0 LM w [aR 0] (okI (fun r w1 => w1 = w ∧ P r)) := by
  unfold wp_M_thrown at h
  refine Cn.of2 [some (aR 0)] (by decide) (Nat.le_of_ble_eq_true rfl) rfl (fun p e s m args below meth c D cA ad A Q hQ hC hr hk => ?_)
  refine r_aload_n (pc := 0) hC 0 dX10_thrown_0 rfl rfl ?_
  refine r_get (kd := 0) (v := (w.1 0 0)) (pc := 1) hC dX10_thrown_1 fl_RX10_142 lM_0 rfl rfl ?_
  exact r_reti (pc := 4) (kd := 0) hC hQ dX10_thrown_4 hr hk (by decide) (Or.inl rfl) ⟨rfl, h⟩
def wp_M_throwsIf (m_thrown : Int) (a1 : Int) (a2 : Int) (Q : Int → Int → Prop) : Prop := (a1 = 0 → (0 ≤ a1 ∧ a1 ≤ 1) ∧ (Q a1 m_thrown)) ∧ (¬ a1 = 0 → (0 ≤ a1 ∧ a1 ≤ 1) ∧ (Q a1 a2))
set_option maxHeartbeats 4000000 in
set_option maxRecDepth 20000 in
theorem s_M_throwsIf (l : Launch) (w : St) (a1 : Int) (a2 : Int) (P : Int → Int → Prop) (h : wp_M_throwsIf (w.1 0 0) a1 a2 P) : Cn l yX10_throwsIf cX10_throwsIf 3 (some .boolean) 0 LM w [aR 0, aI a1, aI a2] (okI (fun r w1 => ∃ (o0 : Int), w1 = (wI w 0 0 o0) ∧ P r o0)) := by
  unfold wp_M_throwsIf at h
  refine Cn.of2 [some (aR 0), some (aI a1), some (aI a2)] (by decide) (Nat.le_of_ble_eq_true rfl) rfl (fun p e s m args below meth c D cA ad A Q hQ hC hr hk => ?_)
  refine r_iload_n (pc := 0) hC 1 dX10_throwsIf_0 rfl rfl ?_
  refine r_if_eq (pc := 1) (tgt := 9) hC dX10_throwsIf_1 rfl (fun hc1 => ?_) (fun hc1 => ?_)
  · have h := h.1 hc1
    refine r_iload_n (pc := 9) hC 1 dX10_throwsIf_9 rfl rfl ?_
    refine r_conv (w2 := (wI w 0 0 (w.1 0 0))) rfl ?_
    exact r_reti (pc := 10) (kd := 1) hC hQ dX10_throwsIf_10 hr hk (by decide) (Or.inr h.1) ⟨(w.1 0 0), rfl, h.2⟩
  have h := h.2 hc1
  refine r_aload_n (pc := 4) hC 0 dX10_throwsIf_4 rfl rfl ?_
  refine r_iload_n (pc := 5) hC 2 dX10_throwsIf_5 rfl rfl ?_
  refine r_put (kd := 0) (pc := 6) hC dX10_throwsIf_6 pl_RX10_142 lM_0 rfl (by decide) (Or.inl rfl) ?_
  refine r_iload_n (pc := 9) hC 1 dX10_throwsIf_9 rfl rfl ?_
  refine r_conv (w2 := (wI w 0 0 a2)) rfl ?_
  exact r_reti (pc := 10) (kd := 1) hC hQ dX10_throwsIf_10 hr hk (by decide) (Or.inr h.1) ⟨a2, rfl, h.2⟩
def wp_M_in (a0 : Int) (a1 : Int) (a2 : Int) (Q : Int → Prop) : Prop := (a0 < a1 → Q 0) ∧ (¬ a0 < a1 → (a2 < a0 → Q 0) ∧ (¬ a2 < a0 → Q 1))
set_option maxHeartbeats 4000000 in
set_option maxRecDepth 20000 in
theorem s_M_in (l : Launch) (w : St) (a0 : Int) (a1 : Int) (a2 : Int) (P : Int → Prop) (h : wp_M_in a0 a1 a2 P) : Cn l yX10_in cX10_in 3 (some .boolean) 0 LM w [aI a0, aI a1, aI a2] (okI (fun r w1 => w1 = w ∧ P r)) := by
  unfold wp_M_in at h
  refine Cn.of2 [some (aI a0), some (aI a1), some (aI a2)] (by decide) (Nat.le_of_ble_eq_true rfl) rfl (fun p e s m args below meth c D cA ad A Q hQ hC hr hk => ?_)
  refine r_iload_n (pc := 0) hC 0 dX10_in_0 rfl rfl ?_
  refine r_iload_n (pc := 1) hC 1 dX10_in_1 rfl rfl ?_
  refine r_ic_lt (pc := 2) (tgt := 14) hC dX10_in_2 rfl (fun hc2 => ?_) (fun hc2 => ?_)
  · have h := h.1 hc2
    refine r_iconst (pc := 14) hC dX10_in_14 (rng_lit rfl) ?_
    exact r_reti (pc := 15) (kd := 1) hC hQ dX10_in_15 hr hk (by decide) (Or.inr okK1_0) ⟨rfl, h⟩
  have h := h.2 hc2
  refine r_iload_n (pc := 5) hC 0 dX10_in_5 rfl rfl ?_
  refine r_iload_n (pc := 6) hC 2 dX10_in_6 rfl rfl ?_
  refine r_ic_gt (pc := 7) (tgt := 14) hC dX10_in_7 rfl (fun hc1 => ?_) (fun hc1 => ?_)
  · have h := h.1 hc1
    refine r_iconst (pc := 14) hC dX10_in_14 (rng_lit rfl) ?_
    exact r_reti (pc := 15) (kd := 1) hC hQ dX10_in_15 hr hk (by decide) (Or.inr okK1_0) ⟨rfl, h⟩
  have h := h.2 hc1
  refine r_iconst (pc := 10) hC dX10_in_10 (rng_lit rfl) ?_
  refine r_goto (tgt := 15) (pc := 11) hC dX10_in_11 rfl ?_
  exact r_reti (pc := 15) (kd := 1) hC hQ dX10_in_15 hr hk (by decide) (Or.inr okK1_1) ⟨rfl, h⟩
def wp_M_holds (a0 : Int) (a1 : Int) (Q : Int → Prop) : Prop := (¬ (iAnd (iShr a0 a1) 1) = 1 → Q 0) ∧ ((iAnd (iShr a0 a1) 1) = 1 → Q 1)
set_option maxHeartbeats 4000000 in
set_option maxRecDepth 20000 in
theorem s_M_holds (l : Launch) (w : St) (a0 : Int) (a1 : Int) (P : Int → Prop) (h : wp_M_holds a0 a1 P) : Cn l yX10_holds cX10_holds 2 (some .boolean) 0 LM w [aI a0, aI a1] (okI (fun r w1 => w1 = w ∧ P r)) := by
  unfold wp_M_holds at h
  refine Cn.of2 [some (aI a0), some (aI a1)] (by decide) (Nat.le_of_ble_eq_true rfl) rfl (fun p e s m args below meth c D cA ad A Q hQ hC hr hk => ?_)
  refine r_iload_n (pc := 0) hC 0 dX10_holds_0 rfl rfl ?_
  refine r_iload_n (pc := 1) hC 1 dX10_holds_1 rfl rfl ?_
  refine r_ishr (pc := 2) hC dX10_holds_2 ?_
  refine r_iconst (pc := 3) hC dX10_holds_3 (rng_lit rfl) ?_
  refine r_iand (pc := 4) hC dX10_holds_4 ?_
  refine r_iconst (pc := 5) hC dX10_holds_5 (rng_lit rfl) ?_
  refine r_ic_ne (pc := 6) (tgt := 13) hC dX10_holds_6 rfl (fun hc1 => ?_) (fun hc1 => ?_)
  · have h := h.1 hc1
    refine r_iconst (pc := 13) hC dX10_holds_13 (rng_lit rfl) ?_
    exact r_reti (pc := 14) (kd := 1) hC hQ dX10_holds_14 hr hk (by decide) (Or.inr okK1_0) ⟨rfl, h⟩
  have h := h.2 hc1
  refine r_iconst (pc := 9) hC dX10_holds_9 (rng_lit rfl) ?_
  refine r_goto (tgt := 14) (pc := 10) hC dX10_holds_10 rfl ?_
  exact r_reti (pc := 14) (kd := 1) hC hQ dX10_holds_14 hr hk (by decide) (Or.inr okK1_1) ⟨rfl, h⟩
def wp_M_bits (a0 : Int) (Q : Int → Prop) : Prop := lpw2 (fun (x1 : Int) (x2 : Int) (k1 : Int → Int → Prop) => (x2 = 0 → Q x1) ∧ (¬ x2 = 0 → (rng (x1 + 1)) ∧ ((rng (x2 - 1)) ∧ (k1 (x1 + 1) (iAnd x2 (x2 - 1)))))) 0 a0
set_option maxHeartbeats 4000000 in
set_option maxRecDepth 20000 in
theorem s_M_bits (l : Launch) (w : St) (a0 : Int) (P : Int → Prop) (h : wp_M_bits a0 P) : Cn l yX10_bits cX10_bits 3 (some .int) 0 LM w [aI a0] (okI (fun r w1 => w1 = w ∧ P r)) := by
  unfold wp_M_bits at h
  refine Cn.of2 [some (aI a0), none, none] (by decide) (Nat.le_of_ble_eq_true rfl) rfl (fun p e s m args below meth c D cA ad A Q hQ hC hr hk => ?_)
  refine r_iconst (pc := 0) hC dX10_bits_0 (rng_lit rfl) ?_
  refine r_istore_n (ls2 := [some (aI a0), some (aI 0), none]) (pc := 1) hC 1 dX10_bits_1 rfl (by decide) rfl rfl ?_
  refine r_iload_n (pc := 2) hC 0 dX10_bits_2 rfl rfl ?_
  refine r_istore_n (ls2 := [some (aI a0), some (aI 0), some (aI a0)]) (pc := 3) hC 2 dX10_bits_3 rfl (by decide) rfl rfl ?_
  obtain ⟨I1, μ1, hI1, hB1⟩ := h
  have S1 : ∀ (nn : Nat) (x1 : Int) (x2 : Int), μ1 x1 x2 < nn → I1 x1 x2 → Wd p l e (rmD 0) s m args below meth c Q 0 0 3 D cA ad A LM w 4 [none, some (aI x1), some (aI x2)] [] := by
    intro nn
    induction nn with
    | zero => intro x1 x2 hn; exact absurd hn (Nat.not_lt_zero _)
    | succ nn ih1 =>
      intro x1 x2 hn1 hi
      have h := hB1 x1 x2 hi
      refine r_iload_n (pc := 4) hC 2 dX10_bits_4 rfl rfl ?_
      refine r_if_eq (pc := 5) (tgt := 20) hC dX10_bits_5 rfl (fun hc1 => ?_) (fun hc1 => ?_)
      · have h := h.1 hc1
        refine r_iload_n (pc := 20) hC 1 dX10_bits_20 rfl rfl ?_
        exact r_reti (pc := 21) (kd := 0) hC hQ dX10_bits_21 hr hk (by decide) (Or.inl rfl) ⟨rfl, h⟩
      have h := h.2 hc1
      refine r_iinc (ls2 := [none, some (aI (x1 + 1)), some (aI x2)]) (pc := 8) hC dX10_bits_8 rfl (by decide) rfl h.1 rfl ?_
      have h := h.2
      refine r_iload_n (pc := 11) hC 2 dX10_bits_11 rfl rfl ?_
      refine r_iload_n (pc := 12) hC 2 dX10_bits_12 rfl rfl ?_
      refine r_iconst (pc := 13) hC dX10_bits_13 (rng_lit rfl) ?_
      refine r_isub (pc := 14) hC dX10_bits_14 h.1 ?_
      have h := h.2
      refine r_iand (pc := 15) hC dX10_bits_15 ?_
      refine r_istore_n (ls2 := [none, some (aI (x1 + 1)), some (aI (iAnd x2 (x2 - 1)))]) (pc := 16) hC 2 dX10_bits_16 rfl (by decide) rfl rfl ?_
      refine r_goto (tgt := 4) (pc := 17) hC dX10_bits_17 rfl ?_
      exact r_to [false, true, true] rfl rfl (ih1 (x1 + 1) (iAnd x2 (x2 - 1)) (Nat.lt_of_lt_of_le h.2 (Nat.le_of_lt_succ hn1)) h.1)
  exact r_to [false, true, true] rfl rfl (S1 _ 0 a0 (Nat.lt_succ_self _) hI1)
def wp_M_feed (m_tape : (Nat → Int)) (m_five : (Nat → Int)) (m_thrown : Int) (m_taped : Int) (a1 : Int) (a2 : Int) (a3 : Int) (a4 : Int) (a5 : Int) (Q : Int → (Nat → Int) → (Nat → Int) → Int → Int → Prop) : Prop := (rng (m_taped + 20)) ∧ (((m_taped + 20) ≤ 600 → (0 ≤ (0 : Int) ∧ (0 : Int) < 5) ∧ ((0 ≤ (1 : Int) ∧ (1 : Int) < 5) ∧ ((0 ≤ (2 : Int) ∧ (2 : Int) < 5) ∧ ((0 ≤ (3 : Int) ∧ (3 : Int) < 5) ∧ ((0 ≤ (4 : Int) ∧ (4 : Int) < 5) ∧ (lpw2 (fun (m_tape_1 : (Nat → Int)) (x2 : Int) (k1 : (Nat → Int) → Int → Prop) => (20 ≤ x2 → (rng (m_taped + 20)) ∧ (Q (m_taped + 20) m_tape_1 (uI (uI (uI (uI (uI m_five 0 a1) 1 a2) 2 a3) 3 a4) 4 a5) 0 (m_taped + 20))) ∧ (¬ 20 ≤ x2 → (rng (m_taped + x2)) ∧ (((4 : Int) ≠ 0 ∧ rng (Int.tdiv x2 4)) ∧ ((0 ≤ (Int.tdiv x2 4) ∧ (Int.tdiv x2 4) < 5) ∧ (((4 : Int) ≠ 0 ∧ rng (Int.tdiv x2 4) ∧ rng (Int.tmod x2 4)) ∧ ((rng (8 * (Int.tmod x2 4))) ∧ ((rng (24 - (8 * (Int.tmod x2 4)))) ∧ (((0 ≤ (m_taped + x2) ∧ (m_taped + x2) < 600) ∧ -128 ≤ (i2b (iShr ((uI (uI (uI (uI (uI m_five 0 a1) 1 a2) 2 a3) 3 a4) 4 a5) (Int.toNat (Int.tdiv x2 4))) (24 - (8 * (Int.tmod x2 4))))) ∧ (i2b (iShr ((uI (uI (uI (uI (uI m_five 0 a1) 1 a2) 2 a3) 3 a4) 4 a5) (Int.toNat (Int.tdiv x2 4))) (24 - (8 * (Int.tmod x2 4))))) < 128) ∧ ((rng (x2 + 1)) ∧ (k1 (uI m_tape_1 (m_taped + x2) (i2b (iShr ((uI (uI (uI (uI (uI m_five 0 a1) 1 a2) 2 a3) 3 a4) 4 a5) (Int.toNat (Int.tdiv x2 4))) (24 - (8 * (Int.tmod x2 4)))))) (x2 + 1))))))))))) m_tape 0)))))) ∧ (¬ (m_taped + 20) ≤ 600 → Q (-1) m_tape m_five 0 m_taped))
set_option maxHeartbeats 4000000 in
set_option maxRecDepth 20000 in
theorem s_M_feed (l : Launch) (w : St) (a1 : Int) (a2 : Int) (a3 : Int) (a4 : Int) (a5 : Int) (P : Int → (Nat → Int) → (Nat → Int) → Int → Int → Prop) (h : wp_M_feed (w.1 1) (w.1 2) (w.1 0 0) (w.1 0 2) a1 a2 a3 a4 a5 P) : Cn l yX10_feed cX10_feed 7 (some .int) 0 LM w [aR 0, aI a1, aI a2, aI a3, aI a4, aI a5] (okI (fun r w1 => ∃ (o0 : (Nat → Int)) (o1 : (Nat → Int)) (o2 : Int) (o3 : Int), w1 = (wI (wI (wA (wA w 1 o0) 2 o1) 0 0 o2) 0 2 o3) ∧ P r o0 o1 o2 o3)) := by
  unfold wp_M_feed at h
  refine Cn.of2 [some (aR 0), some (aI a1), some (aI a2), some (aI a3), some (aI a4), some (aI a5), none] (by decide) (Nat.le_of_ble_eq_true rfl) rfl (fun p e s m args below meth c D cA ad A Q hQ hC hr hk => ?_)
  refine r_aload_n (pc := 0) hC 0 dX10_feed_0 rfl rfl ?_
  refine r_iconst (pc := 1) hC dX10_feed_1 (rng_lit rfl) ?_
  refine r_put (kd := 0) (pc := 2) hC dX10_feed_2 pl_RX10_142 lM_0 rfl (by decide) (Or.inl rfl) ?_
  refine r_aload_n (pc := 5) hC 0 dX10_feed_5 rfl rfl ?_
  refine r_get (kd := 0) (v := (w.1 0 2)) (pc := 6) hC dX10_feed_6 fl_RX10_145 lM_0 rfl rfl ?_
  refine r_bipush (pc := 9) hC dX10_feed_9 ⟨rfl, rng_lit rfl⟩ ?_
  refine r_iadd (pc := 11) hC dX10_feed_11 h.1 ?_
  have h := h.2
  refine r_sipush (pc := 12) hC dX10_feed_12 ⟨rfl, rng_lit rfl⟩ ?_
  refine r_ic_le (pc := 15) (tgt := 20) hC dX10_feed_15 rfl (fun hc2 => ?_) (fun hc2 => ?_)
  · have h := h.1 hc2
    refine r_aload_n (pc := 20) hC 0 dX10_feed_20 rfl rfl ?_
    refine r_getr (r := 2) (pc := 21) hC dX10_feed_21 fl_RX10_13 lM_0 rfl ?_
    refine r_iconst (pc := 24) hC dX10_feed_24 (rng_lit rfl) ?_
    refine r_iload_n (pc := 25) hC 1 dX10_feed_25 rfl rfl ?_
    refine r_iast (pc := 26) hC dX10_feed_26 lM_2 h.1.1 h.1.2 ?_
    have h := h.2
    refine r_aload_n (pc := 27) hC 0 dX10_feed_27 rfl rfl ?_
    refine r_getr (r := 2) (pc := 28) hC dX10_feed_28 fl_RX10_13 lM_0 rfl ?_
    refine r_iconst (pc := 31) hC dX10_feed_31 (rng_lit rfl) ?_
    refine r_iload_n (pc := 32) hC 2 dX10_feed_32 rfl rfl ?_
    refine r_iast (pc := 33) hC dX10_feed_33 lM_2 h.1.1 h.1.2 ?_
    have h := h.2
    refine r_aload_n (pc := 34) hC 0 dX10_feed_34 rfl rfl ?_
    refine r_getr (r := 2) (pc := 35) hC dX10_feed_35 fl_RX10_13 lM_0 rfl ?_
    refine r_iconst (pc := 38) hC dX10_feed_38 (rng_lit rfl) ?_
    refine r_iload_n (pc := 39) hC 3 dX10_feed_39 rfl rfl ?_
    refine r_iast (pc := 40) hC dX10_feed_40 lM_2 h.1.1 h.1.2 ?_
    have h := h.2
    refine r_aload_n (pc := 41) hC 0 dX10_feed_41 rfl rfl ?_
    refine r_getr (r := 2) (pc := 42) hC dX10_feed_42 fl_RX10_13 lM_0 rfl ?_
    refine r_iconst (pc := 45) hC dX10_feed_45 (rng_lit rfl) ?_
    refine r_iload (pc := 46) hC dX10_feed_46 rfl ?_
    refine r_iast (pc := 48) hC dX10_feed_48 lM_2 h.1.1 h.1.2 ?_
    have h := h.2
    refine r_aload_n (pc := 49) hC 0 dX10_feed_49 rfl rfl ?_
    refine r_getr (r := 2) (pc := 50) hC dX10_feed_50 fl_RX10_13 lM_0 rfl ?_
    refine r_iconst (pc := 53) hC dX10_feed_53 (rng_lit rfl) ?_
    refine r_iload (pc := 54) hC dX10_feed_54 rfl ?_
    refine r_iast (pc := 56) hC dX10_feed_56 lM_2 h.1.1 h.1.2 ?_
    have h := h.2
    refine r_iconst (pc := 57) hC dX10_feed_57 (rng_lit rfl) ?_
    refine r_istore (ls2 := [some (aR 0), some (aI a1), some (aI a2), some (aI a3), some (aI a4), some (aI a5), some (aI 0)]) (pc := 58) hC dX10_feed_58 (by decide) rfl rfl ?_
    obtain ⟨I1, μ1, hI1, hB1⟩ := h
    have S1 : ∀ (nn : Nat) (m_tape_1 : (Nat → Int)) (x2 : Int), μ1 m_tape_1 x2 < nn → I1 m_tape_1 x2 → Wd p l e (rmD 0) s m args below meth c Q 0 0 7 D cA ad A LM (wI (wA (wA w 1 m_tape_1) 2 (uI (uI (uI (uI (uI (w.1 2) 0 a1) 1 a2) 2 a3) 3 a4) 4 a5)) 0 0 0) 60 [some (aR 0), none, none, none, none, none, some (aI x2)] [] := by
      intro nn
      induction nn with
      | zero => intro m_tape_1 x2 hn; exact absurd hn (Nat.not_lt_zero _)
      | succ nn ih1 =>
        intro m_tape_1 x2 hn1 hi
        have h := hB1 m_tape_1 x2 hi
        refine r_iload (pc := 60) hC dX10_feed_60 rfl ?_
        refine r_bipush (pc := 62) hC dX10_feed_62 ⟨rfl, rng_lit rfl⟩ ?_
        refine r_ic_ge (pc := 64) (tgt := 106) hC dX10_feed_64 rfl (fun hc1 => ?_) (fun hc1 => ?_)
        · have h := h.1 hc1
          refine r_aload_n (pc := 106) hC 0 dX10_feed_106 rfl rfl ?_
          refine r_dup (pc := 107) hC dX10_feed_107 rfl ?_
          refine r_get (kd := 0) (v := (w.1 0 2)) (pc := 108) hC dX10_feed_108 fl_RX10_145 lM_0 rfl rfl ?_
          refine r_bipush (pc := 111) hC dX10_feed_111 ⟨rfl, rng_lit rfl⟩ ?_
          refine r_iadd (pc := 113) hC dX10_feed_113 h.1 ?_
          have h := h.2
          refine r_put (kd := 0) (pc := 114) hC dX10_feed_114 pl_RX10_145 lM_0 rfl (by decide) (Or.inl rfl) ?_
          refine r_aload_n (pc := 117) hC 0 dX10_feed_117 rfl rfl ?_
          refine r_get (kd := 0) (v := ((w.1 0 2) + 20)) (pc := 118) hC dX10_feed_118 fl_RX10_145 lM_0 rfl rfl ?_
          refine r_conv (w2 := (wI (wI (wA (wA w 1 m_tape_1) 2 (uI (uI (uI (uI (uI (w.1 2) 0 a1) 1 a2) 2 a3) 3 a4) 4 a5)) 0 0 0) 0 2 ((w.1 0 2) + 20))) rfl ?_
          exact r_reti (pc := 121) (kd := 0) hC hQ dX10_feed_121 hr hk (by decide) (Or.inl rfl) ⟨m_tape_1, (uI (uI (uI (uI (uI (w.1 2) 0 a1) 1 a2) 2 a3) 3 a4) 4 a5), 0, ((w.1 0 2) + 20), rfl, h⟩
        have h := h.2 hc1
        refine r_aload_n (pc := 67) hC 0 dX10_feed_67 rfl rfl ?_
        refine r_getr (r := 1) (pc := 68) hC dX10_feed_68 fl_RX10_9 lM_0 rfl ?_
        refine r_aload_n (pc := 71) hC 0 dX10_feed_71 rfl rfl ?_
        refine r_get (kd := 0) (v := (w.1 0 2)) (pc := 72) hC dX10_feed_72 fl_RX10_145 lM_0 rfl rfl ?_
        refine r_iload (pc := 75) hC dX10_feed_75 rfl ?_
        refine r_iadd (pc := 77) hC dX10_feed_77 h.1 ?_
        have h := h.2
        refine r_aload_n (pc := 78) hC 0 dX10_feed_78 rfl rfl ?_
        refine r_getr (r := 2) (pc := 79) hC dX10_feed_79 fl_RX10_13 lM_0 rfl ?_
        refine r_iload (pc := 82) hC dX10_feed_82 rfl ?_
        refine r_iconst (pc := 84) hC dX10_feed_84 (rng_lit rfl) ?_
        refine r_idiv (pc := 85) hC dX10_feed_85 h.1.1 h.1.2 ?_
        have h := h.2
        refine r_iald (v := ((uI (uI (uI (uI (uI (w.1 2) 0 a1) 1 a2) 2 a3) 3 a4) 4 a5) (Int.toNat (Int.tdiv x2 4)))) (pc := 86) hC dX10_feed_86 lM_2 h.1.1 h.1.2 rfl ?_
        have h := h.2
        refine r_bipush (pc := 87) hC dX10_feed_87 ⟨rfl, rng_lit rfl⟩ ?_
        refine r_bipush (pc := 89) hC dX10_feed_89 ⟨rfl, rng_lit rfl⟩ ?_
        refine r_iload (pc := 91) hC dX10_feed_91 rfl ?_
        refine r_iconst (pc := 93) hC dX10_feed_93 (rng_lit rfl) ?_
        refine r_irem (pc := 94) hC dX10_feed_94 h.1.1 h.1.2.1 h.1.2.2 ?_
        have h := h.2
        refine r_imul (pc := 95) hC dX10_feed_95 h.1 ?_
        have h := h.2
        refine r_isub (pc := 96) hC dX10_feed_96 h.1 ?_
        have h := h.2
        refine r_ishr (pc := 97) hC dX10_feed_97 ?_
        refine r_i2b (pc := 98) hC dX10_feed_98 ?_
        refine r_bast (pc := 99) hC dX10_feed_99 lM_1 h.1.1.1 h.1.1.2 h.1.2 ?_
        have h := h.2
        refine r_iinc (ls2 := [some (aR 0), none, none, none, none, none, some (aI (x2 + 1))]) (pc := 100) hC dX10_feed_100 rfl (by decide) rfl h.1 rfl ?_
        have h := h.2
        refine r_goto (tgt := 60) (pc := 103) hC dX10_feed_103 rfl ?_
        exact r_to [true, false, false, false, false, false, true] rfl rfl (ih1 (uI m_tape_1 ((w.1 0 2) + x2) (i2b (iShr ((uI (uI (uI (uI (uI (w.1 2) 0 a1) 1 a2) 2 a3) 3 a4) 4 a5) (Int.toNat (Int.tdiv x2 4))) (24 - (8 * (Int.tmod x2 4)))))) (x2 + 1) (Nat.lt_of_lt_of_le h.2 (Nat.le_of_lt_succ hn1)) h.1)
    exact r_to [true, false, false, false, false, false, true] rfl rfl (S1 _ (w.1 1) 0 (Nat.lt_succ_self _) hI1)
  have h := h.2 hc2
  refine r_iconst (pc := 18) hC dX10_feed_18 (rng_lit rfl) ?_
  refine r_conv (w2 := (wI (wI (wA (wA w 1 (w.1 1)) 2 (w.1 2)) 0 0 0) 0 2 (w.1 0 2))) rfl ?_
  exact r_reti (pc := 19) (kd := 0) hC hQ dX10_feed_19 hr hk (by decide) (Or.inl rfl) ⟨(w.1 1), (w.1 2), 0, (w.1 0 2), rfl, h⟩
def wp_M_end (m_thrown : Int) (m_taped : Int) (a1 : Int) (Q : Int → Int → Int → Prop) : Prop := (a1 < 0 → Q 0 0 m_taped) ∧ (¬ a1 < 0 → (a1 ≤ m_taped → Q 1 0 a1) ∧ (¬ a1 ≤ m_taped → Q 0 0 m_taped))
set_option maxHeartbeats 4000000 in
set_option maxRecDepth 20000 in
theorem s_M_end (l : Launch) (w : St) (a1 : Int) (P : Int → Int → Int → Prop) (h : wp_M_end (w.1 0 0) (w.1 0 2) a1 P) : Cn l yX10_end cX10_end 2 (some .boolean) 0 LM w [aR 0, aI a1] (okI (fun r w1 => ∃ (o0 : Int) (o1 : Int), w1 = (wI (wI w 0 0 o0) 0 2 o1) ∧ P r o0 o1)) := by
  unfold wp_M_end at h
  refine Cn.of2 [some (aR 0), some (aI a1)] (by decide) (Nat.le_of_ble_eq_true rfl) rfl (fun p e s m args below meth c D cA ad A Q hQ hC hr hk => ?_)
  refine r_aload_n (pc := 0) hC 0 dX10_end_0 rfl rfl ?_
  refine r_iconst (pc := 1) hC dX10_end_1 (rng_lit rfl) ?_
  refine r_put (kd := 0) (pc := 2) hC dX10_end_2 pl_RX10_142 lM_0 rfl (by decide) (Or.inl rfl) ?_
  refine r_iload_n (pc := 5) hC 1 dX10_end_5 rfl rfl ?_
  refine r_if_lt (pc := 6) (tgt := 17) hC dX10_end_6 rfl (fun hc2 => ?_) (fun hc2 => ?_)
  · have h := h.1 hc2
    refine r_iconst (pc := 17) hC dX10_end_17 (rng_lit rfl) ?_
    refine r_conv (w2 := (wI (wI w 0 0 0) 0 2 (w.1 0 2))) rfl ?_
    exact r_reti (pc := 18) (kd := 1) hC hQ dX10_end_18 hr hk (by decide) (Or.inr okK1_0) ⟨0, (w.1 0 2), rfl, h⟩
  have h := h.2 hc2
  refine r_iload_n (pc := 9) hC 1 dX10_end_9 rfl rfl ?_
  refine r_aload_n (pc := 10) hC 0 dX10_end_10 rfl rfl ?_
  refine r_get (kd := 0) (v := (w.1 0 2)) (pc := 11) hC dX10_end_11 fl_RX10_145 lM_0 rfl rfl ?_
  refine r_ic_le (pc := 14) (tgt := 19) hC dX10_end_14 rfl (fun hc1 => ?_) (fun hc1 => ?_)
  · have h := h.1 hc1
    refine r_aload_n (pc := 19) hC 0 dX10_end_19 rfl rfl ?_
    refine r_iload_n (pc := 20) hC 1 dX10_end_20 rfl rfl ?_
    refine r_put (kd := 0) (pc := 21) hC dX10_end_21 pl_RX10_145 lM_0 rfl (by decide) (Or.inl rfl) ?_
    refine r_iconst (pc := 24) hC dX10_end_24 (rng_lit rfl) ?_
    refine r_conv (w2 := (wI (wI w 0 0 0) 0 2 a1)) rfl ?_
    exact r_reti (pc := 25) (kd := 1) hC hQ dX10_end_25 hr hk (by decide) (Or.inr okK1_1) ⟨0, a1, rfl, h⟩
  have h := h.2 hc1
  refine r_iconst (pc := 17) hC dX10_end_17 (rng_lit rfl) ?_
  refine r_conv (w2 := (wI (wI w 0 0 0) 0 2 (w.1 0 2))) rfl ?_
  exact r_reti (pc := 18) (kd := 1) hC hQ dX10_end_18 hr hk (by decide) (Or.inr okK1_0) ⟨0, (w.1 0 2), rfl, h⟩
def wp_M_isPair (m_page : (Nat → Int)) (m_pageMany : Int) (a1 : Int) (Q : Int → Prop) : Prop := (rng (a1 + 1)) ∧ ((m_pageMany ≤ (a1 + 1) → Q 0) ∧ (¬ m_pageMany ≤ (a1 + 1) → (0 ≤ a1 ∧ a1 < 600) ∧ (((m_page (Int.toNat a1)) < 192 → Q 0) ∧ (¬ (m_page (Int.toNat a1)) < 192 → (rng (a1 + 1)) ∧ ((0 ≤ (a1 + 1) ∧ (a1 + 1) < 600) ∧ (wp_M_in (m_page (Int.toNat (a1 + 1))) 128 191 (fun (r1 : Int) => (r1 = 0 → Q 0) ∧ (¬ r1 = 0 → Q 1))))))))
set_option maxHeartbeats 4000000 in
set_option maxRecDepth 20000 in
theorem s_M_isPair (l : Launch) (w : St) (a1 : Int) (P : Int → Prop) (h : wp_M_isPair (w.1 3) (w.1 0 6) a1 P) : Cn l yX10_isPair cX10_isPair 2 (some .boolean) 1 LM w [aR 0, aI a1] (okI (fun r w1 => w1 = w ∧ P r)) := by
  unfold wp_M_isPair at h
  refine Cn.of2 [some (aR 0), some (aI a1)] (by decide) (Nat.le_of_ble_eq_true rfl) rfl (fun p e s m args below meth c D cA ad A Q hQ hC hr hk => ?_)
  refine r_iload_n (pc := 0) hC 1 dX10_isPair_0 rfl rfl ?_
  refine r_iconst (pc := 1) hC dX10_isPair_1 (rng_lit rfl) ?_
  refine r_iadd (pc := 2) hC dX10_isPair_2 h.1 ?_
  have h := h.2
  refine r_aload_n (pc := 3) hC 0 dX10_isPair_3 rfl rfl ?_
  refine r_get (kd := 0) (v := (w.1 0 6)) (pc := 4) hC dX10_isPair_4 fl_RX10_148 lM_0 rfl rfl ?_
  refine r_ic_ge (pc := 7) (tgt := 46) hC dX10_isPair_7 rfl (fun hc3 => ?_) (fun hc3 => ?_)
  · have h := h.1 hc3
    refine r_iconst (pc := 46) hC dX10_isPair_46 (rng_lit rfl) ?_
    exact r_reti (pc := 47) (kd := 1) hC hQ dX10_isPair_47 hr hk (by decide) (Or.inr okK1_0) ⟨rfl, h⟩
  have h := h.2 hc3
  refine r_aload_n (pc := 10) hC 0 dX10_isPair_10 rfl rfl ?_
  refine r_getr (r := 3) (pc := 11) hC dX10_isPair_11 fl_RX10_17 lM_0 rfl ?_
  refine r_iload_n (pc := 14) hC 1 dX10_isPair_14 rfl rfl ?_
  refine r_iald (v := ((w.1 3) (Int.toNat a1))) (pc := 15) hC dX10_isPair_15 lM_3 h.1.1 h.1.2 rfl ?_
  have h := h.2
  refine r_sipush (pc := 16) hC dX10_isPair_16 ⟨rfl, rng_lit rfl⟩ ?_
  refine r_ic_lt (pc := 19) (tgt := 46) hC dX10_isPair_19 rfl (fun hc2 => ?_) (fun hc2 => ?_)
  · have h := h.1 hc2
    refine r_iconst (pc := 46) hC dX10_isPair_46 (rng_lit rfl) ?_
    exact r_reti (pc := 47) (kd := 1) hC hQ dX10_isPair_47 hr hk (by decide) (Or.inr okK1_0) ⟨rfl, h⟩
  have h := h.2 hc2
  refine r_aload_n (pc := 22) hC 0 dX10_isPair_22 rfl rfl ?_
  refine r_getr (r := 3) (pc := 23) hC dX10_isPair_23 fl_RX10_17 lM_0 rfl ?_
  refine r_iload_n (pc := 26) hC 1 dX10_isPair_26 rfl rfl ?_
  refine r_iconst (pc := 27) hC dX10_isPair_27 (rng_lit rfl) ?_
  refine r_iadd (pc := 28) hC dX10_isPair_28 h.1 ?_
  have h := h.2
  refine r_iald (v := ((w.1 3) (Int.toNat (a1 + 1)))) (pc := 29) hC dX10_isPair_29 lM_3 h.1.1 h.1.2 rfl ?_
  have h := h.2
  refine r_sipush (pc := 30) hC dX10_isPair_30 ⟨rfl, rng_lit rfl⟩ ?_
  refine r_sipush (pc := 33) hC dX10_isPair_33 ⟨rfl, rng_lit rfl⟩ ?_
  refine r_callSi (pc := 36) hC [aI ((w.1 3) (Int.toNat (a1 + 1))), aI 128, aI 191] [] dX10_isPair_36 ml_RX10_151 my_X10_in ms_X10_in rfl ⟨Nat.le_of_ble_eq_true rfl, Nat.le_of_ble_eq_true rfl⟩ ⟨Nat.le_of_ble_eq_true rfl, Nat.le_of_ble_eq_true rfl⟩ (Nat.le_of_ble_eq_true rfl) rfl (s_M_in l _ _ _ _ _ h) (fun r1 w1 hq => ?_)
  obtain ⟨e9, h⟩ := hq
  rw [e9]
  refine r_if_eq (pc := 39) (tgt := 46) hC dX10_isPair_39 rfl (fun hc1 => ?_) (fun hc1 => ?_)
  · have h := h.1 hc1
    refine r_iconst (pc := 46) hC dX10_isPair_46 (rng_lit rfl) ?_
    exact r_reti (pc := 47) (kd := 1) hC hQ dX10_isPair_47 hr hk (by decide) (Or.inr okK1_0) ⟨rfl, h⟩
  have h := h.2 hc1
  refine r_iconst (pc := 42) hC dX10_isPair_42 (rng_lit rfl) ?_
  refine r_goto (tgt := 47) (pc := 43) hC dX10_isPair_43 rfl ?_
  exact r_reti (pc := 47) (kd := 1) hC hQ dX10_isPair_47 hr hk (by decide) (Or.inr okK1_1) ⟨rfl, h⟩
def wp_M_laysSigns (m_page : (Nat → Int)) (m_signAt : (Nat → Int)) (m_pageMany : Int) (m_signs : Int) (Q : (Nat → Int) → Int → Prop) : Prop := lpw3 (fun (m_signAt_1 : (Nat → Int)) (m_signs_2 : Int) (x3 : Int) (k1 : (Nat → Int) → Int → Int → Prop) => (m_pageMany ≤ x3 → (0 ≤ m_signs_2 ∧ m_signs_2 < 601) ∧ (Q (uI m_signAt_1 m_signs_2 m_pageMany) m_signs_2)) ∧ (¬ m_pageMany ≤ x3 → (0 ≤ m_signs_2 ∧ m_signs_2 < 601) ∧ ((rng (m_signs_2 + 1)) ∧ (wp_M_isPair m_page m_pageMany x3 (fun (r4 : Int) => jn1 (fun (J2 : Int → Prop) => (r4 = 0 → J2 1) ∧ (¬ r4 = 0 → J2 2)) (fun (y5 : Int) => (rng (x3 + y5)) ∧ (k1 (uI m_signAt_1 m_signs_2 x3) (m_signs_2 + 1) (x3 + y5)))))))) m_signAt 0 0
set_option maxHeartbeats 4000000 in
set_option maxRecDepth 20000 in
theorem s_M_laysSigns (l : Launch) (w : St) (P : (Nat → Int) → Int → Prop) (h : wp_M_laysSigns (w.1 3) (w.1 4) (w.1 0 6) (w.1 0 7) P) : Cn l yX10_laysSigns cX10_laysSigns 2 none 2 LM w [aR 0] (okV (fun w1 => ∃ (o0 : (Nat → Int)) (o1 : Int), w1 = (wI (wA w 4 o0) 0 7 o1) ∧ P o0 o1)) := by
  unfold wp_M_laysSigns at h
  refine Cn.of2 [some (aR 0), none] (by decide) (Nat.le_of_ble_eq_true rfl) rfl (fun p e s m args below meth c D cA ad A Q hQ hC hr hk => ?_)
  refine r_aload_n (pc := 0) hC 0 dX10_laysSigns_0 rfl rfl ?_
  refine r_iconst (pc := 1) hC dX10_laysSigns_1 (rng_lit rfl) ?_
  refine r_put (kd := 0) (pc := 2) hC dX10_laysSigns_2 pl_RX10_155 lM_0 rfl (by decide) (Or.inl rfl) ?_
  refine r_iconst (pc := 5) hC dX10_laysSigns_5 (rng_lit rfl) ?_
  refine r_istore_n (ls2 := [some (aR 0), some (aI 0)]) (pc := 6) hC 1 dX10_laysSigns_6 rfl (by decide) rfl rfl ?_
  obtain ⟨I1, μ1, hI1, hB1⟩ := h
  have S1 : ∀ (nn : Nat) (m_signAt_1 : (Nat → Int)) (m_signs_2 : Int) (x3 : Int), μ1 m_signAt_1 m_signs_2 x3 < nn → I1 m_signAt_1 m_signs_2 x3 → Wd p l e (rmD 2) s m args below meth c Q 0 0 2 D cA ad A LM (wI (wA w 4 m_signAt_1) 0 7 m_signs_2) 7 [some (aR 0), some (aI x3)] [] := by
    intro nn
    induction nn with
    | zero => intro m_signAt_1 m_signs_2 x3 hn; exact absurd hn (Nat.not_lt_zero _)
    | succ nn ih1 =>
      intro m_signAt_1 m_signs_2 x3 hn1 hi
      have h := hB1 m_signAt_1 m_signs_2 x3 hi
      refine r_iload_n (pc := 7) hC 1 dX10_laysSigns_7 rfl rfl ?_
      refine r_aload_n (pc := 8) hC 0 dX10_laysSigns_8 rfl rfl ?_
      refine r_get (kd := 0) (v := (w.1 0 6)) (pc := 9) hC dX10_laysSigns_9 fl_RX10_148 lM_0 rfl rfl ?_
      refine r_ic_ge (pc := 12) (tgt := 54) hC dX10_laysSigns_12 rfl (fun hc2 => ?_) (fun hc2 => ?_)
      · have h := h.1 hc2
        refine r_aload_n (pc := 54) hC 0 dX10_laysSigns_54 rfl rfl ?_
        refine r_getr (r := 4) (pc := 55) hC dX10_laysSigns_55 fl_RX10_20 lM_0 rfl ?_
        refine r_aload_n (pc := 58) hC 0 dX10_laysSigns_58 rfl rfl ?_
        refine r_get (kd := 0) (v := m_signs_2) (pc := 59) hC dX10_laysSigns_59 fl_RX10_155 lM_0 rfl rfl ?_
        refine r_aload_n (pc := 62) hC 0 dX10_laysSigns_62 rfl rfl ?_
        refine r_get (kd := 0) (v := (w.1 0 6)) (pc := 63) hC dX10_laysSigns_63 fl_RX10_148 lM_0 rfl rfl ?_
        refine r_iast (pc := 66) hC dX10_laysSigns_66 lM_4 h.1.1 h.1.2 ?_
        have h := h.2
        refine r_conv (w2 := (wI (wA w 4 (uI m_signAt_1 m_signs_2 (w.1 0 6))) 0 7 m_signs_2)) rfl ?_
        exact r_retv (pc := 67) hC hQ dX10_laysSigns_67 hr hk ⟨(uI m_signAt_1 m_signs_2 (w.1 0 6)), m_signs_2, rfl, h⟩
      have h := h.2 hc2
      refine r_aload_n (pc := 15) hC 0 dX10_laysSigns_15 rfl rfl ?_
      refine r_getr (r := 4) (pc := 16) hC dX10_laysSigns_16 fl_RX10_20 lM_0 rfl ?_
      refine r_aload_n (pc := 19) hC 0 dX10_laysSigns_19 rfl rfl ?_
      refine r_get (kd := 0) (v := m_signs_2) (pc := 20) hC dX10_laysSigns_20 fl_RX10_155 lM_0 rfl rfl ?_
      refine r_iload_n (pc := 23) hC 1 dX10_laysSigns_23 rfl rfl ?_
      refine r_iast (pc := 24) hC dX10_laysSigns_24 lM_4 h.1.1 h.1.2 ?_
      have h := h.2
      refine r_aload_n (pc := 25) hC 0 dX10_laysSigns_25 rfl rfl ?_
      refine r_dup (pc := 26) hC dX10_laysSigns_26 rfl ?_
      refine r_get (kd := 0) (v := m_signs_2) (pc := 27) hC dX10_laysSigns_27 fl_RX10_155 lM_0 rfl rfl ?_
      refine r_iconst (pc := 30) hC dX10_laysSigns_30 (rng_lit rfl) ?_
      refine r_iadd (pc := 31) hC dX10_laysSigns_31 h.1 ?_
      have h := h.2
      refine r_put (kd := 0) (pc := 32) hC dX10_laysSigns_32 pl_RX10_155 lM_0 rfl (by decide) (Or.inl rfl) ?_
      refine r_iload_n (pc := 35) hC 1 dX10_laysSigns_35 rfl rfl ?_
      refine r_aload_n (pc := 36) hC 0 dX10_laysSigns_36 rfl rfl ?_
      refine r_iload_n (pc := 37) hC 1 dX10_laysSigns_37 rfl rfl ?_
      refine r_callVi (pc := 38) hC [aI x3] [aI x3] dX10_laysSigns_38 ml_RX10_158 my_X10_isPair mi_X10_isPair lM_0 rfl rfl ⟨Nat.le_of_ble_eq_true rfl, Nat.le_of_ble_eq_true rfl⟩ ⟨Nat.le_of_ble_eq_true rfl, Nat.le_of_ble_eq_true rfl⟩ (Nat.le_of_ble_eq_true rfl) rfl (s_M_isPair l _ _ _ h) (fun r4 w1 hq => ?_)
      obtain ⟨e9, h⟩ := hq
      rw [e9]
      obtain ⟨J2, hJ2, h⟩ := h
      have S2 : ∀ (y5 : Int), J2 y5 → Wd p l e (rmD 2) s m args below meth c Q 0 0 2 D cA ad A LM (wI (wA w 4 (uI m_signAt_1 m_signs_2 x3)) 0 7 (m_signs_2 + 1)) 49 [some (aR 0), none] [aI y5, aI x3] := by
        intro y5 hj
        have h := hJ2 y5 hj
        refine r_iadd (pc := 49) hC dX10_laysSigns_49 h.1 ?_
        have h := h.2
        refine r_istore_n (ls2 := [some (aR 0), some (aI (x3 + y5))]) (pc := 50) hC 1 dX10_laysSigns_50 rfl (by decide) rfl rfl ?_
        refine r_goto (tgt := 7) (pc := 51) hC dX10_laysSigns_51 rfl ?_
        exact r_to [true, true] rfl rfl (ih1 (uI m_signAt_1 m_signs_2 x3) (m_signs_2 + 1) (x3 + y5) (Nat.lt_of_lt_of_le h.2 (Nat.le_of_lt_succ hn1)) h.1)
      refine r_if_eq (pc := 41) (tgt := 48) hC dX10_laysSigns_41 rfl (fun hc1 => ?_) (fun hc1 => ?_)
      · have h := h.1 hc1
        refine r_iconst (pc := 48) hC dX10_laysSigns_48 (rng_lit rfl) ?_
        exact r_to [true, false] rfl rfl (S2 1 h)
      have h := h.2 hc1
      refine r_iconst (pc := 44) hC dX10_laysSigns_44 (rng_lit rfl) ?_
      refine r_goto (tgt := 49) (pc := 45) hC dX10_laysSigns_45 rfl ?_
      exact r_to [true, false] rfl rfl (S2 2 h)
  exact r_to [true, true] rfl rfl (S1 _ (w.1 4) 0 0 (Nat.lt_succ_self _) hI1)
def wp_M_signBytes (m_signAt : (Nat → Int)) (a1 : Int) (Q : Int → Prop) : Prop := (rng (a1 + 1)) ∧ ((0 ≤ (a1 + 1) ∧ (a1 + 1) < 601) ∧ ((0 ≤ a1 ∧ a1 < 601) ∧ ((rng ((m_signAt (Int.toNat (a1 + 1))) - (m_signAt (Int.toNat a1)))) ∧ (Q ((m_signAt (Int.toNat (a1 + 1))) - (m_signAt (Int.toNat a1)))))))
set_option maxHeartbeats 4000000 in
set_option maxRecDepth 20000 in
theorem s_M_signBytes (l : Launch) (w : St) (a1 : Int) (P : Int → Prop) (h : wp_M_signBytes (w.1 4) a1 P) : Cn l yX10_signBytes cX10_signBytes 2 (some .int) 0 LM w [aR 0, aI a1] (okI (fun r w1 => w1 = w ∧ P r)) := by
  unfold wp_M_signBytes at h
  refine Cn.of2 [some (aR 0), some (aI a1)] (by decide) (Nat.le_of_ble_eq_true rfl) rfl (fun p e s m args below meth c D cA ad A Q hQ hC hr hk => ?_)
  refine r_aload_n (pc := 0) hC 0 dX10_signBytes_0 rfl rfl ?_
  refine r_getr (r := 4) (pc := 1) hC dX10_signBytes_1 fl_RX10_20 lM_0 rfl ?_
  refine r_iload_n (pc := 4) hC 1 dX10_signBytes_4 rfl rfl ?_
  refine r_iconst (pc := 5) hC dX10_signBytes_5 (rng_lit rfl) ?_
  refine r_iadd (pc := 6) hC dX10_signBytes_6 h.1 ?_
  have h := h.2
  refine r_iald (v := ((w.1 4) (Int.toNat (a1 + 1)))) (pc := 7) hC dX10_signBytes_7 lM_4 h.1.1 h.1.2 rfl ?_
  have h := h.2
  refine r_aload_n (pc := 8) hC 0 dX10_signBytes_8 rfl rfl ?_
  refine r_getr (r := 4) (pc := 9) hC dX10_signBytes_9 fl_RX10_20 lM_0 rfl ?_
  refine r_iload_n (pc := 12) hC 1 dX10_signBytes_12 rfl rfl ?_
  refine r_iald (v := ((w.1 4) (Int.toNat a1))) (pc := 13) hC dX10_signBytes_13 lM_4 h.1.1 h.1.2 rfl ?_
  have h := h.2
  refine r_isub (pc := 14) hC dX10_signBytes_14 h.1 ?_
  have h := h.2
  exact r_reti (pc := 15) (kd := 0) hC hQ dX10_signBytes_15 hr hk (by decide) (Or.inl rfl) ⟨rfl, h⟩
def wp_M_plain (m_page : (Nat → Int)) (m_signAt : (Nat → Int)) (m_signs : Int) (a1 : Int) (Q : Int → Prop) : Prop := (rng (m_signs - 1)) ∧ (wp_M_in a1 0 (m_signs - 1) (fun (r1 : Int) => (r1 = 0 → Q (-1)) ∧ (¬ r1 = 0 → wp_M_signBytes m_signAt a1 (fun (r2 : Int) => (¬ r2 = 1 → Q (-1)) ∧ (r2 = 1 → (0 ≤ a1 ∧ a1 < 601) ∧ ((0 ≤ (m_signAt (Int.toNat a1)) ∧ (m_signAt (Int.toNat a1)) < 600) ∧ (Q (m_page (Int.toNat (m_signAt (Int.toNat a1)))))))))))
set_option maxHeartbeats 4000000 in
set_option maxRecDepth 20000 in
theorem s_M_plain (l : Launch) (w : St) (a1 : Int) (P : Int → Prop) (h : wp_M_plain (w.1 3) (w.1 4) (w.1 0 7) a1 P) : Cn l yX10_plain cX10_plain 2 (some .int) 1 LM w [aR 0, aI a1] (okI (fun r w1 => w1 = w ∧ P r)) := by
  unfold wp_M_plain at h
  refine Cn.of2 [some (aR 0), some (aI a1)] (by decide) (Nat.le_of_ble_eq_true rfl) rfl (fun p e s m args below meth c D cA ad A Q hQ hC hr hk => ?_)
  refine r_iload_n (pc := 0) hC 1 dX10_plain_0 rfl rfl ?_
  refine r_iconst (pc := 1) hC dX10_plain_1 (rng_lit rfl) ?_
  refine r_aload_n (pc := 2) hC 0 dX10_plain_2 rfl rfl ?_
  refine r_get (kd := 0) (v := (w.1 0 7)) (pc := 3) hC dX10_plain_3 fl_RX10_155 lM_0 rfl rfl ?_
  refine r_iconst (pc := 6) hC dX10_plain_6 (rng_lit rfl) ?_
  refine r_isub (pc := 7) hC dX10_plain_7 h.1 ?_
  have h := h.2
  refine r_callSi (pc := 8) hC [aI a1, aI 0, aI ((w.1 0 7) - 1)] [] dX10_plain_8 ml_RX10_151 my_X10_in ms_X10_in rfl ⟨Nat.le_of_ble_eq_true rfl, Nat.le_of_ble_eq_true rfl⟩ ⟨Nat.le_of_ble_eq_true rfl, Nat.le_of_ble_eq_true rfl⟩ (Nat.le_of_ble_eq_true rfl) rfl (s_M_in l _ _ _ _ _ h) (fun r1 w1 hq => ?_)
  obtain ⟨e9, h⟩ := hq
  rw [e9]
  refine r_if_eq (pc := 11) (tgt := 37) hC dX10_plain_11 rfl (fun hc2 => ?_) (fun hc2 => ?_)
  · have h := h.1 hc2
    refine r_iconst (pc := 37) hC dX10_plain_37 (rng_lit rfl) ?_
    exact r_reti (pc := 38) (kd := 0) hC hQ dX10_plain_38 hr hk (by decide) (Or.inl rfl) ⟨rfl, h⟩
  have h := h.2 hc2
  refine r_aload_n (pc := 14) hC 0 dX10_plain_14 rfl rfl ?_
  refine r_iload_n (pc := 15) hC 1 dX10_plain_15 rfl rfl ?_
  refine r_callVi (pc := 16) hC [aI a1] [] dX10_plain_16 ml_RX10_162 my_X10_signBytes mi_X10_signBytes lM_0 rfl rfl ⟨Nat.le_of_ble_eq_true rfl, Nat.le_of_ble_eq_true rfl⟩ ⟨Nat.le_of_ble_eq_true rfl, Nat.le_of_ble_eq_true rfl⟩ (Nat.le_of_ble_eq_true rfl) rfl (s_M_signBytes l _ _ _ h) (fun r2 w1 hq => ?_)
  obtain ⟨e9, h⟩ := hq
  rw [e9]
  refine r_iconst (pc := 19) hC dX10_plain_19 (rng_lit rfl) ?_
  refine r_ic_ne (pc := 20) (tgt := 37) hC dX10_plain_20 rfl (fun hc1 => ?_) (fun hc1 => ?_)
  · have h := h.1 hc1
    refine r_iconst (pc := 37) hC dX10_plain_37 (rng_lit rfl) ?_
    exact r_reti (pc := 38) (kd := 0) hC hQ dX10_plain_38 hr hk (by decide) (Or.inl rfl) ⟨rfl, h⟩
  have h := h.2 hc1
  refine r_aload_n (pc := 23) hC 0 dX10_plain_23 rfl rfl ?_
  refine r_getr (r := 3) (pc := 24) hC dX10_plain_24 fl_RX10_17 lM_0 rfl ?_
  refine r_aload_n (pc := 27) hC 0 dX10_plain_27 rfl rfl ?_
  refine r_getr (r := 4) (pc := 28) hC dX10_plain_28 fl_RX10_20 lM_0 rfl ?_
  refine r_iload_n (pc := 31) hC 1 dX10_plain_31 rfl rfl ?_
  refine r_iald (v := ((w.1 4) (Int.toNat a1))) (pc := 32) hC dX10_plain_32 lM_4 h.1.1 h.1.2 rfl ?_
  have h := h.2
  refine r_iald (v := ((w.1 3) (Int.toNat ((w.1 4) (Int.toNat a1))))) (pc := 33) hC dX10_plain_33 lM_3 h.1.1 h.1.2 rfl ?_
  have h := h.2
  refine r_goto (tgt := 38) (pc := 34) hC dX10_plain_34 rfl ?_
  exact r_reti (pc := 38) (kd := 0) hC hQ dX10_plain_38 hr hk (by decide) (Or.inl rfl) ⟨rfl, h⟩
def wp_M_isBlank (m_page : (Nat → Int)) (m_signAt : (Nat → Int)) (m_signs : Int) (a1 : Int) (Q : Int → Prop) : Prop := wp_M_plain m_page m_signAt m_signs a1 (fun (r1 : Int) => jn0 (fun (J1 : Prop) => (r1 = 9 → J1) ∧ (¬ r1 = 9 → (r1 = 10 → J1) ∧ (¬ r1 = 10 → (¬ r1 = 32 → Q 0) ∧ (r1 = 32 → J1)))) (Q 1))
set_option maxHeartbeats 4000000 in
set_option maxRecDepth 20000 in
theorem s_M_isBlank (l : Launch) (w : St) (a1 : Int) (P : Int → Prop) (h : wp_M_isBlank (w.1 3) (w.1 4) (w.1 0 7) a1 P) : Cn l yX10_isBlank cX10_isBlank 3 (some .boolean) 2 LM w [aR 0, aI a1] (okI (fun r w1 => w1 = w ∧ P r)) := by
  unfold wp_M_isBlank at h
  refine Cn.of2 [some (aR 0), some (aI a1), none] (by decide) (Nat.le_of_ble_eq_true rfl) rfl (fun p e s m args below meth c D cA ad A Q hQ hC hr hk => ?_)
  refine r_aload_n (pc := 0) hC 0 dX10_isBlank_0 rfl rfl ?_
  refine r_iload_n (pc := 1) hC 1 dX10_isBlank_1 rfl rfl ?_
  refine r_callVi (pc := 2) hC [aI a1] [] dX10_isBlank_2 ml_RX10_166 my_X10_plain mi_X10_plain lM_0 rfl rfl ⟨Nat.le_of_ble_eq_true rfl, Nat.le_of_ble_eq_true rfl⟩ ⟨Nat.le_of_ble_eq_true rfl, Nat.le_of_ble_eq_true rfl⟩ (Nat.le_of_ble_eq_true rfl) rfl (s_M_plain l _ _ _ h) (fun r1 w1 hq => ?_)
  obtain ⟨e9, h⟩ := hq
  rw [e9]
  refine r_istore_n (ls2 := [some (aR 0), some (aI a1), some (aI r1)]) (pc := 5) hC 2 dX10_isBlank_5 rfl (by decide) rfl rfl ?_
  refine r_iload_n (pc := 6) hC 2 dX10_isBlank_6 rfl rfl ?_
  refine r_bipush (pc := 7) hC dX10_isBlank_7 ⟨rfl, rng_lit rfl⟩ ?_
  obtain ⟨J1, hJ1, h⟩ := h
  have S1 : J1 → Wd p l e (rmD 2) s m args below meth c Q 0 0 3 D cA ad A LM w 24 [none, none, none] [] := by
    intro hj
    have h := hJ1 hj
    refine r_iconst (pc := 24) hC dX10_isBlank_24 (rng_lit rfl) ?_
    refine r_goto (tgt := 29) (pc := 25) hC dX10_isBlank_25 rfl ?_
    exact r_reti (pc := 29) (kd := 1) hC hQ dX10_isBlank_29 hr hk (by decide) (Or.inr okK1_1) ⟨rfl, h⟩
  refine r_ic_eq (pc := 9) (tgt := 24) hC dX10_isBlank_9 rfl (fun hc3 => ?_) (fun hc3 => ?_)
  · have h := h.1 hc3
    exact r_to [false, false, false] rfl rfl (S1 h)
  have h := h.2 hc3
  refine r_iload_n (pc := 12) hC 2 dX10_isBlank_12 rfl rfl ?_
  refine r_bipush (pc := 13) hC dX10_isBlank_13 ⟨rfl, rng_lit rfl⟩ ?_
  refine r_ic_eq (pc := 15) (tgt := 24) hC dX10_isBlank_15 rfl (fun hc2 => ?_) (fun hc2 => ?_)
  · have h := h.1 hc2
    exact r_to [false, false, false] rfl rfl (S1 h)
  have h := h.2 hc2
  refine r_iload_n (pc := 18) hC 2 dX10_isBlank_18 rfl rfl ?_
  refine r_bipush (pc := 19) hC dX10_isBlank_19 ⟨rfl, rng_lit rfl⟩ ?_
  refine r_ic_ne (pc := 21) (tgt := 28) hC dX10_isBlank_21 rfl (fun hc1 => ?_) (fun hc1 => ?_)
  · have h := h.1 hc1
    refine r_iconst (pc := 28) hC dX10_isBlank_28 (rng_lit rfl) ?_
    exact r_reti (pc := 29) (kd := 1) hC hQ dX10_isBlank_29 hr hk (by decide) (Or.inr okK1_0) ⟨rfl, h⟩
  have h := h.2 hc1
  exact r_to [false, false, false] rfl rfl (S1 h)
def wp_M_isSmall (a0 : Int) (Q : Int → Prop) : Prop := (a0 < 97 → Q 0) ∧ (¬ a0 < 97 → (122 < a0 → Q 0) ∧ (¬ 122 < a0 → Q 1))
set_option maxHeartbeats 4000000 in
set_option maxRecDepth 20000 in
theorem s_M_isSmall (l : Launch) (w : St) (a0 : Int) (P : Int → Prop) (h : wp_M_isSmall a0 P) : Cn l yX10_isSmall cX10_isSmall 1 (some .boolean) 0 LM w [aI a0] (okI (fun r w1 => w1 = w ∧ P r)) := by
  unfold wp_M_isSmall at h
  refine Cn.of2 [some (aI a0)] (by decide) (Nat.le_of_ble_eq_true rfl) rfl (fun p e s m args below meth c D cA ad A Q hQ hC hr hk => ?_)
  refine r_iload_n (pc := 0) hC 0 dX10_isSmall_0 rfl rfl ?_
  refine r_bipush (pc := 1) hC dX10_isSmall_1 ⟨rfl, rng_lit rfl⟩ ?_
  refine r_ic_lt (pc := 3) (tgt := 16) hC dX10_isSmall_3 rfl (fun hc2 => ?_) (fun hc2 => ?_)
  · have h := h.1 hc2
    refine r_iconst (pc := 16) hC dX10_isSmall_16 (rng_lit rfl) ?_
    exact r_reti (pc := 17) (kd := 1) hC hQ dX10_isSmall_17 hr hk (by decide) (Or.inr okK1_0) ⟨rfl, h⟩
  have h := h.2 hc2
  refine r_iload_n (pc := 6) hC 0 dX10_isSmall_6 rfl rfl ?_
  refine r_bipush (pc := 7) hC dX10_isSmall_7 ⟨rfl, rng_lit rfl⟩ ?_
  refine r_ic_gt (pc := 9) (tgt := 16) hC dX10_isSmall_9 rfl (fun hc1 => ?_) (fun hc1 => ?_)
  · have h := h.1 hc1
    refine r_iconst (pc := 16) hC dX10_isSmall_16 (rng_lit rfl) ?_
    exact r_reti (pc := 17) (kd := 1) hC hQ dX10_isSmall_17 hr hk (by decide) (Or.inr okK1_0) ⟨rfl, h⟩
  have h := h.2 hc1
  refine r_iconst (pc := 12) hC dX10_isSmall_12 (rng_lit rfl) ?_
  refine r_goto (tgt := 17) (pc := 13) hC dX10_isSmall_13 rfl ?_
  exact r_reti (pc := 17) (kd := 1) hC hQ dX10_isSmall_17 hr hk (by decide) (Or.inr okK1_1) ⟨rfl, h⟩
def wp_M_small (a0 : Int) (Q : Int → Prop) : Prop := (a0 < 65 → Q a0) ∧ (¬ a0 < 65 → (90 < a0 → Q a0) ∧ (¬ 90 < a0 → (rng (a0 + 32)) ∧ (Q (a0 + 32))))
set_option maxHeartbeats 4000000 in
set_option maxRecDepth 20000 in
theorem s_M_small (l : Launch) (w : St) (a0 : Int) (P : Int → Prop) (h : wp_M_small a0 P) : Cn l yX10_small cX10_small 1 (some .int) 0 LM w [aI a0] (okI (fun r w1 => w1 = w ∧ P r)) := by
  unfold wp_M_small at h
  refine Cn.of2 [some (aI a0)] (by decide) (Nat.le_of_ble_eq_true rfl) rfl (fun p e s m args below meth c D cA ad A Q hQ hC hr hk => ?_)
  refine r_iload_n (pc := 0) hC 0 dX10_small_0 rfl rfl ?_
  refine r_bipush (pc := 1) hC dX10_small_1 ⟨rfl, rng_lit rfl⟩ ?_
  refine r_ic_lt (pc := 3) (tgt := 19) hC dX10_small_3 rfl (fun hc2 => ?_) (fun hc2 => ?_)
  · have h := h.1 hc2
    refine r_iload_n (pc := 19) hC 0 dX10_small_19 rfl rfl ?_
    exact r_reti (pc := 20) (kd := 0) hC hQ dX10_small_20 hr hk (by decide) (Or.inl rfl) ⟨rfl, h⟩
  have h := h.2 hc2
  refine r_iload_n (pc := 6) hC 0 dX10_small_6 rfl rfl ?_
  refine r_bipush (pc := 7) hC dX10_small_7 ⟨rfl, rng_lit rfl⟩ ?_
  refine r_ic_gt (pc := 9) (tgt := 19) hC dX10_small_9 rfl (fun hc1 => ?_) (fun hc1 => ?_)
  · have h := h.1 hc1
    refine r_iload_n (pc := 19) hC 0 dX10_small_19 rfl rfl ?_
    exact r_reti (pc := 20) (kd := 0) hC hQ dX10_small_20 hr hk (by decide) (Or.inl rfl) ⟨rfl, h⟩
  have h := h.2 hc1
  refine r_iload_n (pc := 12) hC 0 dX10_small_12 rfl rfl ?_
  refine r_bipush (pc := 13) hC dX10_small_13 ⟨rfl, rng_lit rfl⟩ ?_
  refine r_iadd (pc := 15) hC dX10_small_15 h.1 ?_
  have h := h.2
  refine r_goto (tgt := 20) (pc := 16) hC dX10_small_16 rfl ?_
  exact r_reti (pc := 20) (kd := 0) hC hQ dX10_small_20 hr hk (by decide) (Or.inl rfl) ⟨rfl, h⟩
def wp_M_isLetter (m_page : (Nat → Int)) (m_signAt : (Nat → Int)) (m_signs : Int) (a1 : Int) (Q : Int → Prop) : Prop := (rng (m_signs - 1)) ∧ (wp_M_in a1 0 (m_signs - 1) (fun (r1 : Int) => (r1 = 0 → Q 0) ∧ (¬ r1 = 0 → wp_M_signBytes m_signAt a1 (fun (r2 : Int) => jn0 (fun (J1 : Prop) => (r2 = 2 → J1) ∧ (¬ r2 = 2 → wp_M_plain m_page m_signAt m_signs a1 (fun (r3 : Int) => wp_M_small r3 (fun (r4 : Int) => wp_M_isSmall r4 (fun (r5 : Int) => (r5 = 0 → Q 0) ∧ (¬ r5 = 0 → J1)))))) (Q 1)))))
set_option maxHeartbeats 4000000 in
set_option maxRecDepth 20000 in
theorem s_M_isLetter (l : Launch) (w : St) (a1 : Int) (P : Int → Prop) (h : wp_M_isLetter (w.1 3) (w.1 4) (w.1 0 7) a1 P) : Cn l yX10_isLetter cX10_isLetter 2 (some .boolean) 2 LM w [aR 0, aI a1] (okI (fun r w1 => w1 = w ∧ P r)) := by
  unfold wp_M_isLetter at h
  refine Cn.of2 [some (aR 0), some (aI a1)] (by decide) (Nat.le_of_ble_eq_true rfl) rfl (fun p e s m args below meth c D cA ad A Q hQ hC hr hk => ?_)
  refine r_iload_n (pc := 0) hC 1 dX10_isLetter_0 rfl rfl ?_
  refine r_iconst (pc := 1) hC dX10_isLetter_1 (rng_lit rfl) ?_
  refine r_aload_n (pc := 2) hC 0 dX10_isLetter_2 rfl rfl ?_
  refine r_get (kd := 0) (v := (w.1 0 7)) (pc := 3) hC dX10_isLetter_3 fl_RX10_155 lM_0 rfl rfl ?_
  refine r_iconst (pc := 6) hC dX10_isLetter_6 (rng_lit rfl) ?_
  refine r_isub (pc := 7) hC dX10_isLetter_7 h.1 ?_
  have h := h.2
  refine r_callSi (pc := 8) hC [aI a1, aI 0, aI ((w.1 0 7) - 1)] [] dX10_isLetter_8 ml_RX10_151 my_X10_in ms_X10_in rfl ⟨Nat.le_of_ble_eq_true rfl, Nat.le_of_ble_eq_true rfl⟩ ⟨Nat.le_of_ble_eq_true rfl, Nat.le_of_ble_eq_true rfl⟩ (Nat.le_of_ble_eq_true rfl) rfl (s_M_in l _ _ _ _ _ h) (fun r1 w1 hq => ?_)
  obtain ⟨e9, h⟩ := hq
  rw [e9]
  refine r_if_eq (pc := 11) (tgt := 41) hC dX10_isLetter_11 rfl (fun hc3 => ?_) (fun hc3 => ?_)
  · have h := h.1 hc3
    refine r_iconst (pc := 41) hC dX10_isLetter_41 (rng_lit rfl) ?_
    exact r_reti (pc := 42) (kd := 1) hC hQ dX10_isLetter_42 hr hk (by decide) (Or.inr okK1_0) ⟨rfl, h⟩
  have h := h.2 hc3
  refine r_aload_n (pc := 14) hC 0 dX10_isLetter_14 rfl rfl ?_
  refine r_iload_n (pc := 15) hC 1 dX10_isLetter_15 rfl rfl ?_
  refine r_callVi (pc := 16) hC [aI a1] [] dX10_isLetter_16 ml_RX10_162 my_X10_signBytes mi_X10_signBytes lM_0 rfl rfl ⟨Nat.le_of_ble_eq_true rfl, Nat.le_of_ble_eq_true rfl⟩ ⟨Nat.le_of_ble_eq_true rfl, Nat.le_of_ble_eq_true rfl⟩ (Nat.le_of_ble_eq_true rfl) rfl (s_M_signBytes l _ _ _ h) (fun r2 w1 hq => ?_)
  obtain ⟨e9, h⟩ := hq
  rw [e9]
  refine r_iconst (pc := 19) hC dX10_isLetter_19 (rng_lit rfl) ?_
  obtain ⟨J1, hJ1, h⟩ := h
  have S1 : J1 → Wd p l e (rmD 2) s m args below meth c Q 0 0 2 D cA ad A LM w 37 [none, none] [] := by
    intro hj
    have h := hJ1 hj
    refine r_iconst (pc := 37) hC dX10_isLetter_37 (rng_lit rfl) ?_
    refine r_goto (tgt := 42) (pc := 38) hC dX10_isLetter_38 rfl ?_
    exact r_reti (pc := 42) (kd := 1) hC hQ dX10_isLetter_42 hr hk (by decide) (Or.inr okK1_1) ⟨rfl, h⟩
  refine r_ic_eq (pc := 20) (tgt := 37) hC dX10_isLetter_20 rfl (fun hc2 => ?_) (fun hc2 => ?_)
  · have h := h.1 hc2
    exact r_to [false, false] rfl rfl (S1 h)
  have h := h.2 hc2
  refine r_aload_n (pc := 23) hC 0 dX10_isLetter_23 rfl rfl ?_
  refine r_iload_n (pc := 24) hC 1 dX10_isLetter_24 rfl rfl ?_
  refine r_callVi (pc := 25) hC [aI a1] [] dX10_isLetter_25 ml_RX10_166 my_X10_plain mi_X10_plain lM_0 rfl rfl ⟨Nat.le_of_ble_eq_true rfl, Nat.le_of_ble_eq_true rfl⟩ ⟨Nat.le_of_ble_eq_true rfl, Nat.le_of_ble_eq_true rfl⟩ (Nat.le_of_ble_eq_true rfl) rfl (s_M_plain l _ _ _ h) (fun r3 w1 hq => ?_)
  obtain ⟨e9, h⟩ := hq
  rw [e9]
  refine r_callSi (pc := 28) hC [aI r3] [] dX10_isLetter_28 ml_RX10_169 my_X10_small ms_X10_small rfl ⟨Nat.le_of_ble_eq_true rfl, Nat.le_of_ble_eq_true rfl⟩ ⟨Nat.le_of_ble_eq_true rfl, Nat.le_of_ble_eq_true rfl⟩ (Nat.le_of_ble_eq_true rfl) rfl (s_M_small l _ _ _ h) (fun r4 w1 hq => ?_)
  obtain ⟨e9, h⟩ := hq
  rw [e9]
  refine r_callSi (pc := 31) hC [aI r4] [] dX10_isLetter_31 ml_RX10_172 my_X10_isSmall ms_X10_isSmall rfl ⟨Nat.le_of_ble_eq_true rfl, Nat.le_of_ble_eq_true rfl⟩ ⟨Nat.le_of_ble_eq_true rfl, Nat.le_of_ble_eq_true rfl⟩ (Nat.le_of_ble_eq_true rfl) rfl (s_M_isSmall l _ _ _ h) (fun r5 w1 hq => ?_)
  obtain ⟨e9, h⟩ := hq
  rw [e9]
  refine r_if_eq (pc := 34) (tgt := 41) hC dX10_isLetter_34 rfl (fun hc1 => ?_) (fun hc1 => ?_)
  · have h := h.1 hc1
    refine r_iconst (pc := 41) hC dX10_isLetter_41 (rng_lit rfl) ?_
    exact r_reti (pc := 42) (kd := 1) hC hQ dX10_isLetter_42 hr hk (by decide) (Or.inr okK1_0) ⟨rfl, h⟩
  have h := h.2 hc1
  exact r_to [false, false] rfl rfl (S1 h)
def wp_M_areAlike (m_page : (Nat → Int)) (m_signAt : (Nat → Int)) (m_signs : Int) (a1 : Int) (a2 : Int) (Q : Int → Prop) : Prop := wp_M_signBytes m_signAt a1 (fun (r1 : Int) => wp_M_signBytes m_signAt a2 (fun (r2 : Int) => (r1 = r2 → wp_M_signBytes m_signAt a1 (fun (r3 : Int) => (¬ r3 = 1 → (0 ≤ a1 ∧ a1 < 601) ∧ ((0 ≤ (m_signAt (Int.toNat a1)) ∧ (m_signAt (Int.toNat a1)) < 600) ∧ ((0 ≤ a2 ∧ a2 < 601) ∧ ((0 ≤ (m_signAt (Int.toNat a2)) ∧ (m_signAt (Int.toNat a2)) < 600) ∧ ((¬ (m_page (Int.toNat (m_signAt (Int.toNat a1)))) = (m_page (Int.toNat (m_signAt (Int.toNat a2)))) → Q 0) ∧ ((m_page (Int.toNat (m_signAt (Int.toNat a1)))) = (m_page (Int.toNat (m_signAt (Int.toNat a2)))) → (0 ≤ a1 ∧ a1 < 601) ∧ ((rng ((m_signAt (Int.toNat a1)) + 1)) ∧ ((0 ≤ ((m_signAt (Int.toNat a1)) + 1) ∧ ((m_signAt (Int.toNat a1)) + 1) < 600) ∧ ((0 ≤ a2 ∧ a2 < 601) ∧ ((rng ((m_signAt (Int.toNat a2)) + 1)) ∧ ((0 ≤ ((m_signAt (Int.toNat a2)) + 1) ∧ ((m_signAt (Int.toNat a2)) + 1) < 600) ∧ ((¬ (m_page (Int.toNat ((m_signAt (Int.toNat a1)) + 1))) = (m_page (Int.toNat ((m_signAt (Int.toNat a2)) + 1))) → Q 0) ∧ ((m_page (Int.toNat ((m_signAt (Int.toNat a1)) + 1))) = (m_page (Int.toNat ((m_signAt (Int.toNat a2)) + 1))) → Q 1))))))))))))) ∧ (r3 = 1 → wp_M_plain m_page m_signAt m_signs a1 (fun (r4 : Int) => wp_M_small r4 (fun (r5 : Int) => wp_M_plain m_page m_signAt m_signs a2 (fun (r6 : Int) => wp_M_small r6 (fun (r7 : Int) => (¬ r5 = r7 → Q 0) ∧ (r5 = r7 → Q 1)))))))) ∧ (¬ r1 = r2 → Q 0)))
set_option maxHeartbeats 4000000 in
set_option maxRecDepth 20000 in
theorem s_M_areAlike (l : Launch) (w : St) (a1 : Int) (a2 : Int) (P : Int → Prop) (h : wp_M_areAlike (w.1 3) (w.1 4) (w.1 0 7) a1 a2 P) : Cn l yX10_areAlike cX10_areAlike 3 (some .boolean) 2 LM w [aR 0, aI a1, aI a2] (okI (fun r w1 => w1 = w ∧ P r)) := by
  unfold wp_M_areAlike at h
  refine Cn.of2 [some (aR 0), some (aI a1), some (aI a2)] (by decide) (Nat.le_of_ble_eq_true rfl) rfl (fun p e s m args below meth c D cA ad A Q hQ hC hr hk => ?_)
  refine r_aload_n (pc := 0) hC 0 dX10_areAlike_0 rfl rfl ?_
  refine r_iload_n (pc := 1) hC 1 dX10_areAlike_1 rfl rfl ?_
  refine r_callVi (pc := 2) hC [aI a1] [] dX10_areAlike_2 ml_RX10_162 my_X10_signBytes mi_X10_signBytes lM_0 rfl rfl ⟨Nat.le_of_ble_eq_true rfl, Nat.le_of_ble_eq_true rfl⟩ ⟨Nat.le_of_ble_eq_true rfl, Nat.le_of_ble_eq_true rfl⟩ (Nat.le_of_ble_eq_true rfl) rfl (s_M_signBytes l _ _ _ h) (fun r1 w1 hq => ?_)
  obtain ⟨e9, h⟩ := hq
  rw [e9]
  refine r_aload_n (pc := 5) hC 0 dX10_areAlike_5 rfl rfl ?_
  refine r_iload_n (pc := 6) hC 2 dX10_areAlike_6 rfl rfl ?_
  refine r_callVi (pc := 7) hC [aI a2] [aI r1] dX10_areAlike_7 ml_RX10_162 my_X10_signBytes mi_X10_signBytes lM_0 rfl rfl ⟨Nat.le_of_ble_eq_true rfl, Nat.le_of_ble_eq_true rfl⟩ ⟨Nat.le_of_ble_eq_true rfl, Nat.le_of_ble_eq_true rfl⟩ (Nat.le_of_ble_eq_true rfl) rfl (s_M_signBytes l _ _ _ h) (fun r2 w1 hq => ?_)
  obtain ⟨e9, h⟩ := hq
  rw [e9]
  refine r_ic_eq (pc := 10) (tgt := 15) hC dX10_areAlike_10 rfl (fun hc5 => ?_) (fun hc5 => ?_)
  · have h := h.1 hc5
    refine r_aload_n (pc := 15) hC 0 dX10_areAlike_15 rfl rfl ?_
    refine r_iload_n (pc := 16) hC 1 dX10_areAlike_16 rfl rfl ?_
    refine r_callVi (pc := 17) hC [aI a1] [] dX10_areAlike_17 ml_RX10_162 my_X10_signBytes mi_X10_signBytes lM_0 rfl rfl ⟨Nat.le_of_ble_eq_true rfl, Nat.le_of_ble_eq_true rfl⟩ ⟨Nat.le_of_ble_eq_true rfl, Nat.le_of_ble_eq_true rfl⟩ (Nat.le_of_ble_eq_true rfl) rfl (s_M_signBytes l _ _ _ h) (fun r3 w1 hq => ?_)
    obtain ⟨e9, h⟩ := hq
    rw [e9]
    refine r_iconst (pc := 20) hC dX10_areAlike_20 (rng_lit rfl) ?_
    refine r_ic_ne (pc := 21) (tgt := 49) hC dX10_areAlike_21 rfl (fun hc4 => ?_) (fun hc4 => ?_)
    · have h := h.1 hc4
      refine r_aload_n (pc := 49) hC 0 dX10_areAlike_49 rfl rfl ?_
      refine r_getr (r := 3) (pc := 50) hC dX10_areAlike_50 fl_RX10_17 lM_0 rfl ?_
      refine r_aload_n (pc := 53) hC 0 dX10_areAlike_53 rfl rfl ?_
      refine r_getr (r := 4) (pc := 54) hC dX10_areAlike_54 fl_RX10_20 lM_0 rfl ?_
      refine r_iload_n (pc := 57) hC 1 dX10_areAlike_57 rfl rfl ?_
      refine r_iald (v := ((w.1 4) (Int.toNat a1))) (pc := 58) hC dX10_areAlike_58 lM_4 h.1.1 h.1.2 rfl ?_
      have h := h.2
      refine r_iald (v := ((w.1 3) (Int.toNat ((w.1 4) (Int.toNat a1))))) (pc := 59) hC dX10_areAlike_59 lM_3 h.1.1 h.1.2 rfl ?_
      have h := h.2
      refine r_aload_n (pc := 60) hC 0 dX10_areAlike_60 rfl rfl ?_
      refine r_getr (r := 3) (pc := 61) hC dX10_areAlike_61 fl_RX10_17 lM_0 rfl ?_
      refine r_aload_n (pc := 64) hC 0 dX10_areAlike_64 rfl rfl ?_
      refine r_getr (r := 4) (pc := 65) hC dX10_areAlike_65 fl_RX10_20 lM_0 rfl ?_
      refine r_iload_n (pc := 68) hC 2 dX10_areAlike_68 rfl rfl ?_
      refine r_iald (v := ((w.1 4) (Int.toNat a2))) (pc := 69) hC dX10_areAlike_69 lM_4 h.1.1 h.1.2 rfl ?_
      have h := h.2
      refine r_iald (v := ((w.1 3) (Int.toNat ((w.1 4) (Int.toNat a2))))) (pc := 70) hC dX10_areAlike_70 lM_3 h.1.1 h.1.2 rfl ?_
      have h := h.2
      refine r_ic_ne (pc := 71) (tgt := 107) hC dX10_areAlike_71 rfl (fun hc2 => ?_) (fun hc2 => ?_)
      · have h := h.1 hc2
        refine r_iconst (pc := 107) hC dX10_areAlike_107 (rng_lit rfl) ?_
        exact r_reti (pc := 108) (kd := 1) hC hQ dX10_areAlike_108 hr hk (by decide) (Or.inr okK1_0) ⟨rfl, h⟩
      have h := h.2 hc2
      refine r_aload_n (pc := 74) hC 0 dX10_areAlike_74 rfl rfl ?_
      refine r_getr (r := 3) (pc := 75) hC dX10_areAlike_75 fl_RX10_17 lM_0 rfl ?_
      refine r_aload_n (pc := 78) hC 0 dX10_areAlike_78 rfl rfl ?_
      refine r_getr (r := 4) (pc := 79) hC dX10_areAlike_79 fl_RX10_20 lM_0 rfl ?_
      refine r_iload_n (pc := 82) hC 1 dX10_areAlike_82 rfl rfl ?_
      refine r_iald (v := ((w.1 4) (Int.toNat a1))) (pc := 83) hC dX10_areAlike_83 lM_4 h.1.1 h.1.2 rfl ?_
      have h := h.2
      refine r_iconst (pc := 84) hC dX10_areAlike_84 (rng_lit rfl) ?_
      refine r_iadd (pc := 85) hC dX10_areAlike_85 h.1 ?_
      have h := h.2
      refine r_iald (v := ((w.1 3) (Int.toNat (((w.1 4) (Int.toNat a1)) + 1)))) (pc := 86) hC dX10_areAlike_86 lM_3 h.1.1 h.1.2 rfl ?_
      have h := h.2
      refine r_aload_n (pc := 87) hC 0 dX10_areAlike_87 rfl rfl ?_
      refine r_getr (r := 3) (pc := 88) hC dX10_areAlike_88 fl_RX10_17 lM_0 rfl ?_
      refine r_aload_n (pc := 91) hC 0 dX10_areAlike_91 rfl rfl ?_
      refine r_getr (r := 4) (pc := 92) hC dX10_areAlike_92 fl_RX10_20 lM_0 rfl ?_
      refine r_iload_n (pc := 95) hC 2 dX10_areAlike_95 rfl rfl ?_
      refine r_iald (v := ((w.1 4) (Int.toNat a2))) (pc := 96) hC dX10_areAlike_96 lM_4 h.1.1 h.1.2 rfl ?_
      have h := h.2
      refine r_iconst (pc := 97) hC dX10_areAlike_97 (rng_lit rfl) ?_
      refine r_iadd (pc := 98) hC dX10_areAlike_98 h.1 ?_
      have h := h.2
      refine r_iald (v := ((w.1 3) (Int.toNat (((w.1 4) (Int.toNat a2)) + 1)))) (pc := 99) hC dX10_areAlike_99 lM_3 h.1.1 h.1.2 rfl ?_
      have h := h.2
      refine r_ic_ne (pc := 100) (tgt := 107) hC dX10_areAlike_100 rfl (fun hc1 => ?_) (fun hc1 => ?_)
      · have h := h.1 hc1
        refine r_iconst (pc := 107) hC dX10_areAlike_107 (rng_lit rfl) ?_
        exact r_reti (pc := 108) (kd := 1) hC hQ dX10_areAlike_108 hr hk (by decide) (Or.inr okK1_0) ⟨rfl, h⟩
      have h := h.2 hc1
      refine r_iconst (pc := 103) hC dX10_areAlike_103 (rng_lit rfl) ?_
      refine r_goto (tgt := 108) (pc := 104) hC dX10_areAlike_104 rfl ?_
      exact r_reti (pc := 108) (kd := 1) hC hQ dX10_areAlike_108 hr hk (by decide) (Or.inr okK1_1) ⟨rfl, h⟩
    have h := h.2 hc4
    refine r_aload_n (pc := 24) hC 0 dX10_areAlike_24 rfl rfl ?_
    refine r_iload_n (pc := 25) hC 1 dX10_areAlike_25 rfl rfl ?_
    refine r_callVi (pc := 26) hC [aI a1] [] dX10_areAlike_26 ml_RX10_166 my_X10_plain mi_X10_plain lM_0 rfl rfl ⟨Nat.le_of_ble_eq_true rfl, Nat.le_of_ble_eq_true rfl⟩ ⟨Nat.le_of_ble_eq_true rfl, Nat.le_of_ble_eq_true rfl⟩ (Nat.le_of_ble_eq_true rfl) rfl (s_M_plain l _ _ _ h) (fun r4 w1 hq => ?_)
    obtain ⟨e9, h⟩ := hq
    rw [e9]
    refine r_callSi (pc := 29) hC [aI r4] [] dX10_areAlike_29 ml_RX10_169 my_X10_small ms_X10_small rfl ⟨Nat.le_of_ble_eq_true rfl, Nat.le_of_ble_eq_true rfl⟩ ⟨Nat.le_of_ble_eq_true rfl, Nat.le_of_ble_eq_true rfl⟩ (Nat.le_of_ble_eq_true rfl) rfl (s_M_small l _ _ _ h) (fun r5 w1 hq => ?_)
    obtain ⟨e9, h⟩ := hq
    rw [e9]
    refine r_aload_n (pc := 32) hC 0 dX10_areAlike_32 rfl rfl ?_
    refine r_iload_n (pc := 33) hC 2 dX10_areAlike_33 rfl rfl ?_
    refine r_callVi (pc := 34) hC [aI a2] [aI r5] dX10_areAlike_34 ml_RX10_166 my_X10_plain mi_X10_plain lM_0 rfl rfl ⟨Nat.le_of_ble_eq_true rfl, Nat.le_of_ble_eq_true rfl⟩ ⟨Nat.le_of_ble_eq_true rfl, Nat.le_of_ble_eq_true rfl⟩ (Nat.le_of_ble_eq_true rfl) rfl (s_M_plain l _ _ _ h) (fun r6 w1 hq => ?_)
    obtain ⟨e9, h⟩ := hq
    rw [e9]
    refine r_callSi (pc := 37) hC [aI r6] [aI r5] dX10_areAlike_37 ml_RX10_169 my_X10_small ms_X10_small rfl ⟨Nat.le_of_ble_eq_true rfl, Nat.le_of_ble_eq_true rfl⟩ ⟨Nat.le_of_ble_eq_true rfl, Nat.le_of_ble_eq_true rfl⟩ (Nat.le_of_ble_eq_true rfl) rfl (s_M_small l _ _ _ h) (fun r7 w1 hq => ?_)
    obtain ⟨e9, h⟩ := hq
    rw [e9]
    refine r_ic_ne (pc := 40) (tgt := 47) hC dX10_areAlike_40 rfl (fun hc3 => ?_) (fun hc3 => ?_)
    · have h := h.1 hc3
      refine r_iconst (pc := 47) hC dX10_areAlike_47 (rng_lit rfl) ?_
      exact r_reti (pc := 48) (kd := 1) hC hQ dX10_areAlike_48 hr hk (by decide) (Or.inr okK1_0) ⟨rfl, h⟩
    have h := h.2 hc3
    refine r_iconst (pc := 43) hC dX10_areAlike_43 (rng_lit rfl) ?_
    refine r_goto (tgt := 48) (pc := 44) hC dX10_areAlike_44 rfl ?_
    exact r_reti (pc := 48) (kd := 1) hC hQ dX10_areAlike_48 hr hk (by decide) (Or.inr okK1_1) ⟨rfl, h⟩
  have h := h.2 hc5
  refine r_iconst (pc := 13) hC dX10_areAlike_13 (rng_lit rfl) ?_
  exact r_reti (pc := 14) (kd := 1) hC hQ dX10_areAlike_14 hr hk (by decide) (Or.inr okK1_0) ⟨rfl, h⟩
def wp_M_areAlikeWords (m_page : (Nat → Int)) (m_signAt : (Nat → Int)) (m_wordFrom : (Nat → Int)) (m_wordTo : (Nat → Int)) (m_signs : Int) (a1 : Int) (a2 : Int) (Q : Int → Prop) : Prop := (0 ≤ a1 ∧ a1 < 100) ∧ ((0 ≤ a1 ∧ a1 < 100) ∧ ((rng ((m_wordTo (Int.toNat a1)) - (m_wordFrom (Int.toNat a1)))) ∧ ((0 ≤ a2 ∧ a2 < 100) ∧ ((0 ≤ a2 ∧ a2 < 100) ∧ ((rng ((m_wordTo (Int.toNat a2)) - (m_wordFrom (Int.toNat a2)))) ∧ (jn1 (fun (J1 : Int → Prop) => (¬ ((m_wordTo (Int.toNat a1)) - (m_wordFrom (Int.toNat a1))) = ((m_wordTo (Int.toNat a2)) - (m_wordFrom (Int.toNat a2))) → J1 0) ∧ (((m_wordTo (Int.toNat a1)) - (m_wordFrom (Int.toNat a1))) = ((m_wordTo (Int.toNat a2)) - (m_wordFrom (Int.toNat a2))) → J1 1)) (fun (y1 : Int) => lpw2 (fun (x2 : Int) (x3 : Int) (k2 : Int → Int → Prop) => (x2 = 0 → (0 ≤ x2 ∧ x2 ≤ 1) ∧ (Q x2)) ∧ (¬ x2 = 0 → (0 ≤ a1 ∧ a1 < 100) ∧ ((0 ≤ a1 ∧ a1 < 100) ∧ ((rng ((m_wordTo (Int.toNat a1)) - (m_wordFrom (Int.toNat a1)))) ∧ ((((m_wordTo (Int.toNat a1)) - (m_wordFrom (Int.toNat a1))) ≤ x3 → (0 ≤ x2 ∧ x2 ≤ 1) ∧ (Q x2)) ∧ (¬ ((m_wordTo (Int.toNat a1)) - (m_wordFrom (Int.toNat a1))) ≤ x3 → (0 ≤ a1 ∧ a1 < 100) ∧ ((rng ((m_wordFrom (Int.toNat a1)) + x3)) ∧ ((0 ≤ a2 ∧ a2 < 100) ∧ ((rng ((m_wordFrom (Int.toNat a2)) + x3)) ∧ (wp_M_areAlike m_page m_signAt m_signs ((m_wordFrom (Int.toNat a1)) + x3) ((m_wordFrom (Int.toNat a2)) + x3) (fun (r4 : Int) => (rng (x3 + 1)) ∧ (k2 r4 (x3 + 1))))))))))))) y1 0)))))))
set_option maxHeartbeats 4000000 in
set_option maxRecDepth 20000 in
theorem s_M_areAlikeWords (l : Launch) (w : St) (a1 : Int) (a2 : Int) (P : Int → Prop) (h : wp_M_areAlikeWords (w.1 3) (w.1 4) (w.1 5) (w.1 6) (w.1 0 7) a1 a2 P) : Cn l yX10_areAlikeWords cX10_areAlikeWords 5 (some .boolean) 3 LM w [aR 0, aI a1, aI a2] (okI (fun r w1 => w1 = w ∧ P r)) := by
  unfold wp_M_areAlikeWords at h
  refine Cn.of2 [some (aR 0), some (aI a1), some (aI a2), none, none] (by decide) (Nat.le_of_ble_eq_true rfl) rfl (fun p e s m args below meth c D cA ad A Q hQ hC hr hk => ?_)
  refine r_aload_n (pc := 0) hC 0 dX10_areAlikeWords_0 rfl rfl ?_
  refine r_getr (r := 6) (pc := 1) hC dX10_areAlikeWords_1 fl_RX10_26 lM_0 rfl ?_
  refine r_iload_n (pc := 4) hC 1 dX10_areAlikeWords_4 rfl rfl ?_
  refine r_iald (v := ((w.1 6) (Int.toNat a1))) (pc := 5) hC dX10_areAlikeWords_5 lM_6 h.1.1 h.1.2 rfl ?_
  have h := h.2
  refine r_aload_n (pc := 6) hC 0 dX10_areAlikeWords_6 rfl rfl ?_
  refine r_getr (r := 5) (pc := 7) hC dX10_areAlikeWords_7 fl_RX10_23 lM_0 rfl ?_
  refine r_iload_n (pc := 10) hC 1 dX10_areAlikeWords_10 rfl rfl ?_
  refine r_iald (v := ((w.1 5) (Int.toNat a1))) (pc := 11) hC dX10_areAlikeWords_11 lM_5 h.1.1 h.1.2 rfl ?_
  have h := h.2
  refine r_isub (pc := 12) hC dX10_areAlikeWords_12 h.1 ?_
  have h := h.2
  refine r_aload_n (pc := 13) hC 0 dX10_areAlikeWords_13 rfl rfl ?_
  refine r_getr (r := 6) (pc := 14) hC dX10_areAlikeWords_14 fl_RX10_26 lM_0 rfl ?_
  refine r_iload_n (pc := 17) hC 2 dX10_areAlikeWords_17 rfl rfl ?_
  refine r_iald (v := ((w.1 6) (Int.toNat a2))) (pc := 18) hC dX10_areAlikeWords_18 lM_6 h.1.1 h.1.2 rfl ?_
  have h := h.2
  refine r_aload_n (pc := 19) hC 0 dX10_areAlikeWords_19 rfl rfl ?_
  refine r_getr (r := 5) (pc := 20) hC dX10_areAlikeWords_20 fl_RX10_23 lM_0 rfl ?_
  refine r_iload_n (pc := 23) hC 2 dX10_areAlikeWords_23 rfl rfl ?_
  refine r_iald (v := ((w.1 5) (Int.toNat a2))) (pc := 24) hC dX10_areAlikeWords_24 lM_5 h.1.1 h.1.2 rfl ?_
  have h := h.2
  refine r_isub (pc := 25) hC dX10_areAlikeWords_25 h.1 ?_
  have h := h.2
  obtain ⟨J1, hJ1, h⟩ := h
  have S1 : ∀ (y1 : Int), J1 y1 → Wd p l e (rmD 3) s m args below meth c Q 0 0 5 D cA ad A LM w 34 [some (aR 0), some (aI a1), some (aI a2), none, none] [aI y1] := by
    intro y1 hj
    have h := hJ1 y1 hj
    refine r_istore_n (ls2 := [some (aR 0), some (aI a1), some (aI a2), some (aI y1), none]) (pc := 34) hC 3 dX10_areAlikeWords_34 rfl (by decide) rfl rfl ?_
    refine r_iconst (pc := 35) hC dX10_areAlikeWords_35 (rng_lit rfl) ?_
    refine r_istore (ls2 := [some (aR 0), some (aI a1), some (aI a2), some (aI y1), some (aI 0)]) (pc := 36) hC dX10_areAlikeWords_36 (by decide) rfl rfl ?_
    obtain ⟨I2, μ2, hI2, hB2⟩ := h
    have S2 : ∀ (nn : Nat) (x2 : Int) (x3 : Int), μ2 x2 x3 < nn → I2 x2 x3 → Wd p l e (rmD 3) s m args below meth c Q 0 0 5 D cA ad A LM w 38 [some (aR 0), some (aI a1), some (aI a2), some (aI x2), some (aI x3)] [] := by
      intro nn
      induction nn with
      | zero => intro x2 x3 hn; exact absurd hn (Nat.not_lt_zero _)
      | succ nn ih2 =>
        intro x2 x3 hn2 hi
        have h := hB2 x2 x3 hi
        refine r_iload_n (pc := 38) hC 3 dX10_areAlikeWords_38 rfl rfl ?_
        refine r_if_eq (pc := 39) (tgt := 89) hC dX10_areAlikeWords_39 rfl (fun hc2 => ?_) (fun hc2 => ?_)
        · have h := h.1 hc2
          refine r_iload_n (pc := 89) hC 3 dX10_areAlikeWords_89 rfl rfl ?_
          exact r_reti (pc := 90) (kd := 1) hC hQ dX10_areAlikeWords_90 hr hk (by decide) (Or.inr h.1) ⟨rfl, h.2⟩
        have h := h.2 hc2
        refine r_iload (pc := 42) hC dX10_areAlikeWords_42 rfl ?_
        refine r_aload_n (pc := 44) hC 0 dX10_areAlikeWords_44 rfl rfl ?_
        refine r_getr (r := 6) (pc := 45) hC dX10_areAlikeWords_45 fl_RX10_26 lM_0 rfl ?_
        refine r_iload_n (pc := 48) hC 1 dX10_areAlikeWords_48 rfl rfl ?_
        refine r_iald (v := ((w.1 6) (Int.toNat a1))) (pc := 49) hC dX10_areAlikeWords_49 lM_6 h.1.1 h.1.2 rfl ?_
        have h := h.2
        refine r_aload_n (pc := 50) hC 0 dX10_areAlikeWords_50 rfl rfl ?_
        refine r_getr (r := 5) (pc := 51) hC dX10_areAlikeWords_51 fl_RX10_23 lM_0 rfl ?_
        refine r_iload_n (pc := 54) hC 1 dX10_areAlikeWords_54 rfl rfl ?_
        refine r_iald (v := ((w.1 5) (Int.toNat a1))) (pc := 55) hC dX10_areAlikeWords_55 lM_5 h.1.1 h.1.2 rfl ?_
        have h := h.2
        refine r_isub (pc := 56) hC dX10_areAlikeWords_56 h.1 ?_
        have h := h.2
        refine r_ic_ge (pc := 57) (tgt := 89) hC dX10_areAlikeWords_57 rfl (fun hc1 => ?_) (fun hc1 => ?_)
        · have h := h.1 hc1
          refine r_iload_n (pc := 89) hC 3 dX10_areAlikeWords_89 rfl rfl ?_
          exact r_reti (pc := 90) (kd := 1) hC hQ dX10_areAlikeWords_90 hr hk (by decide) (Or.inr h.1) ⟨rfl, h.2⟩
        have h := h.2 hc1
        refine r_aload_n (pc := 60) hC 0 dX10_areAlikeWords_60 rfl rfl ?_
        refine r_aload_n (pc := 61) hC 0 dX10_areAlikeWords_61 rfl rfl ?_
        refine r_getr (r := 5) (pc := 62) hC dX10_areAlikeWords_62 fl_RX10_23 lM_0 rfl ?_
        refine r_iload_n (pc := 65) hC 1 dX10_areAlikeWords_65 rfl rfl ?_
        refine r_iald (v := ((w.1 5) (Int.toNat a1))) (pc := 66) hC dX10_areAlikeWords_66 lM_5 h.1.1 h.1.2 rfl ?_
        have h := h.2
        refine r_iload (pc := 67) hC dX10_areAlikeWords_67 rfl ?_
        refine r_iadd (pc := 69) hC dX10_areAlikeWords_69 h.1 ?_
        have h := h.2
        refine r_aload_n (pc := 70) hC 0 dX10_areAlikeWords_70 rfl rfl ?_
        refine r_getr (r := 5) (pc := 71) hC dX10_areAlikeWords_71 fl_RX10_23 lM_0 rfl ?_
        refine r_iload_n (pc := 74) hC 2 dX10_areAlikeWords_74 rfl rfl ?_
        refine r_iald (v := ((w.1 5) (Int.toNat a2))) (pc := 75) hC dX10_areAlikeWords_75 lM_5 h.1.1 h.1.2 rfl ?_
        have h := h.2
        refine r_iload (pc := 76) hC dX10_areAlikeWords_76 rfl ?_
        refine r_iadd (pc := 78) hC dX10_areAlikeWords_78 h.1 ?_
        have h := h.2
        refine r_callVi (pc := 79) hC [aI (((w.1 5) (Int.toNat a1)) + x3), aI (((w.1 5) (Int.toNat a2)) + x3)] [] dX10_areAlikeWords_79 ml_RX10_175 my_X10_areAlike mi_X10_areAlike lM_0 rfl rfl ⟨Nat.le_of_ble_eq_true rfl, Nat.le_of_ble_eq_true rfl⟩ ⟨Nat.le_of_ble_eq_true rfl, Nat.le_of_ble_eq_true rfl⟩ (Nat.le_of_ble_eq_true rfl) rfl (s_M_areAlike l _ _ _ _ h) (fun r4 w1 hq => ?_)
        obtain ⟨e9, h⟩ := hq
        rw [e9]
        refine r_istore_n (ls2 := [some (aR 0), some (aI a1), some (aI a2), some (aI r4), some (aI x3)]) (pc := 82) hC 3 dX10_areAlikeWords_82 rfl (by decide) rfl rfl ?_
        refine r_iinc (ls2 := [some (aR 0), some (aI a1), some (aI a2), some (aI r4), some (aI (x3 + 1))]) (pc := 83) hC dX10_areAlikeWords_83 rfl (by decide) rfl h.1 rfl ?_
        have h := h.2
        refine r_goto (tgt := 38) (pc := 86) hC dX10_areAlikeWords_86 rfl ?_
        exact r_to [true, true, true, true, true] rfl rfl (ih2 r4 (x3 + 1) (Nat.lt_of_lt_of_le h.2 (Nat.le_of_lt_succ hn2)) h.1)
    exact r_to [true, true, true, true, true] rfl rfl (S2 _ y1 0 (Nat.lt_succ_self _) hI2)
  refine r_ic_ne (pc := 26) (tgt := 33) hC dX10_areAlikeWords_26 rfl (fun hc3 => ?_) (fun hc3 => ?_)
  · have h := h.1 hc3
    refine r_iconst (pc := 33) hC dX10_areAlikeWords_33 (rng_lit rfl) ?_
    exact r_to [true, true, true, false, false] rfl rfl (S1 0 h)
  have h := h.2 hc3
  refine r_iconst (pc := 29) hC dX10_areAlikeWords_29 (rng_lit rfl) ?_
  refine r_goto (tgt := 34) (pc := 30) hC dX10_areAlikeWords_30 rfl ?_
  exact r_to [true, true, true, false, false] rfl rfl (S1 1 h)
def wp_M_laysWords (m_page : (Nat → Int)) (m_signAt : (Nat → Int)) (m_wordFrom : (Nat → Int)) (m_wordTo : (Nat → Int)) (m_likeOf : (Nat → Int)) (m_signs : Int) (m_words : Int) (Q : (Nat → Int) → (Nat → Int) → (Nat → Int) → Int → Prop) : Prop := lpw4 (fun (m_wordFrom_1 : (Nat → Int)) (m_wordTo_2 : (Nat → Int)) (m_words_3 : Int) (x4 : Int) (k1 : (Nat → Int) → (Nat → Int) → Int → Int → Prop) => jn0 (fun (J2 : Prop) => (m_signs ≤ x4 → J2) ∧ (¬ m_signs ≤ x4 → (100 ≤ m_words_3 → J2) ∧ (¬ 100 ≤ m_words_3 → wp_M_isLetter m_page m_signAt m_signs x4 (fun (r9 : Int) => (¬ r9 = 0 → (0 ≤ m_words_3 ∧ m_words_3 < 100) ∧ (lpw1 (fun (x10 : Int) (k5 : Int → Prop) => wp_M_isLetter m_page m_signAt m_signs x10 (fun (r11 : Int) => (r11 = 0 → (0 ≤ m_words_3 ∧ m_words_3 < 100) ∧ ((rng (m_words_3 + 1)) ∧ (k1 (uI m_wordFrom_1 m_words_3 x4) (uI m_wordTo_2 m_words_3 x10) (m_words_3 + 1) x10))) ∧ (¬ r11 = 0 → (rng (x10 + 1)) ∧ (k5 (x10 + 1))))) x4)) ∧ (r9 = 0 → (rng (x4 + 1)) ∧ (k1 m_wordFrom_1 m_wordTo_2 m_words_3 (x4 + 1))))))) (lpw2 (fun (m_likeOf_5 : (Nat → Int)) (x6 : Int) (k3 : (Nat → Int) → Int → Prop) => (m_words_3 ≤ x6 → Q m_wordFrom_1 m_wordTo_2 m_likeOf_5 m_words_3) ∧ (¬ m_words_3 ≤ x6 → (0 ≤ x6 ∧ x6 < 100) ∧ (lpw1 (fun (m_likeOf_7 : (Nat → Int)) (k4 : (Nat → Int) → Prop) => (0 ≤ x6 ∧ x6 < 100) ∧ (wp_M_areAlikeWords m_page m_signAt m_wordFrom_1 m_wordTo_2 m_signs (m_likeOf_7 (Int.toNat x6)) x6 (fun (r8 : Int) => (¬ r8 = 0 → (rng (x6 + 1)) ∧ (k3 m_likeOf_7 (x6 + 1))) ∧ (r8 = 0 → (0 ≤ x6 ∧ x6 < 100) ∧ ((rng ((m_likeOf_7 (Int.toNat x6)) + 1)) ∧ ((0 ≤ x6 ∧ x6 < 100) ∧ (k4 (uI m_likeOf_7 x6 ((m_likeOf_7 (Int.toNat x6)) + 1))))))))) (uI m_likeOf_5 x6 0)))) m_likeOf 0)) m_wordFrom m_wordTo 0 0
set_option maxHeartbeats 4000000 in
set_option maxRecDepth 20000 in
theorem s_M_laysWords (l : Launch) (w : St) (P : (Nat → Int) → (Nat → Int) → (Nat → Int) → Int → Prop) (h : wp_M_laysWords (w.1 3) (w.1 4) (w.1 5) (w.1 6) (w.1 8) (w.1 0 7) (w.1 0 12) P) : Cn l yX10_laysWords cX10_laysWords 3 none 4 LM w [aR 0] (okV (fun w1 => ∃ (o0 : (Nat → Int)) (o1 : (Nat → Int)) (o2 : (Nat → Int)) (o3 : Int), w1 = (wI (wA (wA (wA w 5 o0) 6 o1) 8 o2) 0 12 o3) ∧ P o0 o1 o2 o3)) := by
  unfold wp_M_laysWords at h
  refine Cn.of2 [some (aR 0), none, none] (by decide) (Nat.le_of_ble_eq_true rfl) rfl (fun p e s m args below meth c D cA ad A Q hQ hC hr hk => ?_)
  refine r_aload_n (pc := 0) hC 0 dX10_laysWords_0 rfl rfl ?_
  refine r_iconst (pc := 1) hC dX10_laysWords_1 (rng_lit rfl) ?_
  refine r_put (kd := 0) (pc := 2) hC dX10_laysWords_2 pl_RX10_179 lM_0 rfl (by decide) (Or.inl rfl) ?_
  refine r_iconst (pc := 5) hC dX10_laysWords_5 (rng_lit rfl) ?_
  refine r_istore_n (ls2 := [some (aR 0), some (aI 0), none]) (pc := 6) hC 1 dX10_laysWords_6 rfl (by decide) rfl rfl ?_
  obtain ⟨I1, μ1, hI1, hB1⟩ := h
  have S1 : ∀ (nn : Nat) (m_wordFrom_1 : (Nat → Int)) (m_wordTo_2 : (Nat → Int)) (m_words_3 : Int) (x4 : Int), μ1 m_wordFrom_1 m_wordTo_2 m_words_3 x4 < nn → I1 m_wordFrom_1 m_wordTo_2 m_words_3 x4 → Wd p l e (rmD 4) s m args below meth c Q 0 0 3 D cA ad A LM (wI (wA (wA w 5 m_wordFrom_1) 6 m_wordTo_2) 0 12 m_words_3) 7 [some (aR 0), some (aI x4), none] [] := by
    intro nn
    induction nn with
    | zero => intro m_wordFrom_1 m_wordTo_2 m_words_3 x4 hn; exact absurd hn (Nat.not_lt_zero _)
    | succ nn ih1 =>
      intro m_wordFrom_1 m_wordTo_2 m_words_3 x4 hn1 hi
      have h := hB1 m_wordFrom_1 m_wordTo_2 m_words_3 x4 hi
      refine r_iload_n (pc := 7) hC 1 dX10_laysWords_7 rfl rfl ?_
      refine r_aload_n (pc := 8) hC 0 dX10_laysWords_8 rfl rfl ?_
      refine r_get (kd := 0) (v := (w.1 0 7)) (pc := 9) hC dX10_laysWords_9 fl_RX10_155 lM_0 rfl rfl ?_
      obtain ⟨J2, hJ2, h⟩ := h
      have S2 : J2 → Wd p l e (rmD 4) s m args below meth c Q 0 0 3 D cA ad A LM (wI (wA (wA w 5 m_wordFrom_1) 6 m_wordTo_2) 0 12 m_words_3) 85 [some (aR 0), none, none] [] := by
        intro hj
        have h := hJ2 hj
        refine r_iconst (pc := 85) hC dX10_laysWords_85 (rng_lit rfl) ?_
        refine r_istore_n (ls2 := [some (aR 0), none, some (aI 0)]) (pc := 86) hC 2 dX10_laysWords_86 rfl (by decide) rfl rfl ?_
        obtain ⟨I3, μ3, hI3, hB3⟩ := h
        have S3 : ∀ (nn : Nat) (m_likeOf_5 : (Nat → Int)) (x6 : Int), μ3 m_likeOf_5 x6 < nn → I3 m_likeOf_5 x6 → Wd p l e (rmD 4) s m args below meth c Q 0 0 3 D cA ad A LM (wI (wA (wA (wA w 5 m_wordFrom_1) 6 m_wordTo_2) 8 m_likeOf_5) 0 12 m_words_3) 87 [some (aR 0), none, some (aI x6)] [] := by
          intro nn
          induction nn with
          | zero => intro m_likeOf_5 x6 hn; exact absurd hn (Nat.not_lt_zero _)
          | succ nn ih3 =>
            intro m_likeOf_5 x6 hn3 hi
            have h := hB3 m_likeOf_5 x6 hi
            refine r_iload_n (pc := 87) hC 2 dX10_laysWords_87 rfl rfl ?_
            refine r_aload_n (pc := 88) hC 0 dX10_laysWords_88 rfl rfl ?_
            refine r_get (kd := 0) (v := m_words_3) (pc := 89) hC dX10_laysWords_89 fl_RX10_179 lM_0 rfl rfl ?_
            refine r_ic_ge (pc := 92) (tgt := 135) hC dX10_laysWords_92 rfl (fun hc2 => ?_) (fun hc2 => ?_)
            · have h := h.1 hc2
              refine r_conv (w2 := (wI (wA (wA (wA w 5 m_wordFrom_1) 6 m_wordTo_2) 8 m_likeOf_5) 0 12 m_words_3)) rfl ?_
              exact r_retv (pc := 135) hC hQ dX10_laysWords_135 hr hk ⟨m_wordFrom_1, m_wordTo_2, m_likeOf_5, m_words_3, rfl, h⟩
            have h := h.2 hc2
            refine r_aload_n (pc := 95) hC 0 dX10_laysWords_95 rfl rfl ?_
            refine r_getr (r := 8) (pc := 96) hC dX10_laysWords_96 fl_RX10_32 lM_0 rfl ?_
            refine r_iload_n (pc := 99) hC 2 dX10_laysWords_99 rfl rfl ?_
            refine r_iconst (pc := 100) hC dX10_laysWords_100 (rng_lit rfl) ?_
            refine r_iast (pc := 101) hC dX10_laysWords_101 lM_8 h.1.1 h.1.2 ?_
            have h := h.2
            obtain ⟨I4, μ4, hI4, hB4⟩ := h
            have S4 : ∀ (nn : Nat) (m_likeOf_7 : (Nat → Int)), μ4 m_likeOf_7 < nn → I4 m_likeOf_7 → Wd p l e (rmD 4) s m args below meth c Q 0 0 3 D cA ad A LM (wI (wA (wA (wA w 5 m_wordFrom_1) 6 m_wordTo_2) 8 m_likeOf_7) 0 12 m_words_3) 102 [some (aR 0), none, some (aI x6)] [] := by
              intro nn
              induction nn with
              | zero => intro m_likeOf_7 hn; exact absurd hn (Nat.not_lt_zero _)
              | succ nn ih4 =>
                intro m_likeOf_7 hn4 hi
                have h := hB4 m_likeOf_7 hi
                refine r_aload_n (pc := 102) hC 0 dX10_laysWords_102 rfl rfl ?_
                refine r_aload_n (pc := 103) hC 0 dX10_laysWords_103 rfl rfl ?_
                refine r_getr (r := 8) (pc := 104) hC dX10_laysWords_104 fl_RX10_32 lM_0 rfl ?_
                refine r_iload_n (pc := 107) hC 2 dX10_laysWords_107 rfl rfl ?_
                refine r_iald (v := (m_likeOf_7 (Int.toNat x6))) (pc := 108) hC dX10_laysWords_108 lM_8 h.1.1 h.1.2 rfl ?_
                have h := h.2
                refine r_iload_n (pc := 109) hC 2 dX10_laysWords_109 rfl rfl ?_
                refine r_callVi (pc := 110) hC [aI (m_likeOf_7 (Int.toNat x6)), aI x6] [] dX10_laysWords_110 ml_RX10_185 my_X10_areAlikeWords mi_X10_areAlikeWords lM_0 rfl rfl ⟨Nat.le_of_ble_eq_true rfl, Nat.le_of_ble_eq_true rfl⟩ ⟨Nat.le_of_ble_eq_true rfl, Nat.le_of_ble_eq_true rfl⟩ (Nat.le_of_ble_eq_true rfl) rfl (s_M_areAlikeWords l _ _ _ _ h) (fun r8 w1 hq => ?_)
                obtain ⟨e9, h⟩ := hq
                rw [e9]
                refine r_if_ne (pc := 113) (tgt := 129) hC dX10_laysWords_113 rfl (fun hc1 => ?_) (fun hc1 => ?_)
                · have h := h.1 hc1
                  refine r_iinc (ls2 := [some (aR 0), none, some (aI (x6 + 1))]) (pc := 129) hC dX10_laysWords_129 rfl (by decide) rfl h.1 rfl ?_
                  have h := h.2
                  refine r_goto (tgt := 87) (pc := 132) hC dX10_laysWords_132 rfl ?_
                  exact r_to [true, false, true] rfl rfl (ih3 m_likeOf_7 (x6 + 1) (Nat.lt_of_lt_of_le h.2 (Nat.le_of_lt_succ hn3)) h.1)
                have h := h.2 hc1
                refine r_aload_n (pc := 116) hC 0 dX10_laysWords_116 rfl rfl ?_
                refine r_getr (r := 8) (pc := 117) hC dX10_laysWords_117 fl_RX10_32 lM_0 rfl ?_
                refine r_iload_n (pc := 120) hC 2 dX10_laysWords_120 rfl rfl ?_
                refine r_dup2 (pc := 121) hC dX10_laysWords_121 rfl rfl ?_
                refine r_iald (v := (m_likeOf_7 (Int.toNat x6))) (pc := 122) hC dX10_laysWords_122 lM_8 h.1.1 h.1.2 rfl ?_
                have h := h.2
                refine r_iconst (pc := 123) hC dX10_laysWords_123 (rng_lit rfl) ?_
                refine r_iadd (pc := 124) hC dX10_laysWords_124 h.1 ?_
                have h := h.2
                refine r_iast (pc := 125) hC dX10_laysWords_125 lM_8 h.1.1 h.1.2 ?_
                have h := h.2
                refine r_goto (tgt := 102) (pc := 126) hC dX10_laysWords_126 rfl ?_
                exact r_to [true, false, true] rfl rfl (ih4 (uI m_likeOf_7 x6 ((m_likeOf_7 (Int.toNat x6)) + 1)) (Nat.lt_of_lt_of_le h.2 (Nat.le_of_lt_succ hn4)) h.1)
            exact r_to [true, false, true] rfl rfl (S4 _ (uI m_likeOf_5 x6 0) (Nat.lt_succ_self _) hI4)
        exact r_to [true, false, true] rfl rfl (S3 _ (w.1 8) 0 (Nat.lt_succ_self _) hI3)
      refine r_ic_ge (pc := 12) (tgt := 85) hC dX10_laysWords_12 rfl (fun hc6 => ?_) (fun hc6 => ?_)
      · have h := h.1 hc6
        exact r_to [true, false, false] rfl rfl (S2 h)
      have h := h.2 hc6
      refine r_aload_n (pc := 15) hC 0 dX10_laysWords_15 rfl rfl ?_
      refine r_get (kd := 0) (v := m_words_3) (pc := 16) hC dX10_laysWords_16 fl_RX10_179 lM_0 rfl rfl ?_
      refine r_bipush (pc := 19) hC dX10_laysWords_19 ⟨rfl, rng_lit rfl⟩ ?_
      refine r_ic_ge (pc := 21) (tgt := 85) hC dX10_laysWords_21 rfl (fun hc5 => ?_) (fun hc5 => ?_)
      · have h := h.1 hc5
        exact r_to [true, false, false] rfl rfl (S2 h)
      have h := h.2 hc5
      refine r_aload_n (pc := 24) hC 0 dX10_laysWords_24 rfl rfl ?_
      refine r_iload_n (pc := 25) hC 1 dX10_laysWords_25 rfl rfl ?_
      refine r_callVi (pc := 26) hC [aI x4] [] dX10_laysWords_26 ml_RX10_182 my_X10_isLetter mi_X10_isLetter lM_0 rfl rfl ⟨Nat.le_of_ble_eq_true rfl, Nat.le_of_ble_eq_true rfl⟩ ⟨Nat.le_of_ble_eq_true rfl, Nat.le_of_ble_eq_true rfl⟩ (Nat.le_of_ble_eq_true rfl) rfl (s_M_isLetter l _ _ _ h) (fun r9 w1 hq => ?_)
      obtain ⟨e9, h⟩ := hq
      rw [e9]
      refine r_if_ne (pc := 29) (tgt := 38) hC dX10_laysWords_29 rfl (fun hc4 => ?_) (fun hc4 => ?_)
      · have h := h.1 hc4
        refine r_aload_n (pc := 38) hC 0 dX10_laysWords_38 rfl rfl ?_
        refine r_getr (r := 5) (pc := 39) hC dX10_laysWords_39 fl_RX10_23 lM_0 rfl ?_
        refine r_aload_n (pc := 42) hC 0 dX10_laysWords_42 rfl rfl ?_
        refine r_get (kd := 0) (v := m_words_3) (pc := 43) hC dX10_laysWords_43 fl_RX10_179 lM_0 rfl rfl ?_
        refine r_iload_n (pc := 46) hC 1 dX10_laysWords_46 rfl rfl ?_
        refine r_iast (pc := 47) hC dX10_laysWords_47 lM_5 h.1.1 h.1.2 ?_
        have h := h.2
        obtain ⟨I5, μ5, hI5, hB5⟩ := h
        have S5 : ∀ (nn : Nat) (x10 : Int), μ5 x10 < nn → I5 x10 → Wd p l e (rmD 4) s m args below meth c Q 0 0 3 D cA ad A LM (wI (wA (wA w 5 (uI m_wordFrom_1 m_words_3 x4)) 6 m_wordTo_2) 0 12 m_words_3) 48 [some (aR 0), some (aI x10), none] [] := by
          intro nn
          induction nn with
          | zero => intro x10 hn; exact absurd hn (Nat.not_lt_zero _)
          | succ nn ih5 =>
            intro x10 hn5 hi
            have h := hB5 x10 hi
            refine r_aload_n (pc := 48) hC 0 dX10_laysWords_48 rfl rfl ?_
            refine r_iload_n (pc := 49) hC 1 dX10_laysWords_49 rfl rfl ?_
            refine r_callVi (pc := 50) hC [aI x10] [] dX10_laysWords_50 ml_RX10_182 my_X10_isLetter mi_X10_isLetter lM_0 rfl rfl ⟨Nat.le_of_ble_eq_true rfl, Nat.le_of_ble_eq_true rfl⟩ ⟨Nat.le_of_ble_eq_true rfl, Nat.le_of_ble_eq_true rfl⟩ (Nat.le_of_ble_eq_true rfl) rfl (s_M_isLetter l _ _ _ h) (fun r11 w1 hq => ?_)
            obtain ⟨e9, h⟩ := hq
            rw [e9]
            refine r_if_eq (pc := 53) (tgt := 62) hC dX10_laysWords_53 rfl (fun hc3 => ?_) (fun hc3 => ?_)
            · have h := h.1 hc3
              refine r_aload_n (pc := 62) hC 0 dX10_laysWords_62 rfl rfl ?_
              refine r_getr (r := 6) (pc := 63) hC dX10_laysWords_63 fl_RX10_26 lM_0 rfl ?_
              refine r_aload_n (pc := 66) hC 0 dX10_laysWords_66 rfl rfl ?_
              refine r_get (kd := 0) (v := m_words_3) (pc := 67) hC dX10_laysWords_67 fl_RX10_179 lM_0 rfl rfl ?_
              refine r_iload_n (pc := 70) hC 1 dX10_laysWords_70 rfl rfl ?_
              refine r_iast (pc := 71) hC dX10_laysWords_71 lM_6 h.1.1 h.1.2 ?_
              have h := h.2
              refine r_aload_n (pc := 72) hC 0 dX10_laysWords_72 rfl rfl ?_
              refine r_dup (pc := 73) hC dX10_laysWords_73 rfl ?_
              refine r_get (kd := 0) (v := m_words_3) (pc := 74) hC dX10_laysWords_74 fl_RX10_179 lM_0 rfl rfl ?_
              refine r_iconst (pc := 77) hC dX10_laysWords_77 (rng_lit rfl) ?_
              refine r_iadd (pc := 78) hC dX10_laysWords_78 h.1 ?_
              have h := h.2
              refine r_put (kd := 0) (pc := 79) hC dX10_laysWords_79 pl_RX10_179 lM_0 rfl (by decide) (Or.inl rfl) ?_
              refine r_goto (tgt := 7) (pc := 82) hC dX10_laysWords_82 rfl ?_
              exact r_to [true, true, false] rfl rfl (ih1 (uI m_wordFrom_1 m_words_3 x4) (uI m_wordTo_2 m_words_3 x10) (m_words_3 + 1) x10 (Nat.lt_of_lt_of_le h.2 (Nat.le_of_lt_succ hn1)) h.1)
            have h := h.2 hc3
            refine r_iinc (ls2 := [some (aR 0), some (aI (x10 + 1)), none]) (pc := 56) hC dX10_laysWords_56 rfl (by decide) rfl h.1 rfl ?_
            have h := h.2
            refine r_goto (tgt := 48) (pc := 59) hC dX10_laysWords_59 rfl ?_
            exact r_to [true, true, false] rfl rfl (ih5 (x10 + 1) (Nat.lt_of_lt_of_le h.2 (Nat.le_of_lt_succ hn5)) h.1)
        exact r_to [true, true, false] rfl rfl (S5 _ x4 (Nat.lt_succ_self _) hI5)
      have h := h.2 hc4
      refine r_iinc (ls2 := [some (aR 0), some (aI (x4 + 1)), none]) (pc := 32) hC dX10_laysWords_32 rfl (by decide) rfl h.1 rfl ?_
      have h := h.2
      refine r_goto (tgt := 7) (pc := 35) hC dX10_laysWords_35 rfl ?_
      exact r_to [true, true, false] rfl rfl (ih1 m_wordFrom_1 m_wordTo_2 m_words_3 (x4 + 1) (Nat.lt_of_lt_of_le h.2 (Nat.le_of_lt_succ hn1)) h.1)
  exact r_to [true, true, false] rfl rfl (S1 _ (w.1 5) (w.1 6) 0 0 (Nat.lt_succ_self _) hI1)
