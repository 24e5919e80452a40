def wp_Search_findTooLike (sr_tooLike : (Nat → Int)) (pg_sentences : Int) (pg_lowWords : (Nat → Int64)) (pg_highWords : (Nat → Int64)) (a1 : Int) (Q : (Nat → Int) → Prop) : Prop := lpw2 (fun (sr_tooLike_1 : (Nat → Int)) (x2 : Int) (k1 : (Nat → Int) → Int → Prop) => (pg_sentences ≤ x2 → Q sr_tooLike_1) ∧ (¬ pg_sentences ≤ x2 → (0 ≤ x2 ∧ x2 < 14) ∧ (lpw2 (fun (sr_tooLike_3 : (Nat → Int)) (x4 : Int) (k2 : (Nat → Int) → Int → Prop) => (pg_sentences ≤ x4 → (rng (x2 + 1)) ∧ (k1 sr_tooLike_3 (x2 + 1))) ∧ (¬ pg_sentences ≤ x4 → jn1 (fun (J3 : (Nat → Int) → Prop) => (x4 = x2 → J3 sr_tooLike_3) ∧ (¬ x4 = x2 → wp_Page_inCommon pg_lowWords pg_highWords x2 x4 (fun (r6 : Int) => (r6 ≤ a1 → J3 sr_tooLike_3) ∧ (¬ r6 ≤ a1 → (0 ≤ x2 ∧ x2 < 14) ∧ ((0 ≤ x2 ∧ x2 < 14) ∧ (J3 (uI sr_tooLike_3 x2 (iOr (sr_tooLike_3 (Int.toNat x2)) (iShl 1 x4))))))))) (fun (sr_tooLike_5 : (Nat → Int)) => (rng (x4 + 1)) ∧ (k2 sr_tooLike_5 (x4 + 1))))) (uI sr_tooLike_1 x2 0) 0))) sr_tooLike 0
set_option maxHeartbeats 4000000 in
set_option maxRecDepth 20000 in
theorem s_Search_findTooLike (l : Launch) (w : St) (a1 : Int) (P : (Nat → Int) → Prop) (h : wp_Search_findTooLike (w.1 40) (w.1 3 17) (w.2 16) (w.2 17) a1 P) : Cn l yX4_findTooLike cX4_findTooLike 4 none 3 LX w [aR 39, aI a1] (okV (fun w1 => ∃ (o0 : (Nat → Int)), w1 = (wA w 40 o0) ∧ P o0)) := by
  unfold wp_Search_findTooLike at h
  refine Cn.of2 [some (aR 39), some (aI a1), none, none] (by decide) (Nat.le_of_ble_eq_true rfl) rfl (fun p e s m args below meth c D cA ad A Q hQ hC hr hk => ?_)
  refine r_iconst (pc := 0) hC dX4_findTooLike_0 (rng_lit rfl) ?_
  refine r_istore_n (ls2 := [some (aR 39), some (aI a1), some (aI 0), none]) (pc := 1) hC 2 dX4_findTooLike_1 rfl (by decide) rfl rfl ?_
  obtain ⟨I1, μ1, hI1, hB1⟩ := h
  have S1 : ∀ (nn : Nat) (sr_tooLike_1 : (Nat → Int)) (x2 : Int), μ1 sr_tooLike_1 x2 < nn → I1 sr_tooLike_1 x2 → Wd p l e (rmD 3) s m args below meth c Q 0 0 4 D cA ad A LX (wA w 40 sr_tooLike_1) 2 [some (aR 39), some (aI a1), some (aI x2), none] [] := by
    intro nn
    induction nn with
    | zero => intro sr_tooLike_1 x2 hn; exact absurd hn (Nat.not_lt_zero _)
    | succ nn ih1 =>
      intro sr_tooLike_1 x2 hn1 hi
      have h := hB1 sr_tooLike_1 x2 hi
      refine r_iload_n (pc := 2) hC 2 dX4_findTooLike_2 rfl rfl ?_
      refine r_aload_n (pc := 3) hC 0 dX4_findTooLike_3 rfl rfl ?_
      refine r_getr (r := 3) (pc := 4) hC dX4_findTooLike_4 fl_RX4_15 lX_39 rfl ?_
      refine r_get (kd := 0) (v := (w.1 3 17)) (pc := 7) hC dX4_findTooLike_7 fl_RX4_27 lX_3 rfl rfl ?_
      refine r_ic_ge (pc := 10) (tgt := 75) hC dX4_findTooLike_10 rfl (fun hc4 => ?_) (fun hc4 => ?_)
      · have h := h.1 hc4
        refine r_conv (w2 := (wA w 40 sr_tooLike_1)) rfl ?_
        exact r_retv (pc := 75) hC hQ dX4_findTooLike_75 hr hk ⟨sr_tooLike_1, rfl, h⟩
      have h := h.2 hc4
      refine r_aload_n (pc := 13) hC 0 dX4_findTooLike_13 rfl rfl ?_
      refine r_getr (r := 40) (pc := 14) hC dX4_findTooLike_14 fl_RX4_9 lX_39 rfl ?_
      refine r_iload_n (pc := 17) hC 2 dX4_findTooLike_17 rfl rfl ?_
      refine r_iconst (pc := 18) hC dX4_findTooLike_18 (rng_lit rfl) ?_
      refine r_iast (pc := 19) hC dX4_findTooLike_19 lX_40 h.1.1 h.1.2 ?_
      have h := h.2
      refine r_iconst (pc := 20) hC dX4_findTooLike_20 (rng_lit rfl) ?_
      refine r_istore_n (ls2 := [some (aR 39), some (aI a1), some (aI x2), some (aI 0)]) (pc := 21) hC 3 dX4_findTooLike_21 rfl (by decide) rfl rfl ?_
      obtain ⟨I2, μ2, hI2, hB2⟩ := h
      have S2 : ∀ (nn : Nat) (sr_tooLike_3 : (Nat → Int)) (x4 : Int), μ2 sr_tooLike_3 x4 < nn → I2 sr_tooLike_3 x4 → Wd p l e (rmD 3) s m args below meth c Q 0 0 4 D cA ad A LX (wA w 40 sr_tooLike_3) 22 [some (aR 39), some (aI a1), some (aI x2), some (aI x4)] [] := by
        intro nn
        induction nn with
        | zero => intro sr_tooLike_3 x4 hn; exact absurd hn (Nat.not_lt_zero _)
        | succ nn ih2 =>
          intro sr_tooLike_3 x4 hn2 hi
          have h := hB2 sr_tooLike_3 x4 hi
          refine r_iload_n (pc := 22) hC 3 dX4_findTooLike_22 rfl rfl ?_
          refine r_aload_n (pc := 23) hC 0 dX4_findTooLike_23 rfl rfl ?_
          refine r_getr (r := 3) (pc := 24) hC dX4_findTooLike_24 fl_RX4_15 lX_39 rfl ?_
          refine r_get (kd := 0) (v := (w.1 3 17)) (pc := 27) hC dX4_findTooLike_27 fl_RX4_27 lX_3 rfl rfl ?_
          refine r_ic_ge (pc := 30) (tgt := 69) hC dX4_findTooLike_30 rfl (fun hc3 => ?_) (fun hc3 => ?_)
          · have h := h.1 hc3
            refine r_iinc (ls2 := [some (aR 39), some (aI a1), some (aI (x2 + 1)), some (aI x4)]) (pc := 69) hC dX4_findTooLike_69 rfl (by decide) rfl h.1 rfl ?_
            have h := h.2
            refine r_goto (tgt := 2) (pc := 72) hC dX4_findTooLike_72 rfl ?_
            exact r_to [true, true, true, false] rfl rfl (ih1 sr_tooLike_3 (x2 + 1) (Nat.lt_of_lt_of_le h.2 (Nat.le_of_lt_succ hn1)) h.1)
          have h := h.2 hc3
          refine r_iload_n (pc := 33) hC 3 dX4_findTooLike_33 rfl rfl ?_
          refine r_iload_n (pc := 34) hC 2 dX4_findTooLike_34 rfl rfl ?_
          obtain ⟨J3, hJ3, h⟩ := h
          have S3 : ∀ (sr_tooLike_5 : (Nat → Int)), J3 sr_tooLike_5 → Wd p l e (rmD 3) s m args below meth c Q 0 0 4 D cA ad A LX (wA w 40 sr_tooLike_5) 63 [some (aR 39), some (aI a1), some (aI x2), some (aI x4)] [] := by
            intro sr_tooLike_5 hj
            have h := hJ3 sr_tooLike_5 hj
            refine r_iinc (ls2 := [some (aR 39), some (aI a1), some (aI x2), some (aI (x4 + 1))]) (pc := 63) hC dX4_findTooLike_63 rfl (by decide) rfl h.1 rfl ?_
            have h := h.2
            refine r_goto (tgt := 22) (pc := 66) hC dX4_findTooLike_66 rfl ?_
            exact r_to [true, true, true, true] rfl rfl (ih2 sr_tooLike_5 (x4 + 1) (Nat.lt_of_lt_of_le h.2 (Nat.le_of_lt_succ hn2)) h.1)
          refine r_ic_eq (pc := 35) (tgt := 63) hC dX4_findTooLike_35 rfl (fun hc2 => ?_) (fun hc2 => ?_)
          · have h := h.1 hc2
            exact r_to [true, true, true, true] rfl rfl (S3 sr_tooLike_3 h)
          have h := h.2 hc2
          refine r_aload_n (pc := 38) hC 0 dX4_findTooLike_38 rfl rfl ?_
          refine r_getr (r := 3) (pc := 39) hC dX4_findTooLike_39 fl_RX4_15 lX_39 rfl ?_
          refine r_iload_n (pc := 42) hC 2 dX4_findTooLike_42 rfl rfl ?_
          refine r_iload_n (pc := 43) hC 3 dX4_findTooLike_43 rfl rfl ?_
          refine r_callVi (pc := 44) hC [aI x2, aI x4] [] dX4_findTooLike_44 ml_RX4_33 my_X1_inCommon mi_X1_inCommon lX_3 rfl rfl ⟨Nat.le_of_ble_eq_true rfl, Nat.le_of_ble_eq_true rfl⟩ ⟨Nat.le_of_ble_eq_true rfl, Nat.le_of_ble_eq_true rfl⟩ (Nat.le_of_ble_eq_true rfl) rfl (s_Page_inCommon l _ _ _ _ h) (fun r6 w1 hq => ?_)
          obtain ⟨e9, h⟩ := hq
          rw [e9]
          refine r_iload_n (pc := 47) hC 1 dX4_findTooLike_47 rfl rfl ?_
          refine r_ic_le (pc := 48) (tgt := 63) hC dX4_findTooLike_48 rfl (fun hc1 => ?_) (fun hc1 => ?_)
          · have h := h.1 hc1
            exact r_to [true, true, true, true] rfl rfl (S3 sr_tooLike_3 h)
          have h := h.2 hc1
          refine r_aload_n (pc := 51) hC 0 dX4_findTooLike_51 rfl rfl ?_
          refine r_getr (r := 40) (pc := 52) hC dX4_findTooLike_52 fl_RX4_9 lX_39 rfl ?_
          refine r_iload_n (pc := 55) hC 2 dX4_findTooLike_55 rfl rfl ?_
          refine r_dup2 (pc := 56) hC dX4_findTooLike_56 rfl rfl ?_
          refine r_iald (v := (sr_tooLike_3 (Int.toNat x2))) (pc := 57) hC dX4_findTooLike_57 lX_40 h.1.1 h.1.2 rfl ?_
          have h := h.2
          refine r_iconst (pc := 58) hC dX4_findTooLike_58 (rng_lit rfl) ?_
          refine r_iload_n (pc := 59) hC 3 dX4_findTooLike_59 rfl rfl ?_
          refine r_ishl (pc := 60) hC dX4_findTooLike_60 ?_
          refine r_ior (pc := 61) hC dX4_findTooLike_61 ?_
          refine r_iast (pc := 62) hC dX4_findTooLike_62 lX_40 h.1.1 h.1.2 ?_
          have h := h.2
          exact r_to [true, true, true, true] rfl rfl (S3 (uI sr_tooLike_3 x2 (iOr (sr_tooLike_3 (Int.toNat x2)) (iShl 1 x4))) h)
      exact r_to [true, true, true, true] rfl rfl (S2 _ (uI sr_tooLike_1 x2 0) 0 (Nat.lt_succ_self _) hI2)
  exact r_to [true, true, true, false] rfl rfl (S1 _ (w.1 40) 0 (Nat.lt_succ_self _) hI1)
def wp_Search_areApart (sr_tooLike : (Nat → Int)) (pg_sentences : Int) (a1 : Int) (Q : Int → Prop) : Prop := lpw1 (fun (x1 : Int) (k1 : Int → Prop) => (pg_sentences ≤ x1 → Q 1) ∧ (¬ pg_sentences ≤ x1 → wp_Picker_has a1 x1 (fun (r2 : Int) => jn0 (fun (J2 : Prop) => (r2 = 0 → J2) ∧ (¬ r2 = 0 → (0 ≤ x1 ∧ x1 < 14) ∧ (((iAnd (sr_tooLike (Int.toNat x1)) a1) = 0 → J2) ∧ (¬ (iAnd (sr_tooLike (Int.toNat x1)) a1) = 0 → Q 0)))) ((rng (x1 + 1)) ∧ (k1 (x1 + 1)))))) 0
set_option maxHeartbeats 4000000 in
set_option maxRecDepth 20000 in
theorem s_Search_areApart (l : Launch) (w : St) (a1 : Int) (P : Int → Prop) (h : wp_Search_areApart (w.1 40) (w.1 3 17) a1 P) : Cn l yX4_areApart cX4_areApart 3 (some .boolean) 1 LX w [aR 39, aI a1] (okI (fun r w1 => w1 = w ∧ P r)) := by
  unfold wp_Search_areApart at h
  refine Cn.of2 [some (aR 39), some (aI a1), none] (by decide) (Nat.le_of_ble_eq_true rfl) rfl (fun p e s m args below meth c D cA ad A Q hQ hC hr hk => ?_)
  refine r_iconst (pc := 0) hC dX4_areApart_0 (rng_lit rfl) ?_
  refine r_istore_n (ls2 := [some (aR 39), some (aI a1), some (aI 0)]) (pc := 1) hC 2 dX4_areApart_1 rfl (by decide) rfl rfl ?_
  obtain ⟨I1, μ1, hI1, hB1⟩ := h
  have S1 : ∀ (nn : Nat) (x1 : Int), μ1 x1 < nn → I1 x1 → Wd p l e (rmD 1) s m args below meth c Q 0 0 3 D cA ad A LX w 2 [some (aR 39), some (aI a1), some (aI x1)] [] := by
    intro nn
    induction nn with
    | zero => intro x1 hn; exact absurd hn (Nat.not_lt_zero _)
    | succ nn ih1 =>
      intro x1 hn1 hi
      have h := hB1 x1 hi
      refine r_iload_n (pc := 2) hC 2 dX4_areApart_2 rfl rfl ?_
      refine r_aload_n (pc := 3) hC 0 dX4_areApart_3 rfl rfl ?_
      refine r_getr (r := 3) (pc := 4) hC dX4_areApart_4 fl_RX4_15 lX_39 rfl ?_
      refine r_get (kd := 0) (v := (w.1 3 17)) (pc := 7) hC dX4_areApart_7 fl_RX4_27 lX_3 rfl rfl ?_
      refine r_ic_ge (pc := 10) (tgt := 40) hC dX4_areApart_10 rfl (fun hc3 => ?_) (fun hc3 => ?_)
      · have h := h.1 hc3
        refine r_iconst (pc := 40) hC dX4_areApart_40 (rng_lit rfl) ?_
        exact r_reti (pc := 41) (kd := 1) hC hQ dX4_areApart_41 hr hk (by decide) (Or.inr okK1_1) ⟨rfl, h⟩
      have h := h.2 hc3
      refine r_iload_n (pc := 13) hC 1 dX4_areApart_13 rfl rfl ?_
      refine r_iload_n (pc := 14) hC 2 dX4_areApart_14 rfl rfl ?_
      refine r_callSNi (pc := 15) hC [aI a1, aI x1] [] dX4_areApart_15 nl_RX4_37 my_X9_has ms_X9_has rfl ⟨Nat.le_of_ble_eq_true rfl, Nat.le_of_ble_eq_true rfl⟩ ⟨Nat.le_of_ble_eq_true rfl, Nat.le_of_ble_eq_true rfl⟩ (Nat.le_of_ble_eq_true rfl) rfl (s_Picker_has l _ _ _ _ h) (fun r2 w1 hq => ?_)
      obtain ⟨e9, h⟩ := hq
      rw [e9]
      obtain ⟨J2, hJ2, h⟩ := h
      have S2 : J2 → Wd p l e (rmD 1) s m args below meth c Q 0 0 3 D cA ad A LX w 34 [some (aR 39), some (aI a1), some (aI x1)] [] := by
        intro hj
        have h := hJ2 hj
        refine r_iinc (ls2 := [some (aR 39), some (aI a1), some (aI (x1 + 1))]) (pc := 34) hC dX4_areApart_34 rfl (by decide) rfl h.1 rfl ?_
        have h := h.2
        refine r_goto (tgt := 2) (pc := 37) hC dX4_areApart_37 rfl ?_
        exact r_to [true, true, true] rfl rfl (ih1 (x1 + 1) (Nat.lt_of_lt_of_le h.2 (Nat.le_of_lt_succ hn1)) h.1)
      refine r_if_eq (pc := 18) (tgt := 34) hC dX4_areApart_18 rfl (fun hc2 => ?_) (fun hc2 => ?_)
      · have h := h.1 hc2
        exact r_to [true, true, true] rfl rfl (S2 h)
      have h := h.2 hc2
      refine r_aload_n (pc := 21) hC 0 dX4_areApart_21 rfl rfl ?_
      refine r_getr (r := 40) (pc := 22) hC dX4_areApart_22 fl_RX4_9 lX_39 rfl ?_
      refine r_iload_n (pc := 25) hC 2 dX4_areApart_25 rfl rfl ?_
      refine r_iald (v := ((w.1 40) (Int.toNat x1))) (pc := 26) hC dX4_areApart_26 lX_40 h.1.1 h.1.2 rfl ?_
      have h := h.2
      refine r_iload_n (pc := 27) hC 1 dX4_areApart_27 rfl rfl ?_
      refine r_iand (pc := 28) hC dX4_areApart_28 ?_
      refine r_if_eq (pc := 29) (tgt := 34) hC dX4_areApart_29 rfl (fun hc1 => ?_) (fun hc1 => ?_)
      · have h := h.1 hc1
        exact r_to [true, true, true] rfl rfl (S2 h)
      have h := h.2 hc1
      refine r_iconst (pc := 32) hC dX4_areApart_32 (rng_lit rfl) ?_
      exact r_reti (pc := 33) (kd := 1) hC hQ dX4_areApart_33 hr hk (by decide) (Or.inr okK1_0) ⟨rfl, h⟩
  exact r_to [true, true, true] rfl rfl (S1 _ 0 (Nat.lt_succ_self _) hI1)
def wp_Search_keepIfTop (sr_topSet : Int) (sr_topWorth : Int) (sr_topLength : Int) (a1 : Int) (a2 : Int) (a3 : Int) (Q : Int → Int → Int → Prop) : Prop := jn1 (fun (J1 : Int → Prop) => jn0 (fun (J3 : Prop) => (a3 < sr_topLength → J3) ∧ (¬ a3 < sr_topLength → jn0 (fun (J4 : Prop) => (¬ a3 = sr_topLength → J4) ∧ (a3 = sr_topLength → (sr_topSet ≤ a1 → J4) ∧ (¬ sr_topSet ≤ a1 → J3))) (J1 0))) (J1 1)) (fun (y1 : Int) => jn0 (fun (J2 : Prop) => (sr_topWorth < a2 → J2) ∧ (¬ sr_topWorth < a2 → (¬ a2 = sr_topWorth → Q sr_topSet sr_topWorth sr_topLength) ∧ (a2 = sr_topWorth → (y1 = 0 → Q sr_topSet sr_topWorth sr_topLength) ∧ (¬ y1 = 0 → J2)))) (Q a1 a2 a3))
set_option maxHeartbeats 4000000 in
set_option maxRecDepth 20000 in
theorem s_Search_keepIfTop (l : Launch) (w : St) (a1 : Int) (a2 : Int) (a3 : Int) (P : Int → Int → Int → Prop) (h : wp_Search_keepIfTop (w.1 39 7) (w.1 39 8) (w.1 39 9) a1 a2 a3 P) : Cn l yX4_keepIfTop cX4_keepIfTop 5 none 0 LX w [aR 39, aI a1, aI a2, aI a3] (okV (fun w1 => ∃ (o0 : Int) (o1 : Int) (o2 : Int), w1 = (wI (wI (wI w 39 7 o0) 39 8 o1) 39 9 o2) ∧ P o0 o1 o2)) := by
  unfold wp_Search_keepIfTop at h
  refine Cn.of2 [some (aR 39), some (aI a1), some (aI a2), some (aI a3), none] (by decide) (Nat.le_of_ble_eq_true rfl) rfl (fun p e s m args below meth c D cA ad A Q hQ hC hr hk => ?_)
  refine r_iload_n (pc := 0) hC 3 dX4_keepIfTop_0 rfl rfl ?_
  refine r_aload_n (pc := 1) hC 0 dX4_keepIfTop_1 rfl rfl ?_
  refine r_get (kd := 0) (v := (w.1 39 9)) (pc := 2) hC dX4_keepIfTop_2 fl_RX4_56 lX_39 rfl rfl ?_
  obtain ⟨J1, hJ1, h⟩ := h
  have S1 : ∀ (y1 : Int), J1 y1 → Wd p l e (rmD 0) s m args below meth c Q 0 0 5 D cA ad A LX w 29 [some (aR 39), some (aI a1), some (aI a2), some (aI a3), none] [aI y1] := by
    intro y1 hj
    have h := hJ1 y1 hj
    refine r_istore (ls2 := [some (aR 39), some (aI a1), some (aI a2), some (aI a3), some (aI y1)]) (pc := 29) hC dX4_keepIfTop_29 (by decide) rfl rfl ?_
    refine r_iload_n (pc := 31) hC 2 dX4_keepIfTop_31 rfl rfl ?_
    refine r_aload_n (pc := 32) hC 0 dX4_keepIfTop_32 rfl rfl ?_
    refine r_get (kd := 0) (v := (w.1 39 8)) (pc := 33) hC dX4_keepIfTop_33 fl_RX4_53 lX_39 rfl rfl ?_
    obtain ⟨J2, hJ2, h⟩ := h
    have S2 : J2 → Wd p l e (rmD 0) s m args below meth c Q 0 0 5 D cA ad A LX w 52 [some (aR 39), some (aI a1), some (aI a2), some (aI a3), none] [] := by
      intro hj
      have h := hJ2 hj
      refine r_aload_n (pc := 52) hC 0 dX4_keepIfTop_52 rfl rfl ?_
      refine r_iload_n (pc := 53) hC 1 dX4_keepIfTop_53 rfl rfl ?_
      refine r_put (kd := 0) (pc := 54) hC dX4_keepIfTop_54 pl_RX4_50 lX_39 rfl (by decide) (Or.inl rfl) ?_
      refine r_aload_n (pc := 57) hC 0 dX4_keepIfTop_57 rfl rfl ?_
      refine r_iload_n (pc := 58) hC 2 dX4_keepIfTop_58 rfl rfl ?_
      refine r_put (kd := 0) (pc := 59) hC dX4_keepIfTop_59 pl_RX4_53 lX_39 rfl (by decide) (Or.inl rfl) ?_
      refine r_aload_n (pc := 62) hC 0 dX4_keepIfTop_62 rfl rfl ?_
      refine r_iload_n (pc := 63) hC 3 dX4_keepIfTop_63 rfl rfl ?_
      refine r_put (kd := 0) (pc := 64) hC dX4_keepIfTop_64 pl_RX4_56 lX_39 rfl (by decide) (Or.inl rfl) ?_
      refine r_conv (w2 := (wI (wI (wI w 39 7 a1) 39 8 a2) 39 9 a3)) rfl ?_
      exact r_retv (pc := 67) hC hQ dX4_keepIfTop_67 hr hk ⟨a1, a2, a3, rfl, h⟩
    refine r_ic_gt (pc := 36) (tgt := 52) hC dX4_keepIfTop_36 rfl (fun hc3 => ?_) (fun hc3 => ?_)
    · have h := h.1 hc3
      exact r_to [true, true, true, true, false] rfl rfl (S2 h)
    have h := h.2 hc3
    refine r_iload_n (pc := 39) hC 2 dX4_keepIfTop_39 rfl rfl ?_
    refine r_aload_n (pc := 40) hC 0 dX4_keepIfTop_40 rfl rfl ?_
    refine r_get (kd := 0) (v := (w.1 39 8)) (pc := 41) hC dX4_keepIfTop_41 fl_RX4_53 lX_39 rfl rfl ?_
    refine r_ic_ne (pc := 44) (tgt := 67) hC dX4_keepIfTop_44 rfl (fun hc2 => ?_) (fun hc2 => ?_)
    · have h := h.1 hc2
      refine r_conv (w2 := (wI (wI (wI w 39 7 (w.1 39 7)) 39 8 (w.1 39 8)) 39 9 (w.1 39 9))) rfl ?_
      exact r_retv (pc := 67) hC hQ dX4_keepIfTop_67 hr hk ⟨(w.1 39 7), (w.1 39 8), (w.1 39 9), rfl, h⟩
    have h := h.2 hc2
    refine r_iload (pc := 47) hC dX4_keepIfTop_47 rfl ?_
    refine r_if_eq (pc := 49) (tgt := 67) hC dX4_keepIfTop_49 rfl (fun hc1 => ?_) (fun hc1 => ?_)
    · have h := h.1 hc1
      refine r_conv (w2 := (wI (wI (wI w 39 7 (w.1 39 7)) 39 8 (w.1 39 8)) 39 9 (w.1 39 9))) rfl ?_
      exact r_retv (pc := 67) hC hQ dX4_keepIfTop_67 hr hk ⟨(w.1 39 7), (w.1 39 8), (w.1 39 9), rfl, h⟩
    have h := h.2 hc1
    exact r_to [true, true, true, true, false] rfl rfl (S2 h)
  obtain ⟨J3, hJ3, h⟩ := h
  have S3 : J3 → Wd p l e (rmD 0) s m args below meth c Q 0 0 5 D cA ad A LX w 24 [some (aR 39), some (aI a1), some (aI a2), some (aI a3), none] [] := by
    intro hj
    have h := hJ3 hj
    refine r_iconst (pc := 24) hC dX4_keepIfTop_24 (rng_lit rfl) ?_
    refine r_goto (tgt := 29) (pc := 25) hC dX4_keepIfTop_25 rfl ?_
    exact r_to [true, true, true, true, false] rfl rfl (S1 1 h)
  refine r_ic_lt (pc := 5) (tgt := 24) hC dX4_keepIfTop_5 rfl (fun hc6 => ?_) (fun hc6 => ?_)
  · have h := h.1 hc6
    exact r_to [true, true, true, true, false] rfl rfl (S3 h)
  have h := h.2 hc6
  refine r_iload_n (pc := 8) hC 3 dX4_keepIfTop_8 rfl rfl ?_
  refine r_aload_n (pc := 9) hC 0 dX4_keepIfTop_9 rfl rfl ?_
  refine r_get (kd := 0) (v := (w.1 39 9)) (pc := 10) hC dX4_keepIfTop_10 fl_RX4_56 lX_39 rfl rfl ?_
  obtain ⟨J4, hJ4, h⟩ := h
  have S4 : J4 → Wd p l e (rmD 0) s m args below meth c Q 0 0 5 D cA ad A LX w 28 [some (aR 39), some (aI a1), some (aI a2), some (aI a3), none] [] := by
    intro hj
    have h := hJ4 hj
    refine r_iconst (pc := 28) hC dX4_keepIfTop_28 (rng_lit rfl) ?_
    exact r_to [true, true, true, true, false] rfl rfl (S1 0 h)
  refine r_ic_ne (pc := 13) (tgt := 28) hC dX4_keepIfTop_13 rfl (fun hc5 => ?_) (fun hc5 => ?_)
  · have h := h.1 hc5
    exact r_to [true, true, true, true, false] rfl rfl (S4 h)
  have h := h.2 hc5
  refine r_iload_n (pc := 16) hC 1 dX4_keepIfTop_16 rfl rfl ?_
  refine r_aload_n (pc := 17) hC 0 dX4_keepIfTop_17 rfl rfl ?_
  refine r_get (kd := 0) (v := (w.1 39 7)) (pc := 18) hC dX4_keepIfTop_18 fl_RX4_50 lX_39 rfl rfl ?_
  refine r_ic_ge (pc := 21) (tgt := 28) hC dX4_keepIfTop_21 rfl (fun hc4 => ?_) (fun hc4 => ?_)
  · have h := h.1 hc4
    exact r_to [true, true, true, true, false] rfl rfl (S4 h)
  have h := h.2 hc4
  exact r_to [true, true, true, true, false] rfl rfl (S3 h)
def wp_Search_extend : Nat → (Nat → Int) → (Nat → Int) → (Nat → Int) → Int → Int → Int → Int → Int → Int → Int → Int → (Nat → Int64) → Int → Int64 → Int → Int → Int → (Int → Int → Int → Prop) → Prop
  | 0 => fun _ _ _ _ _ _ _ _ _ _ _ _ _ _ _ _ _ _ => False
  | n + 1 => fun pg_sentenceSigns qy_weights sr_tooLike pg_sentences qy_items sr_most sr_room sr_enough sr_topSet sr_topWorth sr_topLength mt_tallies a1 a2 a4 a5 a6 Q => wp_JI_bitCount a1 (fun (r1 : Int) => (r1 < sr_most → lpw4 (fun (sr_topSet_2 : Int) (sr_topWorth_3 : Int) (sr_topLength_4 : Int) (x5 : Int) (k1 : Int → Int → Int → Int → Prop) => (pg_sentences ≤ x5 → Q sr_topSet_2 sr_topWorth_3 sr_topLength_4) ∧ (¬ pg_sentences ≤ x5 → wp_Page_lengthOf pg_sentenceSigns x5 (fun (r6 : Int) => (rng (a4 + r6)) ∧ (wp_Picker_has a5 x5 (fun (r7 : Int) => jn3 (fun (J2 : Int → Int → Int → Prop) => (r7 = 0 → J2 sr_topSet_2 sr_topWorth_3 sr_topLength_4) ∧ (¬ r7 = 0 → (sr_room < (a4 + r6) → J2 sr_topSet_2 sr_topWorth_3 sr_topLength_4) ∧ (¬ sr_room < (a4 + r6) → (0 ≤ x5 ∧ x5 < 14) ∧ (wp_Query_worthOf qy_weights qy_items (a2 + (mt_tallies (Int.toNat x5))) (fun (r11 : Int) => wp_Search_keepIfTop sr_topSet_2 sr_topWorth_3 sr_topLength_4 (iOr a1 (iShl 1 x5)) (min r11 sr_enough) (a4 + r6) (fun (sr_topSet_12 : Int) (sr_topWorth_13 : Int) (sr_topLength_14 : Int) => (0 ≤ x5 ∧ x5 < 14) ∧ ((rng (x5 + 1)) ∧ (wp_Search_extend n pg_sentenceSigns qy_weights sr_tooLike pg_sentences qy_items sr_most sr_room sr_enough sr_topSet_12 sr_topWorth_13 sr_topLength_14 mt_tallies (iOr a1 (iShl 1 x5)) (a2 + (mt_tallies (Int.toNat x5))) (a4 + r6) (iAnd a5 (iXor (sr_tooLike (Int.toNat x5)) (-1))) (x5 + 1) (fun (sr_topSet_15 : Int) (sr_topWorth_16 : Int) (sr_topLength_17 : Int) => J2 sr_topSet_15 sr_topWorth_16 sr_topLength_17))))))))) (fun (sr_topSet_8 : Int) (sr_topWorth_9 : Int) (sr_topLength_10 : Int) => (rng (x5 + 1)) ∧ (k1 sr_topSet_8 sr_topWorth_9 sr_topLength_10 (x5 + 1)))))))) sr_topSet sr_topWorth sr_topLength a6) ∧ (¬ r1 < sr_most → Q sr_topSet sr_topWorth sr_topLength))
set_option maxHeartbeats 4000000 in
set_option maxRecDepth 20000 in
theorem s_Search_extend (l : Launch) : ∀ (n : Nat) (w : St) (a1 : Int) (a2 : Int64) (a4 : Int) (a5 : Int) (a6 : Int) (P : Int → Int → Int → Prop), wp_Search_extend n (w.1 13) (w.1 19) (w.1 40) (w.1 3 17) (w.1 18 6) (w.1 39 4) (w.1 39 5) (w.1 39 6) (w.1 39 7) (w.1 39 8) (w.1 39 9) (w.2 33) a1 a2 a4 a5 a6 P → Cn l yX4_extend cX4_extend 12 none (2 + n) LX w [aR 39, aI a1, aL a2, aI a4, aI a5, aI a6] (okV (fun w1 => ∃ (o0 : Int) (o1 : Int) (o2 : Int), w1 = (wI (wI (wI w 39 7 o0) 39 8 o1) 39 9 o2) ∧ P o0 o1 o2)) := by
  intro n
  induction n with
  | zero => intro w a1 a2 a4 a5 a6 P h; exact absurd h (fun q => q)
  | succ n ihr =>
    intro w a1 a2 a4 a5 a6 P h
    refine Cn.of2 [some (aR 39), some (aI a1), some (aL a2), none, some (aI a4), some (aI a5), some (aI a6), none, none, none, none, none] (by decide) (Nat.le_of_ble_eq_true rfl) rfl (fun p e s m args below meth c D cA ad A Q hQ hC hr hk => ?_)
    unfold wp_Search_extend at h
    refine r_iload_n (pc := 0) hC 1 dX4_extend_0 rfl rfl ?_
    refine r_callSi (pc := 1) hC [aI a1] [] dX4_extend_1 ml_RX4_63 my_J6_bitCount_0f7a4 ms_J6_bitCount_0f7a4 rfl ⟨by simp only [rmD]; omega, by simp only [rmD]; omega⟩ ⟨Nat.le_of_ble_eq_true rfl, Nat.le_of_ble_eq_true rfl⟩ (Nat.le_of_ble_eq_true rfl) rfl (s_JI_bitCount l _ _ _ h) (fun r1 w1 hq => ?_)
    obtain ⟨e9, h⟩ := hq
    rw [e9]
    refine r_aload_n (pc := 4) hC 0 dX4_extend_4 rfl rfl ?_
    refine r_get (kd := 0) (v := (w.1 39 4)) (pc := 5) hC dX4_extend_5 fl_RX4_41 lX_39 rfl rfl ?_
    refine r_ic_lt (pc := 8) (tgt := 12) hC dX4_extend_8 rfl (fun hc4 => ?_) (fun hc4 => ?_)
    · have h := h.1 hc4
      refine r_iload (pc := 12) hC dX4_extend_12 rfl ?_
      refine r_istore (ls2 := [some (aR 39), some (aI a1), some (aL a2), none, some (aI a4), some (aI a5), some (aI a6), some (aI a6), none, none, none, none]) (pc := 14) hC dX4_extend_14 (by decide) rfl rfl ?_
      obtain ⟨I1, μ1, hI1, hB1⟩ := h
      have S1 : ∀ (nn : Nat) (sr_topSet_2 : Int) (sr_topWorth_3 : Int) (sr_topLength_4 : Int) (x5 : Int), μ1 sr_topSet_2 sr_topWorth_3 sr_topLength_4 x5 < nn → I1 sr_topSet_2 sr_topWorth_3 sr_topLength_4 x5 → Wd p l e (rmD (2 + (n + 1))) s m args below meth c Q 0 0 12 D cA ad A LX (wI (wI (wI w 39 7 sr_topSet_2) 39 8 sr_topWorth_3) 39 9 sr_topLength_4) 16 [some (aR 39), some (aI a1), some (aL a2), none, some (aI a4), some (aI a5), none, some (aI x5), none, none, none, none] [] := by
        intro nn
        induction nn with
        | zero => intro sr_topSet_2 sr_topWorth_3 sr_topLength_4 x5 hn; exact absurd hn (Nat.not_lt_zero _)
        | succ nn ih1 =>
          intro sr_topSet_2 sr_topWorth_3 sr_topLength_4 x5 hn1 hi
          have h := hB1 sr_topSet_2 sr_topWorth_3 sr_topLength_4 x5 hi
          refine r_iload (pc := 16) hC dX4_extend_16 rfl ?_
          refine r_aload_n (pc := 18) hC 0 dX4_extend_18 rfl rfl ?_
          refine r_getr (r := 3) (pc := 19) hC dX4_extend_19 fl_RX4_15 lX_39 rfl ?_
          refine r_get (kd := 0) (v := (w.1 3 17)) (pc := 22) hC dX4_extend_22 fl_RX4_27 lX_3 rfl rfl ?_
          refine r_ic_ge (pc := 25) (tgt := 139) hC dX4_extend_25 rfl (fun hc3 => ?_) (fun hc3 => ?_)
          · have h := h.1 hc3
            refine r_conv (w2 := (wI (wI (wI w 39 7 sr_topSet_2) 39 8 sr_topWorth_3) 39 9 sr_topLength_4)) rfl ?_
            exact r_retv (pc := 139) hC hQ dX4_extend_139 hr hk ⟨sr_topSet_2, sr_topWorth_3, sr_topLength_4, rfl, h⟩
          have h := h.2 hc3
          refine r_iload (pc := 28) hC dX4_extend_28 rfl ?_
          refine r_aload_n (pc := 30) hC 0 dX4_extend_30 rfl rfl ?_
          refine r_getr (r := 3) (pc := 31) hC dX4_extend_31 fl_RX4_15 lX_39 rfl ?_
          refine r_iload (pc := 34) hC dX4_extend_34 rfl ?_
          refine r_callVi (pc := 36) hC [aI x5] [aI a4] dX4_extend_36 ml_RX4_69 my_X1_lengthOf mi_X1_lengthOf lX_3 rfl rfl ⟨by simp only [rmD]; omega, by simp only [rmD]; omega⟩ ⟨Nat.le_of_ble_eq_true rfl, Nat.le_of_ble_eq_true rfl⟩ (Nat.le_of_ble_eq_true rfl) rfl (s_Page_lengthOf l _ _ _ h) (fun r6 w1 hq => ?_)
          obtain ⟨e9, h⟩ := hq
          rw [e9]
          refine r_iadd (pc := 39) hC dX4_extend_39 h.1 ?_
          have h := h.2
          refine r_istore (ls2 := [some (aR 39), some (aI a1), some (aL a2), none, some (aI a4), some (aI a5), none, some (aI x5), some (aI (a4 + r6)), none, none, none]) (pc := 40) hC dX4_extend_40 (by decide) rfl rfl ?_
          refine r_iload (pc := 42) hC dX4_extend_42 rfl ?_
          refine r_iload (pc := 44) hC dX4_extend_44 rfl ?_
          refine r_callSNi (pc := 46) hC [aI a5, aI x5] [] dX4_extend_46 nl_RX4_37 my_X9_has ms_X9_has rfl ⟨by simp only [rmD]; omega, by simp only [rmD]; omega⟩ ⟨Nat.le_of_ble_eq_true rfl, Nat.le_of_ble_eq_true rfl⟩ (Nat.le_of_ble_eq_true rfl) rfl (s_Picker_has l _ _ _ _ h) (fun r7 w1 hq => ?_)
          obtain ⟨e9, h⟩ := hq
          rw [e9]
          obtain ⟨J2, hJ2, h⟩ := h
          have S2 : ∀ (sr_topSet_8 : Int) (sr_topWorth_9 : Int) (sr_topLength_10 : Int), J2 sr_topSet_8 sr_topWorth_9 sr_topLength_10 → Wd p l e (rmD (2 + (n + 1))) s m args below meth c Q 0 0 12 D cA ad A LX (wI (wI (wI w 39 7 sr_topSet_8) 39 8 sr_topWorth_9) 39 9 sr_topLength_10) 133 [some (aR 39), some (aI a1), some (aL a2), none, some (aI a4), some (aI a5), none, some (aI x5), none, none, none, none] [] := by
            intro sr_topSet_8 sr_topWorth_9 sr_topLength_10 hj
            have h := hJ2 sr_topSet_8 sr_topWorth_9 sr_topLength_10 hj
            refine r_iinc (ls2 := [some (aR 39), some (aI a1), some (aL a2), none, some (aI a4), some (aI a5), none, some (aI (x5 + 1)), none, none, none, none]) (pc := 133) hC dX4_extend_133 rfl (by decide) rfl h.1 rfl ?_
            have h := h.2
            refine r_goto (tgt := 16) (pc := 136) hC dX4_extend_136 rfl ?_
            exact r_to [true, true, true, false, true, true, false, true, false, false, false, false] rfl rfl (ih1 sr_topSet_8 sr_topWorth_9 sr_topLength_10 (x5 + 1) (Nat.lt_of_lt_of_le h.2 (Nat.le_of_lt_succ hn1)) h.1)
          refine r_if_eq (pc := 49) (tgt := 133) hC dX4_extend_49 rfl (fun hc2 => ?_) (fun hc2 => ?_)
          · have h := h.1 hc2
            exact r_to [true, true, true, false, true, true, false, true, false, false, false, false] rfl rfl (S2 sr_topSet_2 sr_topWorth_3 sr_topLength_4 h)
          have h := h.2 hc2
          refine r_iload (pc := 52) hC dX4_extend_52 rfl ?_
          refine r_aload_n (pc := 54) hC 0 dX4_extend_54 rfl rfl ?_
          refine r_get (kd := 0) (v := (w.1 39 5)) (pc := 55) hC dX4_extend_55 fl_RX4_44 lX_39 rfl rfl ?_
          refine r_ic_gt (pc := 58) (tgt := 133) hC dX4_extend_58 rfl (fun hc1 => ?_) (fun hc1 => ?_)
          · have h := h.1 hc1
            exact r_to [true, true, true, false, true, true, false, true, false, false, false, false] rfl rfl (S2 sr_topSet_2 sr_topWorth_3 sr_topLength_4 h)
          have h := h.2 hc1
          refine r_iload_n (pc := 61) hC 1 dX4_extend_61 rfl rfl ?_
          refine r_iconst (pc := 62) hC dX4_extend_62 (rng_lit rfl) ?_
          refine r_iload (pc := 63) hC dX4_extend_63 rfl ?_
          refine r_ishl (pc := 65) hC dX4_extend_65 ?_
          refine r_ior (pc := 66) hC dX4_extend_66 ?_
          refine r_istore (ls2 := [some (aR 39), some (aI a1), some (aL a2), none, some (aI a4), some (aI a5), none, some (aI x5), some (aI (a4 + r6)), some (aI (iOr a1 (iShl 1 x5))), none, none]) (pc := 67) hC dX4_extend_67 (by decide) rfl rfl ?_
          refine r_lload_n (pc := 69) hC 2 dX4_extend_69 rfl rfl ?_
          refine r_aload_n (pc := 70) hC 0 dX4_extend_70 rfl rfl ?_
          refine r_getr (r := 29) (pc := 71) hC dX4_extend_71 fl_RX4_23 lX_39 rfl ?_
          refine r_getr (r := 33) (pc := 74) hC dX4_extend_74 fl_RX4_72 lX_29 rfl ?_
          refine r_iload (pc := 77) hC dX4_extend_77 rfl ?_
          refine r_lald (v := ((w.2 33) (Int.toNat x5))) (pc := 79) hC dX4_extend_79 lX_33 h.1.1 h.1.2 rfl ?_
          have h := h.2
          refine r_ladd (pc := 80) hC dX4_extend_80 ?_
          refine r_lstore (ls2 := [some (aR 39), some (aI a1), some (aL a2), none, some (aI a4), some (aI a5), none, some (aI x5), some (aI (a4 + r6)), some (aI (iOr a1 (iShl 1 x5))), some (aL (a2 + ((w.2 33) (Int.toNat x5)))), none]) (pc := 81) hC dX4_extend_81 (by decide) rfl rfl ?_
          refine r_aload_n (pc := 83) hC 0 dX4_extend_83 rfl rfl ?_
          refine r_iload (pc := 84) hC dX4_extend_84 rfl ?_
          refine r_aload_n (pc := 86) hC 0 dX4_extend_86 rfl rfl ?_
          refine r_getr (r := 18) (pc := 87) hC dX4_extend_87 fl_RX4_19 lX_39 rfl ?_
          refine r_lload (pc := 90) hC dX4_extend_90 rfl ?_
          refine r_callVi (pc := 92) hC [aL (a2 + ((w.2 33) (Int.toNat x5)))] [aI (iOr a1 (iShl 1 x5)), aR 39] dX4_extend_92 ml_RX4_78 my_X2_worthOf mi_X2_worthOf lX_18 rfl rfl ⟨by simp only [rmD]; omega, by simp only [rmD]; omega⟩ ⟨Nat.le_of_ble_eq_true rfl, Nat.le_of_ble_eq_true rfl⟩ (Nat.le_of_ble_eq_true rfl) rfl (s_Query_worthOf l _ _ _ h) (fun r11 w1 hq => ?_)
          obtain ⟨e9, h⟩ := hq
          rw [e9]
          refine r_aload_n (pc := 95) hC 0 dX4_extend_95 rfl rfl ?_
          refine r_get (kd := 0) (v := (w.1 39 6)) (pc := 96) hC dX4_extend_96 fl_RX4_47 lX_39 rfl rfl ?_
          refine r_min (pc := 99) hC dX4_extend_99 ml_RX4_84 ks_min ks_Math kd_min ⟨Nat.le_of_ble_eq_true rfl, Nat.le_of_ble_eq_true rfl⟩ ⟨Nat.le_of_ble_eq_true rfl, Nat.le_of_ble_eq_true rfl⟩ (Nat.le_of_ble_eq_true rfl) ?_
          refine r_iload (pc := 102) hC dX4_extend_102 rfl ?_
          refine r_callVv (pc := 104) hC [aI (iOr a1 (iShl 1 x5)), aI (min r11 (w.1 39 6)), aI (a4 + r6)] [] dX4_extend_104 ml_RX4_89 my_X4_keepIfTop mi_X4_keepIfTop lX_39 rfl rfl ⟨by simp only [rmD]; omega, by simp only [rmD]; omega⟩ ⟨Nat.le_of_ble_eq_true rfl, Nat.le_of_ble_eq_true rfl⟩ (Nat.le_of_ble_eq_true rfl) rfl (s_Search_keepIfTop l _ _ _ _ _ h) (fun w1 hq => ?_)
          obtain ⟨sr_topSet_12, sr_topWorth_13, sr_topLength_14, e9, h⟩ := hq
          rw [e9]
          refine r_aload_n (pc := 107) hC 0 dX4_extend_107 rfl rfl ?_
          refine r_iload (pc := 108) hC dX4_extend_108 rfl ?_
          refine r_lload (pc := 110) hC dX4_extend_110 rfl ?_
          refine r_iload (pc := 112) hC dX4_extend_112 rfl ?_
          refine r_iload (pc := 114) hC dX4_extend_114 rfl ?_
          refine r_aload_n (pc := 116) hC 0 dX4_extend_116 rfl rfl ?_
          refine r_getr (r := 40) (pc := 117) hC dX4_extend_117 fl_RX4_9 lX_39 rfl ?_
          refine r_iload (pc := 120) hC dX4_extend_120 rfl ?_
          refine r_iald (v := ((w.1 40) (Int.toNat x5))) (pc := 122) hC dX4_extend_122 lX_40 h.1.1 h.1.2 rfl ?_
          have h := h.2
          refine r_iconst (pc := 123) hC dX4_extend_123 (rng_lit rfl) ?_
          refine r_ixor (pc := 124) hC dX4_extend_124 ?_
          refine r_iand (pc := 125) hC dX4_extend_125 ?_
          refine r_iload (pc := 126) hC dX4_extend_126 rfl ?_
          refine r_iconst (pc := 128) hC dX4_extend_128 (rng_lit rfl) ?_
          refine r_iadd (pc := 129) hC dX4_extend_129 h.1 ?_
          have h := h.2
          refine r_callVv (pc := 130) hC [aI (iOr a1 (iShl 1 x5)), aL (a2 + ((w.2 33) (Int.toNat x5))), aI (a4 + r6), aI (iAnd a5 (iXor ((w.1 40) (Int.toNat x5)) (-1))), aI (x5 + 1)] [] dX4_extend_130 ml_RX4_59 my_X4_extend mi_X4_extend lX_39 rfl rfl ⟨by simp only [rmD]; omega, by simp only [rmD]; omega⟩ ⟨Nat.le_of_ble_eq_true rfl, Nat.le_of_ble_eq_true rfl⟩ (Nat.le_of_ble_eq_true rfl) rfl (ihr _ _ _ _ _ _ _ h) (fun w1 hq => ?_)
          obtain ⟨sr_topSet_15, sr_topWorth_16, sr_topLength_17, e9, h⟩ := hq
          rw [e9]
          exact r_to [true, true, true, false, true, true, false, true, false, false, false, false] rfl rfl (S2 sr_topSet_15 sr_topWorth_16 sr_topLength_17 h)
      exact r_to [true, true, true, false, true, true, false, true, false, false, false, false] rfl rfl (S1 _ (w.1 39 7) (w.1 39 8) (w.1 39 9) a6 (Nat.lt_succ_self _) hI1)
    have h := h.2 hc4
    refine r_conv (w2 := (wI (wI (wI w 39 7 (w.1 39 7)) 39 8 (w.1 39 8)) 39 9 (w.1 39 9))) rfl ?_
    exact r_retv (pc := 11) hC hQ dX4_extend_11 hr hk ⟨(w.1 39 7), (w.1 39 8), (w.1 39 9), rfl, h⟩
def wp_Search_seekTop (pg_sentenceSigns : (Nat → Int)) (qy_weights : (Nat → Int)) (sr_tooLike : (Nat → Int)) (pg_sentences : Int) (qy_items : Int) (sr_most : Int) (sr_room : Int) (sr_enough : Int) (sr_topSet : Int) (sr_topWorth : Int) (sr_topLength : Int) (mt_tallies : (Nat → Int64)) (a1 : Int) (a2 : Int) (a3 : Int) (a4 : Int) (Q : Int → Int → Int → Int → Int → Int → Prop) : Prop := wp_Search_extend 7 pg_sentenceSigns qy_weights sr_tooLike pg_sentences qy_items a2 a3 a4 0 0 0 mt_tallies 0 0 0 a1 0 (fun (sr_topSet_1 : Int) (sr_topWorth_2 : Int) (sr_topLength_3 : Int) => Q a2 a3 a4 sr_topSet_1 sr_topWorth_2 sr_topLength_3)
set_option maxHeartbeats 4000000 in
set_option maxRecDepth 20000 in
theorem s_Search_seekTop (l : Launch) (w : St) (a1 : Int) (a2 : Int) (a3 : Int) (a4 : Int) (P : Int → Int → Int → Int → Int → Int → Prop) (h : wp_Search_seekTop (w.1 13) (w.1 19) (w.1 40) (w.1 3 17) (w.1 18 6) (w.1 39 4) (w.1 39 5) (w.1 39 6) (w.1 39 7) (w.1 39 8) (w.1 39 9) (w.2 33) a1 a2 a3 a4 P) : Cn l yX4_seekTop cX4_seekTop 5 none 10 LX w [aR 39, aI a1, aI a2, aI a3, aI a4] (okV (fun w1 => ∃ (o0 : Int) (o1 : Int) (o2 : Int) (o3 : Int) (o4 : Int) (o5 : Int), w1 = (wI (wI (wI (wI (wI (wI w 39 4 o0) 39 5 o1) 39 6 o2) 39 7 o3) 39 8 o4) 39 9 o5) ∧ P o0 o1 o2 o3 o4 o5)) := by
  unfold wp_Search_seekTop at h
  refine Cn.of2 [some (aR 39), some (aI a1), some (aI a2), some (aI a3), some (aI a4)] (by decide) (Nat.le_of_ble_eq_true rfl) rfl (fun p e s m args below meth c D cA ad A Q hQ hC hr hk => ?_)
  refine r_aload_n (pc := 0) hC 0 dX4_seekTop_0 rfl rfl ?_
  refine r_iload_n (pc := 1) hC 2 dX4_seekTop_1 rfl rfl ?_
  refine r_put (kd := 0) (pc := 2) hC dX4_seekTop_2 pl_RX4_41 lX_39 rfl (by decide) (Or.inl rfl) ?_
  refine r_aload_n (pc := 5) hC 0 dX4_seekTop_5 rfl rfl ?_
  refine r_iload_n (pc := 6) hC 3 dX4_seekTop_6 rfl rfl ?_
  refine r_put (kd := 0) (pc := 7) hC dX4_seekTop_7 pl_RX4_44 lX_39 rfl (by decide) (Or.inl rfl) ?_
  refine r_aload_n (pc := 10) hC 0 dX4_seekTop_10 rfl rfl ?_
  refine r_iload (pc := 11) hC dX4_seekTop_11 rfl ?_
  refine r_put (kd := 0) (pc := 13) hC dX4_seekTop_13 pl_RX4_47 lX_39 rfl (by decide) (Or.inl rfl) ?_
  refine r_aload_n (pc := 16) hC 0 dX4_seekTop_16 rfl rfl ?_
  refine r_iconst (pc := 17) hC dX4_seekTop_17 (rng_lit rfl) ?_
  refine r_put (kd := 0) (pc := 18) hC dX4_seekTop_18 pl_RX4_50 lX_39 rfl (by decide) (Or.inl rfl) ?_
  refine r_aload_n (pc := 21) hC 0 dX4_seekTop_21 rfl rfl ?_
  refine r_iconst (pc := 22) hC dX4_seekTop_22 (rng_lit rfl) ?_
  refine r_put (kd := 0) (pc := 23) hC dX4_seekTop_23 pl_RX4_53 lX_39 rfl (by decide) (Or.inl rfl) ?_
  refine r_aload_n (pc := 26) hC 0 dX4_seekTop_26 rfl rfl ?_
  refine r_iconst (pc := 27) hC dX4_seekTop_27 (rng_lit rfl) ?_
  refine r_put (kd := 0) (pc := 28) hC dX4_seekTop_28 pl_RX4_56 lX_39 rfl (by decide) (Or.inl rfl) ?_
  refine r_aload_n (pc := 31) hC 0 dX4_seekTop_31 rfl rfl ?_
  refine r_iconst (pc := 32) hC dX4_seekTop_32 (rng_lit rfl) ?_
  refine r_lconst (x := 0) (pc := 33) hC dX4_seekTop_33 rfl ?_
  refine r_iconst (pc := 34) hC dX4_seekTop_34 (rng_lit rfl) ?_
  refine r_iload_n (pc := 35) hC 1 dX4_seekTop_35 rfl rfl ?_
  refine r_iconst (pc := 36) hC dX4_seekTop_36 (rng_lit rfl) ?_
  refine r_callVv (pc := 37) hC [aI 0, aL 0, aI 0, aI a1, aI 0] [] dX4_seekTop_37 ml_RX4_59 my_X4_extend mi_X4_extend lX_39 rfl rfl ⟨Nat.le_of_ble_eq_true rfl, Nat.le_of_ble_eq_true rfl⟩ ⟨Nat.le_of_ble_eq_true rfl, Nat.le_of_ble_eq_true rfl⟩ (Nat.le_of_ble_eq_true rfl) rfl (s_Search_extend l 7 _ _ _ _ _ _ _ h) (fun w1 hq => ?_)
  obtain ⟨sr_topSet_1, sr_topWorth_2, sr_topLength_3, e9, h⟩ := hq
  rw [e9]
  refine r_conv (w2 := (wI (wI (wI (wI (wI (wI w 39 4 a2) 39 5 a3) 39 6 a4) 39 7 sr_topSet_1) 39 8 sr_topWorth_2) 39 9 sr_topLength_3)) rfl ?_
  exact r_retv (pc := 40) hC hQ dX4_seekTop_40 hr hk ⟨a2, a3, a4, sr_topSet_1, sr_topWorth_2, sr_topLength_3, rfl, h⟩
def wp_Search_enlarge : Nat → (Nat → Int) → Int → Int → Int → Int → Int → (Int → Prop) → Prop
  | 0 => fun _ _ _ _ _ _ _ => False
  | n + 1 => fun sr_tooLike pg_sentences sr_largest a1 a2 a3 Q => wp_JI_bitCount a1 (fun (r1 : Int) => wp_JI_bitCount a2 (fun (r2 : Int) => (rng (r1 + r2)) ∧ (wp_JI_bitCount sr_largest (fun (r3 : Int) => (r3 ≤ (r1 + r2) → (a3 < pg_sentences → wp_Picker_has a2 a3 (fun (r4 : Int) => jn1 (fun (J1 : Int → Prop) => (r4 = 0 → J1 sr_largest) ∧ (¬ r4 = 0 → (0 ≤ a3 ∧ a3 < 14) ∧ ((rng (a3 + 1)) ∧ (wp_Search_enlarge n sr_tooLike pg_sentences sr_largest (iOr a1 (iShl 1 a3)) (iAnd (iAnd a2 (iXor (iShl 1 a3) (-1))) (iXor (sr_tooLike (Int.toNat a3)) (-1))) (a3 + 1) (fun (sr_largest_7 : Int) => J1 sr_largest_7))))) (fun (sr_largest_5 : Int) => (rng (a3 + 1)) ∧ (wp_Search_enlarge n sr_tooLike pg_sentences sr_largest_5 a1 (iAnd a2 (iXor (iShl 1 a3) (-1))) (a3 + 1) (fun (sr_largest_6 : Int) => Q sr_largest_6))))) ∧ (¬ a3 < pg_sentences → wp_JI_bitCount sr_largest (fun (r8 : Int) => jn1 (fun (J2 : Int → Prop) => ((r1 + r2) ≤ r8 → J2 0) ∧ (¬ (r1 + r2) ≤ r8 → J2 1)) (fun (y9 : Int) => jn1 (fun (J3 : Int → Prop) => jn0 (fun (J4 : Prop) => (¬ y9 = 0 → J4) ∧ (y9 = 0 → (sr_largest ≤ a1 → J3 sr_largest) ∧ (¬ sr_largest ≤ a1 → J4))) (J3 a1)) (fun (y10 : Int) => Q y10))))) ∧ (¬ r3 ≤ (r1 + r2) → Q sr_largest)))))
set_option maxHeartbeats 4000000 in
set_option maxRecDepth 20000 in
theorem s_Search_enlarge (l : Launch) : ∀ (n : Nat) (w : St) (a1 : Int) (a2 : Int) (a3 : Int) (P : Int → Prop), wp_Search_enlarge n (w.1 40) (w.1 3 17) (w.1 39 10) a1 a2 a3 P → Cn l yX4_enlarge cX4_enlarge 6 none (1 + n) LX w [aR 39, aI a1, aI a2, aI a3] (okV (fun w1 => ∃ (o0 : Int), w1 = (wI w 39 10 o0) ∧ P o0)) := by
  intro n
  induction n with
  | zero => intro w a1 a2 a3 P h; exact absurd h (fun q => q)
  | succ n ihr =>
    intro w a1 a2 a3 P h
    refine Cn.of2 [some (aR 39), some (aI a1), some (aI a2), some (aI a3), none, none] (by decide) (Nat.le_of_ble_eq_true rfl) rfl (fun p e s m args below meth c D cA ad A Q hQ hC hr hk => ?_)
    unfold wp_Search_enlarge at h
    refine r_iload_n (pc := 0) hC 1 dX4_enlarge_0 rfl rfl ?_
    refine r_callSi (pc := 1) hC [aI a1] [] dX4_enlarge_1 ml_RX4_63 my_J6_bitCount_0f7a4 ms_J6_bitCount_0f7a4 rfl ⟨by simp only [rmD]; omega, by simp only [rmD]; omega⟩ ⟨Nat.le_of_ble_eq_true rfl, Nat.le_of_ble_eq_true rfl⟩ (Nat.le_of_ble_eq_true rfl) rfl (s_JI_bitCount l _ _ _ h) (fun r1 w1 hq => ?_)
    obtain ⟨e9, h⟩ := hq
    rw [e9]
    refine r_iload_n (pc := 4) hC 2 dX4_enlarge_4 rfl rfl ?_
    refine r_callSi (pc := 5) hC [aI a2] [aI r1] dX4_enlarge_5 ml_RX4_63 my_J6_bitCount_0f7a4 ms_J6_bitCount_0f7a4 rfl ⟨by simp only [rmD]; omega, by simp only [rmD]; omega⟩ ⟨Nat.le_of_ble_eq_true rfl, Nat.le_of_ble_eq_true rfl⟩ (Nat.le_of_ble_eq_true rfl) rfl (s_JI_bitCount l _ _ _ h) (fun r2 w1 hq => ?_)
    obtain ⟨e9, h⟩ := hq
    rw [e9]
    refine r_iadd (pc := 8) hC dX4_enlarge_8 h.1 ?_
    have h := h.2
    refine r_istore (ls2 := [some (aR 39), some (aI a1), some (aI a2), some (aI a3), some (aI (r1 + r2)), none]) (pc := 9) hC dX4_enlarge_9 (by decide) rfl rfl ?_
    refine r_iload (pc := 11) hC dX4_enlarge_11 rfl ?_
    refine r_aload_n (pc := 13) hC 0 dX4_enlarge_13 rfl rfl ?_
    refine r_get (kd := 0) (v := (w.1 39 10)) (pc := 14) hC dX4_enlarge_14 fl_RX4_93 lX_39 rfl rfl ?_
    refine r_callSi (pc := 17) hC [aI (w.1 39 10)] [aI (r1 + r2)] dX4_enlarge_17 ml_RX4_63 my_J6_bitCount_0f7a4 ms_J6_bitCount_0f7a4 rfl ⟨by simp only [rmD]; omega, by simp only [rmD]; omega⟩ ⟨Nat.le_of_ble_eq_true rfl, Nat.le_of_ble_eq_true rfl⟩ (Nat.le_of_ble_eq_true rfl) rfl (s_JI_bitCount l _ _ _ h) (fun r3 w1 hq => ?_)
    obtain ⟨e9, h⟩ := hq
    rw [e9]
    refine r_ic_ge (pc := 20) (tgt := 24) hC dX4_enlarge_20 rfl (fun hc6 => ?_) (fun hc6 => ?_)
    · have h := h.1 hc6
      refine r_iload_n (pc := 24) hC 3 dX4_enlarge_24 rfl rfl ?_
      refine r_aload_n (pc := 25) hC 0 dX4_enlarge_25 rfl rfl ?_
      refine r_getr (r := 3) (pc := 26) hC dX4_enlarge_26 fl_RX4_15 lX_39 rfl ?_
      refine r_get (kd := 0) (v := (w.1 3 17)) (pc := 29) hC dX4_enlarge_29 fl_RX4_27 lX_3 rfl rfl ?_
      refine r_ic_lt (pc := 32) (tgt := 80) hC dX4_enlarge_32 rfl (fun hc5 => ?_) (fun hc5 => ?_)
      · have h := h.1 hc5
        refine r_iload_n (pc := 80) hC 2 dX4_enlarge_80 rfl rfl ?_
        refine r_iconst (pc := 81) hC dX4_enlarge_81 (rng_lit rfl) ?_
        refine r_iload_n (pc := 82) hC 3 dX4_enlarge_82 rfl rfl ?_
        refine r_ishl (pc := 83) hC dX4_enlarge_83 ?_
        refine r_iconst (pc := 84) hC dX4_enlarge_84 (rng_lit rfl) ?_
        refine r_ixor (pc := 85) hC dX4_enlarge_85 ?_
        refine r_iand (pc := 86) hC dX4_enlarge_86 ?_
        refine r_istore (ls2 := [some (aR 39), some (aI a1), some (aI a2), some (aI a3), some (aI (r1 + r2)), some (aI (iAnd a2 (iXor (iShl 1 a3) (-1))))]) (pc := 87) hC dX4_enlarge_87 (by decide) rfl rfl ?_
        refine r_iload_n (pc := 89) hC 2 dX4_enlarge_89 rfl rfl ?_
        refine r_iload_n (pc := 90) hC 3 dX4_enlarge_90 rfl rfl ?_
        refine r_callSNi (pc := 91) hC [aI a2, aI a3] [] dX4_enlarge_91 nl_RX4_37 my_X9_has ms_X9_has rfl ⟨by simp only [rmD]; omega, by simp only [rmD]; omega⟩ ⟨Nat.le_of_ble_eq_true rfl, Nat.le_of_ble_eq_true rfl⟩ (Nat.le_of_ble_eq_true rfl) rfl (s_Picker_has l _ _ _ _ h) (fun r4 w1 hq => ?_)
        obtain ⟨e9, h⟩ := hq
        rw [e9]
        obtain ⟨J1, hJ1, h⟩ := h
        have S1 : ∀ (sr_largest_5 : Int), J1 sr_largest_5 → Wd p l e (rmD (1 + (n + 1))) s m args below meth c Q 0 0 6 D cA ad A LX (wI w 39 10 sr_largest_5) 120 [some (aR 39), some (aI a1), none, some (aI a3), none, some (aI (iAnd a2 (iXor (iShl 1 a3) (-1))))] [] := by
          intro sr_largest_5 hj
          have h := hJ1 sr_largest_5 hj
          refine r_aload_n (pc := 120) hC 0 dX4_enlarge_120 rfl rfl ?_
          refine r_iload_n (pc := 121) hC 1 dX4_enlarge_121 rfl rfl ?_
          refine r_iload (pc := 122) hC dX4_enlarge_122 rfl ?_
          refine r_iload_n (pc := 124) hC 3 dX4_enlarge_124 rfl rfl ?_
          refine r_iconst (pc := 125) hC dX4_enlarge_125 (rng_lit rfl) ?_
          refine r_iadd (pc := 126) hC dX4_enlarge_126 h.1 ?_
          have h := h.2
          refine r_callVv (pc := 127) hC [aI a1, aI (iAnd a2 (iXor (iShl 1 a3) (-1))), aI (a3 + 1)] [] dX4_enlarge_127 ml_RX4_96 my_X4_enlarge mi_X4_enlarge lX_39 rfl rfl ⟨by simp only [rmD]; omega, by simp only [rmD]; omega⟩ ⟨Nat.le_of_ble_eq_true rfl, Nat.le_of_ble_eq_true rfl⟩ (Nat.le_of_ble_eq_true rfl) rfl (ihr _ _ _ _ _ h) (fun w1 hq => ?_)
          obtain ⟨sr_largest_6, e9, h⟩ := hq
          rw [e9]
          refine r_conv (w2 := (wI w 39 10 sr_largest_6)) rfl ?_
          exact r_retv (pc := 130) hC hQ dX4_enlarge_130 hr hk ⟨sr_largest_6, rfl, h⟩
        refine r_if_eq (pc := 94) (tgt := 120) hC dX4_enlarge_94 rfl (fun hc1 => ?_) (fun hc1 => ?_)
        · have h := h.1 hc1
          exact r_to [true, true, false, true, false, true] rfl rfl (S1 (w.1 39 10) h)
        have h := h.2 hc1
        refine r_aload_n (pc := 97) hC 0 dX4_enlarge_97 rfl rfl ?_
        refine r_iload_n (pc := 98) hC 1 dX4_enlarge_98 rfl rfl ?_
        refine r_iconst (pc := 99) hC dX4_enlarge_99 (rng_lit rfl) ?_
        refine r_iload_n (pc := 100) hC 3 dX4_enlarge_100 rfl rfl ?_
        refine r_ishl (pc := 101) hC dX4_enlarge_101 ?_
        refine r_ior (pc := 102) hC dX4_enlarge_102 ?_
        refine r_iload (pc := 103) hC dX4_enlarge_103 rfl ?_
        refine r_aload_n (pc := 105) hC 0 dX4_enlarge_105 rfl rfl ?_
        refine r_getr (r := 40) (pc := 106) hC dX4_enlarge_106 fl_RX4_9 lX_39 rfl ?_
        refine r_iload_n (pc := 109) hC 3 dX4_enlarge_109 rfl rfl ?_
        refine r_iald (v := ((w.1 40) (Int.toNat a3))) (pc := 110) hC dX4_enlarge_110 lX_40 h.1.1 h.1.2 rfl ?_
        have h := h.2
        refine r_iconst (pc := 111) hC dX4_enlarge_111 (rng_lit rfl) ?_
        refine r_ixor (pc := 112) hC dX4_enlarge_112 ?_
        refine r_iand (pc := 113) hC dX4_enlarge_113 ?_
        refine r_iload_n (pc := 114) hC 3 dX4_enlarge_114 rfl rfl ?_
        refine r_iconst (pc := 115) hC dX4_enlarge_115 (rng_lit rfl) ?_
        refine r_iadd (pc := 116) hC dX4_enlarge_116 h.1 ?_
        have h := h.2
        refine r_callVv (pc := 117) hC [aI (iOr a1 (iShl 1 a3)), aI (iAnd (iAnd a2 (iXor (iShl 1 a3) (-1))) (iXor ((w.1 40) (Int.toNat a3)) (-1))), aI (a3 + 1)] [] dX4_enlarge_117 ml_RX4_96 my_X4_enlarge mi_X4_enlarge lX_39 rfl rfl ⟨by simp only [rmD]; omega, by simp only [rmD]; omega⟩ ⟨Nat.le_of_ble_eq_true rfl, Nat.le_of_ble_eq_true rfl⟩ (Nat.le_of_ble_eq_true rfl) rfl (ihr _ _ _ _ _ h) (fun w1 hq => ?_)
        obtain ⟨sr_largest_7, e9, h⟩ := hq
        rw [e9]
        exact r_to [true, true, false, true, false, true] rfl rfl (S1 sr_largest_7 h)
      have h := h.2 hc5
      refine r_iload (pc := 35) hC dX4_enlarge_35 rfl ?_
      refine r_aload_n (pc := 37) hC 0 dX4_enlarge_37 rfl rfl ?_
      refine r_get (kd := 0) (v := (w.1 39 10)) (pc := 38) hC dX4_enlarge_38 fl_RX4_93 lX_39 rfl rfl ?_
      refine r_callSi (pc := 41) hC [aI (w.1 39 10)] [aI (r1 + r2)] dX4_enlarge_41 ml_RX4_63 my_J6_bitCount_0f7a4 ms_J6_bitCount_0f7a4 rfl ⟨by simp only [rmD]; omega, by simp only [rmD]; omega⟩ ⟨Nat.le_of_ble_eq_true rfl, Nat.le_of_ble_eq_true rfl⟩ (Nat.le_of_ble_eq_true rfl) rfl (s_JI_bitCount l _ _ _ h) (fun r8 w1 hq => ?_)
      obtain ⟨e9, h⟩ := hq
      rw [e9]
      obtain ⟨J2, hJ2, h⟩ := h
      have S2 : ∀ (y9 : Int), J2 y9 → Wd p l e (rmD (1 + (n + 1))) s m args below meth c Q 0 0 6 D cA ad A LX w 52 [some (aR 39), some (aI a1), none, none, none, none] [aI y9] := by
        intro y9 hj
        have h := hJ2 y9 hj
        refine r_istore (ls2 := [some (aR 39), some (aI a1), none, none, none, some (aI y9)]) (pc := 52) hC dX4_enlarge_52 (by decide) rfl rfl ?_
        refine r_aload_n (pc := 54) hC 0 dX4_enlarge_54 rfl rfl ?_
        refine r_iload (pc := 55) hC dX4_enlarge_55 rfl ?_
        obtain ⟨J3, hJ3, h⟩ := h
        have S3 : ∀ (y10 : Int), J3 y10 → Wd p l e (rmD (1 + (n + 1))) s m args below meth c Q 0 0 6 D cA ad A LX w 76 [none, none, none, none, none, none] [aI y10, aR 39] := by
          intro y10 hj
          have h := hJ3 y10 hj
          refine r_put (kd := 0) (pc := 76) hC dX4_enlarge_76 pl_RX4_93 lX_39 rfl (by decide) (Or.inl rfl) ?_
          refine r_conv (w2 := (wI w 39 10 y10)) rfl ?_
          exact r_retv (pc := 79) hC hQ dX4_enlarge_79 hr hk ⟨y10, rfl, h⟩
        obtain ⟨J4, hJ4, h⟩ := h
        have S4 : J4 → Wd p l e (rmD (1 + (n + 1))) s m args below meth c Q 0 0 6 D cA ad A LX w 68 [none, some (aI a1), none, none, none, none] [aR 39] := by
          intro hj
          have h := hJ4 hj
          refine r_iload_n (pc := 68) hC 1 dX4_enlarge_68 rfl rfl ?_
          refine r_goto (tgt := 76) (pc := 69) hC dX4_enlarge_69 rfl ?_
          exact r_to [false, false, false, false, false, false] rfl rfl (S3 a1 h)
        refine r_if_ne (pc := 57) (tgt := 68) hC dX4_enlarge_57 rfl (fun hc3 => ?_) (fun hc3 => ?_)
        · have h := h.1 hc3
          exact r_to [false, true, false, false, false, false] rfl rfl (S4 h)
        have h := h.2 hc3
        refine r_iload_n (pc := 60) hC 1 dX4_enlarge_60 rfl rfl ?_
        refine r_aload_n (pc := 61) hC 0 dX4_enlarge_61 rfl rfl ?_
        refine r_get (kd := 0) (v := (w.1 39 10)) (pc := 62) hC dX4_enlarge_62 fl_RX4_93 lX_39 rfl rfl ?_
        refine r_ic_ge (pc := 65) (tgt := 72) hC dX4_enlarge_65 rfl (fun hc2 => ?_) (fun hc2 => ?_)
        · have h := h.1 hc2
          refine r_aload_n (pc := 72) hC 0 dX4_enlarge_72 rfl rfl ?_
          refine r_get (kd := 0) (v := (w.1 39 10)) (pc := 73) hC dX4_enlarge_73 fl_RX4_93 lX_39 rfl rfl ?_
          exact r_to [false, false, false, false, false, false] rfl rfl (S3 (w.1 39 10) h)
        have h := h.2 hc2
        exact r_to [false, true, false, false, false, false] rfl rfl (S4 h)
      refine r_ic_le (pc := 44) (tgt := 51) hC dX4_enlarge_44 rfl (fun hc4 => ?_) (fun hc4 => ?_)
      · have h := h.1 hc4
        refine r_iconst (pc := 51) hC dX4_enlarge_51 (rng_lit rfl) ?_
        exact r_to [true, true, false, false, false, false] rfl rfl (S2 0 h)
      have h := h.2 hc4
      refine r_iconst (pc := 47) hC dX4_enlarge_47 (rng_lit rfl) ?_
      refine r_goto (tgt := 52) (pc := 48) hC dX4_enlarge_48 rfl ?_
      exact r_to [true, true, false, false, false, false] rfl rfl (S2 1 h)
    have h := h.2 hc6
    refine r_conv (w2 := (wI w 39 10 (w.1 39 10))) rfl ?_
    exact r_retv (pc := 23) hC hQ dX4_enlarge_23 hr hk ⟨(w.1 39 10), rfl, h⟩
def wp_Search_largestSet (sr_tooLike : (Nat → Int)) (pg_sentences : Int) (sr_largest : Int) (Q : Int → Int → Prop) : Prop := (rng ((iShl 1 pg_sentences) - 1)) ∧ (wp_Search_enlarge 16 sr_tooLike pg_sentences 0 0 ((iShl 1 pg_sentences) - 1) 0 (fun (sr_largest_1 : Int) => Q sr_largest_1 sr_largest_1))
set_option maxHeartbeats 4000000 in
set_option maxRecDepth 20000 in
theorem s_Search_largestSet (l : Launch) (w : St) (P : Int → Int → Prop) (h : wp_Search_largestSet (w.1 40) (w.1 3 17) (w.1 39 10) P) : Cn l yX4_largestSet cX4_largestSet 1 (some .int) 18 LX w [aR 39] (okI (fun r w1 => ∃ (o0 : Int), w1 = (wI w 39 10 o0) ∧ P r o0)) := by
  unfold wp_Search_largestSet at h
  refine Cn.of2 [some (aR 39)] (by decide) (Nat.le_of_ble_eq_true rfl) rfl (fun p e s m args below meth c D cA ad A Q hQ hC hr hk => ?_)
  refine r_aload_n (pc := 0) hC 0 dX4_largestSet_0 rfl rfl ?_
  refine r_iconst (pc := 1) hC dX4_largestSet_1 (rng_lit rfl) ?_
  refine r_put (kd := 0) (pc := 2) hC dX4_largestSet_2 pl_RX4_93 lX_39 rfl (by decide) (Or.inl rfl) ?_
  refine r_aload_n (pc := 5) hC 0 dX4_largestSet_5 rfl rfl ?_
  refine r_iconst (pc := 6) hC dX4_largestSet_6 (rng_lit rfl) ?_
  refine r_iconst (pc := 7) hC dX4_largestSet_7 (rng_lit rfl) ?_
  refine r_aload_n (pc := 8) hC 0 dX4_largestSet_8 rfl rfl ?_
  refine r_getr (r := 3) (pc := 9) hC dX4_largestSet_9 fl_RX4_15 lX_39 rfl ?_
  refine r_get (kd := 0) (v := (w.1 3 17)) (pc := 12) hC dX4_largestSet_12 fl_RX4_27 lX_3 rfl rfl ?_
  refine r_ishl (pc := 15) hC dX4_largestSet_15 ?_
  refine r_iconst (pc := 16) hC dX4_largestSet_16 (rng_lit rfl) ?_
  refine r_isub (pc := 17) hC dX4_largestSet_17 h.1 ?_
  have h := h.2
  refine r_iconst (pc := 18) hC dX4_largestSet_18 (rng_lit rfl) ?_
  refine r_callVv (pc := 19) hC [aI 0, aI ((iShl 1 (w.1 3 17)) - 1), aI 0] [] dX4_largestSet_19 ml_RX4_96 my_X4_enlarge mi_X4_enlarge lX_39 rfl rfl ⟨Nat.le_of_ble_eq_true rfl, Nat.le_of_ble_eq_true rfl⟩ ⟨Nat.le_of_ble_eq_true rfl, Nat.le_of_ble_eq_true rfl⟩ (Nat.le_of_ble_eq_true rfl) rfl (s_Search_enlarge l 16 _ _ _ _ _ h) (fun w1 hq => ?_)
  obtain ⟨sr_largest_1, e9, h⟩ := hq
  rw [e9]
  refine r_aload_n (pc := 22) hC 0 dX4_largestSet_22 rfl rfl ?_
  refine r_get (kd := 0) (v := sr_largest_1) (pc := 23) hC dX4_largestSet_23 fl_RX4_93 lX_39 rfl rfl ?_
  refine r_conv (w2 := (wI w 39 10 sr_largest_1)) rfl ?_
  exact r_reti (pc := 26) (kd := 0) hC hQ dX4_largestSet_26 hr hk (by decide) (Or.inl rfl) ⟨sr_largest_1, rfl, h⟩
def wp_Sets_setting (se_budget : Int) (se_most : Int) (se_limit : Int) (a1 : Int) (Q : Int → Prop) : Prop := (¬ a1 = 0 → (¬ a1 = 1 → Q se_limit) ∧ (a1 = 1 → Q se_most)) ∧ (a1 = 0 → Q se_budget)
set_option maxHeartbeats 4000000 in
set_option maxRecDepth 20000 in
theorem s_Sets_setting (l : Launch) (w : St) (a1 : Int) (P : Int → Prop) (h : wp_Sets_setting (w.1 37 4) (w.1 37 5) (w.1 37 6) a1 P) : Cn l yX5_setting cX5_setting 2 (some .int) 0 LX w [aR 37, aI a1] (okI (fun r w1 => w1 = w ∧ P r)) := by
  unfold wp_Sets_setting at h
  refine Cn.of2 [some (aR 37), some (aI a1)] (by decide) (Nat.le_of_ble_eq_true rfl) rfl (fun p e s m args below meth c D cA ad A Q hQ hC hr hk => ?_)
  refine r_iload_n (pc := 0) hC 1 dX5_setting_0 rfl rfl ?_
  refine r_if_ne (pc := 1) (tgt := 9) hC dX5_setting_1 rfl (fun hc2 => ?_) (fun hc2 => ?_)
  · have h := h.1 hc2
    refine r_iload_n (pc := 9) hC 1 dX5_setting_9 rfl rfl ?_
    refine r_iconst (pc := 10) hC dX5_setting_10 (rng_lit rfl) ?_
    refine r_ic_ne (pc := 11) (tgt := 21) hC dX5_setting_11 rfl (fun hc1 => ?_) (fun hc1 => ?_)
    · have h := h.1 hc1
      refine r_aload_n (pc := 21) hC 0 dX5_setting_21 rfl rfl ?_
      refine r_get (kd := 0) (v := (w.1 37 6)) (pc := 22) hC dX5_setting_22 fl_RX5_18 lX_37 rfl rfl ?_
      exact r_reti (pc := 25) (kd := 0) hC hQ dX5_setting_25 hr hk (by decide) (Or.inl rfl) ⟨rfl, h⟩
    have h := h.2 hc1
    refine r_aload_n (pc := 14) hC 0 dX5_setting_14 rfl rfl ?_
    refine r_get (kd := 0) (v := (w.1 37 5)) (pc := 15) hC dX5_setting_15 fl_RX5_15 lX_37 rfl rfl ?_
    refine r_goto (tgt := 25) (pc := 18) hC dX5_setting_18 rfl ?_
    exact r_reti (pc := 25) (kd := 0) hC hQ dX5_setting_25 hr hk (by decide) (Or.inl rfl) ⟨rfl, h⟩
  have h := h.2 hc2
  refine r_aload_n (pc := 4) hC 0 dX5_setting_4 rfl rfl ?_
  refine r_get (kd := 0) (v := (w.1 37 4)) (pc := 5) hC dX5_setting_5 fl_RX5_9 lX_37 rfl rfl ?_
  exact r_reti (pc := 8) (kd := 0) hC hQ dX5_setting_8 hr hk (by decide) (Or.inl rfl) ⟨rfl, h⟩
def wp_Sets_startAnew (sr_tooLike : (Nat → Int)) (pg_sentences : Int) (se_limit : Int) (se_chosen : Int) (se_bestKnown : Int) (pg_lowWords : (Nat → Int64)) (pg_highWords : (Nat → Int64)) (Q : (Nat → Int) → Int → Int → Prop) : Prop := wp_Search_findTooLike sr_tooLike pg_sentences pg_lowWords pg_highWords se_limit (fun (sr_tooLike_1 : (Nat → Int)) => Q sr_tooLike_1 0 0)
set_option maxHeartbeats 4000000 in
set_option maxRecDepth 20000 in
theorem s_Sets_startAnew (l : Launch) (w : St) (P : (Nat → Int) → Int → Int → Prop) (h : wp_Sets_startAnew (w.1 40) (w.1 3 17) (w.1 37 6) (w.1 37 7) (w.1 37 10) (w.2 16) (w.2 17) P) : Cn l yX5_startAnew cX5_startAnew 1 none 4 LX w [aR 37] (okV (fun w1 => ∃ (o0 : (Nat → Int)) (o1 : Int) (o2 : Int), w1 = (wI (wI (wA w 40 o0) 37 7 o1) 37 10 o2) ∧ P o0 o1 o2)) := by
  unfold wp_Sets_startAnew at h
  refine Cn.of2 [some (aR 37)] (by decide) (Nat.le_of_ble_eq_true rfl) rfl (fun p e s m args below meth c D cA ad A Q hQ hC hr hk => ?_)
  refine r_aload_n (pc := 0) hC 0 dX5_startAnew_0 rfl rfl ?_
  refine r_iconst (pc := 1) hC dX5_startAnew_1 (rng_lit rfl) ?_
  refine r_put (kd := 0) (pc := 2) hC dX5_startAnew_2 pl_RX5_46 lX_37 rfl (by decide) (Or.inl rfl) ?_
  refine r_aload_n (pc := 5) hC 0 dX5_startAnew_5 rfl rfl ?_
  refine r_iconst (pc := 6) hC dX5_startAnew_6 (rng_lit rfl) ?_
  refine r_put (kd := 1) (pc := 7) hC dX5_startAnew_7 pl_RX5_49 lX_37 rfl (by decide) (Or.inr okK1_0) ?_
  refine r_aload_n (pc := 10) hC 0 dX5_startAnew_10 rfl rfl ?_
  refine r_getr (r := 39) (pc := 11) hC dX5_startAnew_11 fl_RX5_42 lX_37 rfl ?_
  refine r_aload_n (pc := 14) hC 0 dX5_startAnew_14 rfl rfl ?_
  refine r_get (kd := 0) (v := (w.1 37 6)) (pc := 15) hC dX5_startAnew_15 fl_RX5_18 lX_37 rfl rfl ?_
  refine r_callVv (pc := 18) hC [aI (w.1 37 6)] [] dX5_startAnew_18 ml_RX5_53 my_X4_findTooLike mi_X4_findTooLike lX_39 rfl rfl ⟨Nat.le_of_ble_eq_true rfl, Nat.le_of_ble_eq_true rfl⟩ ⟨Nat.le_of_ble_eq_true rfl, Nat.le_of_ble_eq_true rfl⟩ (Nat.le_of_ble_eq_true rfl) rfl (s_Search_findTooLike l _ _ _ h) (fun w1 hq => ?_)
  obtain ⟨sr_tooLike_1, e9, h⟩ := hq
  rw [e9]
  refine r_conv (w2 := (wI (wI (wA w 40 sr_tooLike_1) 37 7 0) 37 10 0)) rfl ?_
  exact r_retv (pc := 21) hC hQ dX5_startAnew_21 hr hk ⟨sr_tooLike_1, 0, 0, rfl, h⟩
def wp_Sets_lengthOfSet (pg_sentenceSigns : (Nat → Int)) (pg_sentences : Int) (a1 : Int) (Q : Int → Prop) : Prop := lpw2 (fun (x1 : Int) (x2 : Int) (k1 : Int → Int → Prop) => (pg_sentences ≤ x2 → Q x1) ∧ (¬ pg_sentences ≤ x2 → wp_Picker_has a1 x2 (fun (r3 : Int) => jn1 (fun (J2 : Int → Prop) => (r3 = 0 → J2 0) ∧ (¬ r3 = 0 → wp_Page_lengthOf pg_sentenceSigns x2 (fun (r5 : Int) => J2 r5))) (fun (y4 : Int) => (rng (x1 + y4)) ∧ ((rng (x2 + 1)) ∧ (k1 (x1 + y4) (x2 + 1))))))) 0 0
set_option maxHeartbeats 4000000 in
set_option maxRecDepth 20000 in
theorem s_Sets_lengthOfSet (l : Launch) (w : St) (a1 : Int) (P : Int → Prop) (h : wp_Sets_lengthOfSet (w.1 13) (w.1 3 17) a1 P) : Cn l yX5_lengthOfSet cX5_lengthOfSet 4 (some .int) 1 LX w [aR 37, aI a1] (okI (fun r w1 => w1 = w ∧ P r)) := by
  unfold wp_Sets_lengthOfSet at h
  refine Cn.of2 [some (aR 37), some (aI a1), none, none] (by decide) (Nat.le_of_ble_eq_true rfl) rfl (fun p e s m args below meth c D cA ad A Q hQ hC hr hk => ?_)
  refine r_iconst (pc := 0) hC dX5_lengthOfSet_0 (rng_lit rfl) ?_
  refine r_istore_n (ls2 := [some (aR 37), some (aI a1), some (aI 0), none]) (pc := 1) hC 2 dX5_lengthOfSet_1 rfl (by decide) rfl rfl ?_
  refine r_iconst (pc := 2) hC dX5_lengthOfSet_2 (rng_lit rfl) ?_
  refine r_istore_n (ls2 := [some (aR 37), some (aI a1), some (aI 0), some (aI 0)]) (pc := 3) hC 3 dX5_lengthOfSet_3 rfl (by decide) rfl rfl ?_
  obtain ⟨I1, μ1, hI1, hB1⟩ := h
  have S1 : ∀ (nn : Nat) (x1 : Int) (x2 : Int), μ1 x1 x2 < nn → I1 x1 x2 → Wd p l e (rmD 1) s m args below meth c Q 0 0 4 D cA ad A LX w 4 [some (aR 37), some (aI a1), some (aI x1), some (aI x2)] [] := by
    intro nn
    induction nn with
    | zero => intro x1 x2 hn; exact absurd hn (Nat.not_lt_zero _)
    | succ nn ih1 =>
      intro x1 x2 hn1 hi
      have h := hB1 x1 x2 hi
      refine r_iload_n (pc := 4) hC 3 dX5_lengthOfSet_4 rfl rfl ?_
      refine r_aload_n (pc := 5) hC 0 dX5_lengthOfSet_5 rfl rfl ?_
      refine r_getr (r := 3) (pc := 6) hC dX5_lengthOfSet_6 fl_RX5_25 lX_37 rfl ?_
      refine r_get (kd := 0) (v := (w.1 3 17)) (pc := 9) hC dX5_lengthOfSet_9 fl_RX5_57 lX_3 rfl rfl ?_
      refine r_ic_ge (pc := 12) (tgt := 44) hC dX5_lengthOfSet_12 rfl (fun hc2 => ?_) (fun hc2 => ?_)
      · have h := h.1 hc2
        refine r_iload_n (pc := 44) hC 2 dX5_lengthOfSet_44 rfl rfl ?_
        exact r_reti (pc := 45) (kd := 0) hC hQ dX5_lengthOfSet_45 hr hk (by decide) (Or.inl rfl) ⟨rfl, h⟩
      have h := h.2 hc2
      refine r_iload_n (pc := 15) hC 2 dX5_lengthOfSet_15 rfl rfl ?_
      refine r_iload_n (pc := 16) hC 1 dX5_lengthOfSet_16 rfl rfl ?_
      refine r_iload_n (pc := 17) hC 3 dX5_lengthOfSet_17 rfl rfl ?_
      refine r_callSNi (pc := 18) hC [aI a1, aI x2] [aI x1] dX5_lengthOfSet_18 nl_RX5_62 my_X9_has ms_X9_has rfl ⟨Nat.le_of_ble_eq_true rfl, Nat.le_of_ble_eq_true rfl⟩ ⟨Nat.le_of_ble_eq_true rfl, Nat.le_of_ble_eq_true rfl⟩ (Nat.le_of_ble_eq_true rfl) rfl (s_Picker_has l _ _ _ _ h) (fun r3 w1 hq => ?_)
      obtain ⟨e9, h⟩ := hq
      rw [e9]
      obtain ⟨J2, hJ2, h⟩ := h
      have S2 : ∀ (y4 : Int), J2 y4 → Wd p l e (rmD 1) s m args below meth c Q 0 0 4 D cA ad A LX w 36 [some (aR 37), some (aI a1), none, some (aI x2)] [aI y4, aI x1] := by
        intro y4 hj
        have h := hJ2 y4 hj
        refine r_iadd (pc := 36) hC dX5_lengthOfSet_36 h.1 ?_
        have h := h.2
        refine r_istore_n (ls2 := [some (aR 37), some (aI a1), some (aI (x1 + y4)), some (aI x2)]) (pc := 37) hC 2 dX5_lengthOfSet_37 rfl (by decide) rfl rfl ?_
        refine r_iinc (ls2 := [some (aR 37), some (aI a1), some (aI (x1 + y4)), some (aI (x2 + 1))]) (pc := 38) hC dX5_lengthOfSet_38 rfl (by decide) rfl h.1 rfl ?_
        have h := h.2
        refine r_goto (tgt := 4) (pc := 41) hC dX5_lengthOfSet_41 rfl ?_
        exact r_to [true, true, true, true] rfl rfl (ih1 (x1 + y4) (x2 + 1) (Nat.lt_of_lt_of_le h.2 (Nat.le_of_lt_succ hn1)) h.1)
      refine r_if_eq (pc := 21) (tgt := 35) hC dX5_lengthOfSet_21 rfl (fun hc1 => ?_) (fun hc1 => ?_)
      · have h := h.1 hc1
        refine r_iconst (pc := 35) hC dX5_lengthOfSet_35 (rng_lit rfl) ?_
        exact r_to [true, true, false, true] rfl rfl (S2 0 h)
      have h := h.2 hc1
      refine r_aload_n (pc := 24) hC 0 dX5_lengthOfSet_24 rfl rfl ?_
      refine r_getr (r := 3) (pc := 25) hC dX5_lengthOfSet_25 fl_RX5_25 lX_37 rfl ?_
      refine r_iload_n (pc := 28) hC 3 dX5_lengthOfSet_28 rfl rfl ?_
      refine r_callVi (pc := 29) hC [aI x2] [aI x1] dX5_lengthOfSet_29 ml_RX5_66 my_X1_lengthOf mi_X1_lengthOf lX_3 rfl rfl ⟨Nat.le_of_ble_eq_true rfl, Nat.le_of_ble_eq_true rfl⟩ ⟨Nat.le_of_ble_eq_true rfl, Nat.le_of_ble_eq_true rfl⟩ (Nat.le_of_ble_eq_true rfl) rfl (s_Page_lengthOf l _ _ _ h) (fun r5 w1 hq => ?_)
      obtain ⟨e9, h⟩ := hq
      rw [e9]
      refine r_goto (tgt := 36) (pc := 32) hC dX5_lengthOfSet_32 rfl ?_
      exact r_to [true, true, false, true] rfl rfl (S2 r5 h)
  exact r_to [true, true, true, true] rfl rfl (S1 _ 0 0 (Nat.lt_succ_self _) hI1)
def wp_Sets_worthOfSet (qy_weights : (Nat → Int)) (pg_sentences : Int) (qy_items : Int) (mt_tallies : (Nat → Int64)) (a1 : Int) (Q : Int → Prop) : Prop := wp_Matches_tallyOf pg_sentences mt_tallies a1 (fun (r1 : Int64) => wp_Query_worthOf qy_weights qy_items r1 (fun (r2 : Int) => Q r2))
set_option maxHeartbeats 4000000 in
set_option maxRecDepth 20000 in
theorem s_Sets_worthOfSet (l : Launch) (w : St) (a1 : Int) (P : Int → Prop) (h : wp_Sets_worthOfSet (w.1 19) (w.1 3 17) (w.1 18 6) (w.2 33) a1 P) : Cn l yX5_worthOfSet cX5_worthOfSet 2 (some .int) 2 LX w [aR 37, aI a1] (okI (fun r w1 => w1 = w ∧ P r)) := by
  unfold wp_Sets_worthOfSet at h
  refine Cn.of2 [some (aR 37), some (aI a1)] (by decide) (Nat.le_of_ble_eq_true rfl) rfl (fun p e s m args below meth c D cA ad A Q hQ hC hr hk => ?_)
  refine r_aload_n (pc := 0) hC 0 dX5_worthOfSet_0 rfl rfl ?_
  refine r_getr (r := 18) (pc := 1) hC dX5_worthOfSet_1 fl_RX5_29 lX_37 rfl ?_
  refine r_aload_n (pc := 4) hC 0 dX5_worthOfSet_4 rfl rfl ?_
  refine r_getr (r := 29) (pc := 5) hC dX5_worthOfSet_5 fl_RX5_33 lX_37 rfl ?_
  refine r_iload_n (pc := 8) hC 1 dX5_worthOfSet_8 rfl rfl ?_
  refine r_callVl (pc := 9) hC [aI a1] [aR 18] dX5_worthOfSet_9 ml_RX5_70 my_X0_tallyOf mi_X0_tallyOf lX_29 rfl rfl ⟨Nat.le_of_ble_eq_true rfl, Nat.le_of_ble_eq_true rfl⟩ ⟨Nat.le_of_ble_eq_true rfl, Nat.le_of_ble_eq_true rfl⟩ (Nat.le_of_ble_eq_true rfl) rfl (s_Matches_tallyOf l _ _ _ h) (fun r1 w1 hq => ?_)
  obtain ⟨e9, h⟩ := hq
  rw [e9]
  refine r_callVi (pc := 12) hC [aL r1] [] dX5_worthOfSet_12 ml_RX5_76 my_X2_worthOf mi_X2_worthOf lX_18 rfl rfl ⟨Nat.le_of_ble_eq_true rfl, Nat.le_of_ble_eq_true rfl⟩ ⟨Nat.le_of_ble_eq_true rfl, Nat.le_of_ble_eq_true rfl⟩ (Nat.le_of_ble_eq_true rfl) rfl (s_Query_worthOf l _ _ _ h) (fun r2 w1 hq => ?_)
  obtain ⟨e9, h⟩ := hq
  rw [e9]
  exact r_reti (pc := 15) (kd := 0) hC hQ dX5_worthOfSet_15 hr hk (by decide) (Or.inl rfl) ⟨rfl, h⟩
def wp_Sets_mayBe (pg_sentenceSigns : (Nat → Int)) (sr_tooLike : (Nat → Int)) (pg_sentences : Int) (se_budget : Int) (se_most : Int) (a1 : Int) (Q : Int → Prop) : Prop := wp_JI_bitCount a1 (fun (r1 : Int) => (se_most < r1 → Q 0) ∧ (¬ se_most < r1 → wp_Sets_lengthOfSet pg_sentenceSigns pg_sentences a1 (fun (r2 : Int) => (se_budget < r2 → Q 0) ∧ (¬ se_budget < r2 → wp_Search_areApart sr_tooLike pg_sentences a1 (fun (r3 : Int) => (r3 = 0 → Q 0) ∧ (¬ r3 = 0 → Q 1))))))
set_option maxHeartbeats 4000000 in
set_option maxRecDepth 20000 in
theorem s_Sets_mayBe (l : Launch) (w : St) (a1 : Int) (P : Int → Prop) (h : wp_Sets_mayBe (w.1 13) (w.1 40) (w.1 3 17) (w.1 37 4) (w.1 37 5) a1 P) : Cn l yX5_mayBe cX5_mayBe 2 (some .boolean) 2 LX w [aR 37, aI a1] (okI (fun r w1 => w1 = w ∧ P r)) := by
  unfold wp_Sets_mayBe at h
  refine Cn.of2 [some (aR 37), some (aI a1)] (by decide) (Nat.le_of_ble_eq_true rfl) rfl (fun p e s m args below meth c D cA ad A Q hQ hC hr hk => ?_)
  refine r_iload_n (pc := 0) hC 1 dX5_mayBe_0 rfl rfl ?_
  refine r_callSi (pc := 1) hC [aI a1] [] dX5_mayBe_1 ml_RX5_82 my_J6_bitCount_0f7a4 ms_J6_bitCount_0f7a4 rfl ⟨Nat.le_of_ble_eq_true rfl, Nat.le_of_ble_eq_true rfl⟩ ⟨Nat.le_of_ble_eq_true rfl, Nat.le_of_ble_eq_true rfl⟩ (Nat.le_of_ble_eq_true rfl) rfl (s_JI_bitCount l _ _ _ h) (fun r1 w1 hq => ?_)
  obtain ⟨e9, h⟩ := hq
  rw [e9]
  refine r_aload_n (pc := 4) hC 0 dX5_mayBe_4 rfl rfl ?_
  refine r_get (kd := 0) (v := (w.1 37 5)) (pc := 5) hC dX5_mayBe_5 fl_RX5_15 lX_37 rfl rfl ?_
  refine r_ic_gt (pc := 8) (tgt := 38) hC dX5_mayBe_8 rfl (fun hc3 => ?_) (fun hc3 => ?_)
  · have h := h.1 hc3
    refine r_iconst (pc := 38) hC dX5_mayBe_38 (rng_lit rfl) ?_
    exact r_reti (pc := 39) (kd := 1) hC hQ dX5_mayBe_39 hr hk (by decide) (Or.inr okK1_0) ⟨rfl, h⟩
  have h := h.2 hc3
  refine r_aload_n (pc := 11) hC 0 dX5_mayBe_11 rfl rfl ?_
  refine r_iload_n (pc := 12) hC 1 dX5_mayBe_12 rfl rfl ?_
  refine r_callVi (pc := 13) hC [aI a1] [] dX5_mayBe_13 ml_RX5_87 my_X5_lengthOfSet mi_X5_lengthOfSet lX_37 rfl rfl ⟨Nat.le_of_ble_eq_true rfl, Nat.le_of_ble_eq_true rfl⟩ ⟨Nat.le_of_ble_eq_true rfl, Nat.le_of_ble_eq_true rfl⟩ (Nat.le_of_ble_eq_true rfl) rfl (s_Sets_lengthOfSet l _ _ _ h) (fun r2 w1 hq => ?_)
  obtain ⟨e9, h⟩ := hq
  rw [e9]
  refine r_aload_n (pc := 16) hC 0 dX5_mayBe_16 rfl rfl ?_
  refine r_get (kd := 0) (v := (w.1 37 4)) (pc := 17) hC dX5_mayBe_17 fl_RX5_9 lX_37 rfl rfl ?_
  refine r_ic_gt (pc := 20) (tgt := 38) hC dX5_mayBe_20 rfl (fun hc2 => ?_) (fun hc2 => ?_)
  · have h := h.1 hc2
    refine r_iconst (pc := 38) hC dX5_mayBe_38 (rng_lit rfl) ?_
    exact r_reti (pc := 39) (kd := 1) hC hQ dX5_mayBe_39 hr hk (by decide) (Or.inr okK1_0) ⟨rfl, h⟩
  have h := h.2 hc2
  refine r_aload_n (pc := 23) hC 0 dX5_mayBe_23 rfl rfl ?_
  refine r_getr (r := 39) (pc := 24) hC dX5_mayBe_24 fl_RX5_42 lX_37 rfl ?_
  refine r_iload_n (pc := 27) hC 1 dX5_mayBe_27 rfl rfl ?_
  refine r_callVi (pc := 28) hC [aI a1] [] dX5_mayBe_28 ml_RX5_90 my_X4_areApart mi_X4_areApart lX_39 rfl rfl ⟨Nat.le_of_ble_eq_true rfl, Nat.le_of_ble_eq_true rfl⟩ ⟨Nat.le_of_ble_eq_true rfl, Nat.le_of_ble_eq_true rfl⟩ (Nat.le_of_ble_eq_true rfl) rfl (s_Search_areApart l _ _ _ h) (fun r3 w1 hq => ?_)
  obtain ⟨e9, h⟩ := hq
  rw [e9]
  refine r_if_eq (pc := 31) (tgt := 38) hC dX5_mayBe_31 rfl (fun hc1 => ?_) (fun hc1 => ?_)
  · have h := h.1 hc1
    refine r_iconst (pc := 38) hC dX5_mayBe_38 (rng_lit rfl) ?_
    exact r_reti (pc := 39) (kd := 1) hC hQ dX5_mayBe_39 hr hk (by decide) (Or.inr okK1_0) ⟨rfl, h⟩
  have h := h.2 hc1
  refine r_iconst (pc := 34) hC dX5_mayBe_34 (rng_lit rfl) ?_
  refine r_goto (tgt := 39) (pc := 35) hC dX5_mayBe_35 rfl ?_
  exact r_reti (pc := 39) (kd := 1) hC hQ dX5_mayBe_39 hr hk (by decide) (Or.inr okK1_1) ⟨rfl, h⟩
def wp_Sets_mayJoin (pg_sentenceSigns : (Nat → Int)) (sr_tooLike : (Nat → Int)) (pg_sentences : Int) (se_budget : Int) (se_most : Int) (a1 : Int) (a2 : Int) (Q : Int → Prop) : Prop := wp_Picker_has a1 a2 (fun (r1 : Int) => (¬ r1 = 0 → Q 0) ∧ (r1 = 0 → wp_Sets_mayBe pg_sentenceSigns sr_tooLike pg_sentences se_budget se_most (iOr a1 (iShl 1 a2)) (fun (r2 : Int) => (r2 = 0 → Q 0) ∧ (¬ r2 = 0 → Q 1))))
set_option maxHeartbeats 4000000 in
set_option maxRecDepth 20000 in
theorem s_Sets_mayJoin (l : Launch) (w : St) (a1 : Int) (a2 : Int) (P : Int → Prop) (h : wp_Sets_mayJoin (w.1 13) (w.1 40) (w.1 3 17) (w.1 37 4) (w.1 37 5) a1 a2 P) : Cn l yX5_mayJoin cX5_mayJoin 3 (some .boolean) 3 LX w [aR 37, aI a1, aI a2] (okI (fun r w1 => w1 = w ∧ P r)) := by
  unfold wp_Sets_mayJoin at h
  refine Cn.of2 [some (aR 37), some (aI a1), some (aI a2)] (by decide) (Nat.le_of_ble_eq_true rfl) rfl (fun p e s m args below meth c D cA ad A Q hQ hC hr hk => ?_)
  refine r_iload_n (pc := 0) hC 1 dX5_mayJoin_0 rfl rfl ?_
  refine r_iload_n (pc := 1) hC 2 dX5_mayJoin_1 rfl rfl ?_
  refine r_callSNi (pc := 2) hC [aI a1, aI a2] [] dX5_mayJoin_2 nl_RX5_62 my_X9_has ms_X9_has rfl ⟨Nat.le_of_ble_eq_true rfl, Nat.le_of_ble_eq_true rfl⟩ ⟨Nat.le_of_ble_eq_true rfl, Nat.le_of_ble_eq_true rfl⟩ (Nat.le_of_ble_eq_true rfl) rfl (s_Picker_has l _ _ _ _ h) (fun r1 w1 hq => ?_)
  obtain ⟨e9, h⟩ := hq
  rw [e9]
  refine r_if_ne (pc := 5) (tgt := 24) hC dX5_mayJoin_5 rfl (fun hc2 => ?_) (fun hc2 => ?_)
  · have h := h.1 hc2
    refine r_iconst (pc := 24) hC dX5_mayJoin_24 (rng_lit rfl) ?_
    exact r_reti (pc := 25) (kd := 1) hC hQ dX5_mayJoin_25 hr hk (by decide) (Or.inr okK1_0) ⟨rfl, h⟩
  have h := h.2 hc2
  refine r_aload_n (pc := 8) hC 0 dX5_mayJoin_8 rfl rfl ?_
  refine r_iload_n (pc := 9) hC 1 dX5_mayJoin_9 rfl rfl ?_
  refine r_iconst (pc := 10) hC dX5_mayJoin_10 (rng_lit rfl) ?_
  refine r_iload_n (pc := 11) hC 2 dX5_mayJoin_11 rfl rfl ?_
  refine r_ishl (pc := 12) hC dX5_mayJoin_12 ?_
  refine r_ior (pc := 13) hC dX5_mayJoin_13 ?_
  refine r_callVi (pc := 14) hC [aI (iOr a1 (iShl 1 a2))] [] dX5_mayJoin_14 ml_RX5_94 my_X5_mayBe mi_X5_mayBe lX_37 rfl rfl ⟨Nat.le_of_ble_eq_true rfl, Nat.le_of_ble_eq_true rfl⟩ ⟨Nat.le_of_ble_eq_true rfl, Nat.le_of_ble_eq_true rfl⟩ (Nat.le_of_ble_eq_true rfl) rfl (s_Sets_mayBe l _ _ _ h) (fun r2 w1 hq => ?_)
  obtain ⟨e9, h⟩ := hq
  rw [e9]
  refine r_if_eq (pc := 17) (tgt := 24) hC dX5_mayJoin_17 rfl (fun hc1 => ?_) (fun hc1 => ?_)
  · have h := h.1 hc1
    refine r_iconst (pc := 24) hC dX5_mayJoin_24 (rng_lit rfl) ?_
    exact r_reti (pc := 25) (kd := 1) hC hQ dX5_mayJoin_25 hr hk (by decide) (Or.inr okK1_0) ⟨rfl, h⟩
  have h := h.2 hc1
  refine r_iconst (pc := 20) hC dX5_mayJoin_20 (rng_lit rfl) ?_
  refine r_goto (tgt := 25) (pc := 21) hC dX5_mayJoin_21 rfl ?_
  exact r_reti (pc := 25) (kd := 1) hC hQ dX5_mayJoin_25 hr hk (by decide) (Or.inr okK1_1) ⟨rfl, h⟩
def wp_Sets_gain (qy_weights : (Nat → Int)) (pg_sentences : Int) (qy_items : Int) (mt_tallies : (Nat → Int64)) (a1 : Int) (a2 : Int) (Q : Int → Prop) : Prop := wp_Sets_worthOfSet qy_weights pg_sentences qy_items mt_tallies (iOr a1 (iShl 1 a2)) (fun (r1 : Int) => wp_Sets_worthOfSet qy_weights pg_sentences qy_items mt_tallies a1 (fun (r2 : Int) => (rng (r1 - r2)) ∧ (Q (r1 - r2))))
set_option maxHeartbeats 4000000 in
set_option maxRecDepth 20000 in
theorem s_Sets_gain (l : Launch) (w : St) (a1 : Int) (a2 : Int) (P : Int → Prop) (h : wp_Sets_gain (w.1 19) (w.1 3 17) (w.1 18 6) (w.2 33) a1 a2 P) : Cn l yX5_gain cX5_gain 3 (some .int) 3 LX w [aR 37, aI a1, aI a2] (okI (fun r w1 => w1 = w ∧ P r)) := by
  unfold wp_Sets_gain at h
  refine Cn.of2 [some (aR 37), some (aI a1), some (aI a2)] (by decide) (Nat.le_of_ble_eq_true rfl) rfl (fun p e s m args below meth c D cA ad A Q hQ hC hr hk => ?_)
  refine r_aload_n (pc := 0) hC 0 dX5_gain_0 rfl rfl ?_
  refine r_iload_n (pc := 1) hC 1 dX5_gain_1 rfl rfl ?_
  refine r_iconst (pc := 2) hC dX5_gain_2 (rng_lit rfl) ?_
  refine r_iload_n (pc := 3) hC 2 dX5_gain_3 rfl rfl ?_
  refine r_ishl (pc := 4) hC dX5_gain_4 ?_
  refine r_ior (pc := 5) hC dX5_gain_5 ?_
  refine r_callVi (pc := 6) hC [aI (iOr a1 (iShl 1 a2))] [] dX5_gain_6 ml_RX5_97 my_X5_worthOfSet mi_X5_worthOfSet lX_37 rfl rfl ⟨Nat.le_of_ble_eq_true rfl, Nat.le_of_ble_eq_true rfl⟩ ⟨Nat.le_of_ble_eq_true rfl, Nat.le_of_ble_eq_true rfl⟩ (Nat.le_of_ble_eq_true rfl) rfl (s_Sets_worthOfSet l _ _ _ h) (fun r1 w1 hq => ?_)
  obtain ⟨e9, h⟩ := hq
  rw [e9]
  refine r_aload_n (pc := 9) hC 0 dX5_gain_9 rfl rfl ?_
  refine r_iload_n (pc := 10) hC 1 dX5_gain_10 rfl rfl ?_
  refine r_callVi (pc := 11) hC [aI a1] [aI r1] dX5_gain_11 ml_RX5_97 my_X5_worthOfSet mi_X5_worthOfSet lX_37 rfl rfl ⟨Nat.le_of_ble_eq_true rfl, Nat.le_of_ble_eq_true rfl⟩ ⟨Nat.le_of_ble_eq_true rfl, Nat.le_of_ble_eq_true rfl⟩ (Nat.le_of_ble_eq_true rfl) rfl (s_Sets_worthOfSet l _ _ _ h) (fun r2 w1 hq => ?_)
  obtain ⟨e9, h⟩ := hq
  rw [e9]
  refine r_isub (pc := 14) hC dX5_gain_14 h.1 ?_
  have h := h.2
  exact r_reti (pc := 15) (kd := 0) hC hQ dX5_gain_15 hr hk (by decide) (Or.inl rfl) ⟨rfl, h⟩
def wp_Sets_isBetterStep (a1 : Int) (a2 : Int) (a3 : Int) (a4 : Int) (Q : Int → Prop) : Prop := (rng (a1 * a4)) ∧ ((rng (a3 * a2)) ∧ (jn0 (fun (J1 : Prop) => ((a3 * a2) < (a1 * a4) → J1) ∧ (¬ (a3 * a2) < (a1 * a4) → (¬ (a1 * a4) = (a3 * a2) → Q 0) ∧ ((a1 * a4) = (a3 * a2) → (a1 ≤ a3 → Q 0) ∧ (¬ a1 ≤ a3 → J1)))) (Q 1)))
set_option maxHeartbeats 4000000 in
set_option maxRecDepth 20000 in
theorem s_Sets_isBetterStep (l : Launch) (w : St) (a1 : Int) (a2 : Int) (a3 : Int) (a4 : Int) (P : Int → Prop) (h : wp_Sets_isBetterStep a1 a2 a3 a4 P) : Cn l yX5_isBetterStep cX5_isBetterStep 7 (some .boolean) 0 LX w [aR 37, aI a1, aI a2, aI a3, aI a4] (okI (fun r w1 => w1 = w ∧ P r)) := by
  unfold wp_Sets_isBetterStep at h
  refine Cn.of2 [some (aR 37), some (aI a1), some (aI a2), some (aI a3), some (aI a4), none, none] (by decide) (Nat.le_of_ble_eq_true rfl) rfl (fun p e s m args below meth c D cA ad A Q hQ hC hr hk => ?_)
  refine r_iload_n (pc := 0) hC 1 dX5_isBetterStep_0 rfl rfl ?_
  refine r_iload (pc := 1) hC dX5_isBetterStep_1 rfl ?_
  refine r_imul (pc := 3) hC dX5_isBetterStep_3 h.1 ?_
  have h := h.2
  refine r_istore (ls2 := [some (aR 37), some (aI a1), some (aI a2), some (aI a3), some (aI a4), some (aI (a1 * a4)), none]) (pc := 4) hC dX5_isBetterStep_4 (by decide) rfl rfl ?_
  refine r_iload_n (pc := 6) hC 3 dX5_isBetterStep_6 rfl rfl ?_
  refine r_iload_n (pc := 7) hC 2 dX5_isBetterStep_7 rfl rfl ?_
  refine r_imul (pc := 8) hC dX5_isBetterStep_8 h.1 ?_
  have h := h.2
  refine r_istore (ls2 := [some (aR 37), some (aI a1), some (aI a2), some (aI a3), some (aI a4), some (aI (a1 * a4)), some (aI (a3 * a2))]) (pc := 9) hC dX5_isBetterStep_9 (by decide) rfl rfl ?_
  refine r_iload (pc := 11) hC dX5_isBetterStep_11 rfl ?_
  refine r_iload (pc := 13) hC dX5_isBetterStep_13 rfl ?_
  obtain ⟨J1, hJ1, h⟩ := h
  have S1 : J1 → Wd p l e (rmD 0) s m args below meth c Q 0 0 7 D cA ad A LX w 30 [none, none, none, none, none, none, none] [] := by
    intro hj
    have h := hJ1 hj
    refine r_iconst (pc := 30) hC dX5_isBetterStep_30 (rng_lit rfl) ?_
    refine r_goto (tgt := 35) (pc := 31) hC dX5_isBetterStep_31 rfl ?_
    exact r_reti (pc := 35) (kd := 1) hC hQ dX5_isBetterStep_35 hr hk (by decide) (Or.inr okK1_1) ⟨rfl, h⟩
  refine r_ic_gt (pc := 15) (tgt := 30) hC dX5_isBetterStep_15 rfl (fun hc3 => ?_) (fun hc3 => ?_)
  · have h := h.1 hc3
    exact r_to [false, false, false, false, false, false, false] rfl rfl (S1 h)
  have h := h.2 hc3
  refine r_iload (pc := 18) hC dX5_isBetterStep_18 rfl ?_
  refine r_iload (pc := 20) hC dX5_isBetterStep_20 rfl ?_
  refine r_ic_ne (pc := 22) (tgt := 34) hC dX5_isBetterStep_22 rfl (fun hc2 => ?_) (fun hc2 => ?_)
  · have h := h.1 hc2
    refine r_iconst (pc := 34) hC dX5_isBetterStep_34 (rng_lit rfl) ?_
    exact r_reti (pc := 35) (kd := 1) hC hQ dX5_isBetterStep_35 hr hk (by decide) (Or.inr okK1_0) ⟨rfl, h⟩
  have h := h.2 hc2
  refine r_iload_n (pc := 25) hC 1 dX5_isBetterStep_25 rfl rfl ?_
  refine r_iload_n (pc := 26) hC 3 dX5_isBetterStep_26 rfl rfl ?_
  refine r_ic_le (pc := 27) (tgt := 34) hC dX5_isBetterStep_27 rfl (fun hc1 => ?_) (fun hc1 => ?_)
  · have h := h.1 hc1
    refine r_iconst (pc := 34) hC dX5_isBetterStep_34 (rng_lit rfl) ?_
    exact r_reti (pc := 35) (kd := 1) hC hQ dX5_isBetterStep_35 hr hk (by decide) (Or.inr okK1_0) ⟨rfl, h⟩
  have h := h.2 hc1
  exact r_to [false, false, false, false, false, false, false] rfl rfl (S1 h)
def wp_Sets_nextStep (pg_sentenceSigns : (Nat → Int)) (qy_weights : (Nat → Int)) (sr_tooLike : (Nat → Int)) (pg_sentences : Int) (qy_items : Int) (se_budget : Int) (se_most : Int) (mt_tallies : (Nat → Int64)) (a1 : Int) (Q : Int → Prop) : Prop := wp_Sets_worthOfSet qy_weights pg_sentences qy_items mt_tallies a1 (fun (r1 : Int) => lpw3 (fun (x2 : Int) (x3 : Int) (x4 : Int) (k1 : Int → Int → Int → Prop) => (pg_sentences ≤ x4 → Q x2) ∧ (¬ pg_sentences ≤ x4 → wp_Sets_worthOfSet qy_weights pg_sentences qy_items mt_tallies (iOr a1 (iShl 1 x4)) (fun (r5 : Int) => (rng (r5 - r1)) ∧ (jn1 (fun (J2 : Int → Prop) => jn0 (fun (J4 : Prop) => (x2 = (-1) → J4) ∧ (¬ x2 = (-1) → wp_Page_lengthOf pg_sentenceSigns x4 (fun (r10 : Int) => wp_Page_lengthOf pg_sentenceSigns x2 (fun (r11 : Int) => wp_Sets_isBetterStep (r5 - r1) r10 x3 r11 (fun (r12 : Int) => (r12 = 0 → J2 0) ∧ (¬ r12 = 0 → J4)))))) (J2 1)) (fun (y6 : Int) => jn2 (fun (J3 : Int → Int → Prop) => ((r5 - r1) ≤ 0 → J3 x2 x3) ∧ (¬ (r5 - r1) ≤ 0 → (y6 = 0 → J3 x2 x3) ∧ (¬ y6 = 0 → wp_Sets_mayBe pg_sentenceSigns sr_tooLike pg_sentences se_budget se_most (iOr a1 (iShl 1 x4)) (fun (r9 : Int) => (r9 = 0 → J3 x2 x3) ∧ (¬ r9 = 0 → J3 x4 (r5 - r1)))))) (fun (x7 : Int) (x8 : Int) => (rng (x4 + 1)) ∧ (k1 x7 x8 (x4 + 1)))))))) (-1) 0 0)
set_option maxHeartbeats 4000000 in
set_option maxRecDepth 20000 in
theorem s_Sets_nextStep (l : Launch) (w : St) (a1 : Int) (P : Int → Prop) (h : wp_Sets_nextStep (w.1 13) (w.1 19) (w.1 40) (w.1 3 17) (w.1 18 6) (w.1 37 4) (w.1 37 5) (w.2 33) a1 P) : Cn l yX5_nextStep cX5_nextStep 8 (some .int) 3 LX w [aR 37, aI a1] (okI (fun r w1 => w1 = w ∧ P r)) := by
  unfold wp_Sets_nextStep at h
  refine Cn.of2 [some (aR 37), some (aI a1), none, none, none, none, none, none] (by decide) (Nat.le_of_ble_eq_true rfl) rfl (fun p e s m args below meth c D cA ad A Q hQ hC hr hk => ?_)
  refine r_iconst (pc := 0) hC dX5_nextStep_0 (rng_lit rfl) ?_
  refine r_istore_n (ls2 := [some (aR 37), some (aI a1), some (aI (-1)), none, none, none, none, none]) (pc := 1) hC 2 dX5_nextStep_1 rfl (by decide) rfl rfl ?_
  refine r_iconst (pc := 2) hC dX5_nextStep_2 (rng_lit rfl) ?_
  refine r_istore_n (ls2 := [some (aR 37), some (aI a1), some (aI (-1)), some (aI 0), none, none, none, none]) (pc := 3) hC 3 dX5_nextStep_3 rfl (by decide) rfl rfl ?_
  refine r_aload_n (pc := 4) hC 0 dX5_nextStep_4 rfl rfl ?_
  refine r_iload_n (pc := 5) hC 1 dX5_nextStep_5 rfl rfl ?_
  refine r_callVi (pc := 6) hC [aI a1] [] dX5_nextStep_6 ml_RX5_97 my_X5_worthOfSet mi_X5_worthOfSet lX_37 rfl rfl ⟨Nat.le_of_ble_eq_true rfl, Nat.le_of_ble_eq_true rfl⟩ ⟨Nat.le_of_ble_eq_true rfl, Nat.le_of_ble_eq_true rfl⟩ (Nat.le_of_ble_eq_true rfl) rfl (s_Sets_worthOfSet l _ _ _ h) (fun r1 w1 hq => ?_)
  obtain ⟨e9, h⟩ := hq
  rw [e9]
  refine r_istore (ls2 := [some (aR 37), some (aI a1), some (aI (-1)), some (aI 0), some (aI r1), none, none, none]) (pc := 9) hC dX5_nextStep_9 (by decide) rfl rfl ?_
  refine r_iconst (pc := 11) hC dX5_nextStep_11 (rng_lit rfl) ?_
  refine r_istore (ls2 := [some (aR 37), some (aI a1), some (aI (-1)), some (aI 0), some (aI r1), some (aI 0), none, none]) (pc := 12) hC dX5_nextStep_12 (by decide) rfl rfl ?_
  obtain ⟨I1, μ1, hI1, hB1⟩ := h
  have S1 : ∀ (nn : Nat) (x2 : Int) (x3 : Int) (x4 : Int), μ1 x2 x3 x4 < nn → I1 x2 x3 x4 → Wd p l e (rmD 3) s m args below meth c Q 0 0 8 D cA ad A LX w 14 [some (aR 37), some (aI a1), some (aI x2), some (aI x3), some (aI r1), some (aI x4), none, none] [] := by
    intro nn
    induction nn with
    | zero => intro x2 x3 x4 hn; exact absurd hn (Nat.not_lt_zero _)
    | succ nn ih1 =>
      intro x2 x3 x4 hn1 hi
      have h := hB1 x2 x3 x4 hi
      refine r_iload (pc := 14) hC dX5_nextStep_14 rfl ?_
      refine r_aload_n (pc := 16) hC 0 dX5_nextStep_16 rfl rfl ?_
      refine r_getr (r := 3) (pc := 17) hC dX5_nextStep_17 fl_RX5_25 lX_37 rfl ?_
      refine r_get (kd := 0) (v := (w.1 3 17)) (pc := 20) hC dX5_nextStep_20 fl_RX5_57 lX_3 rfl rfl ?_
      refine r_ic_ge (pc := 23) (tgt := 115) hC dX5_nextStep_23 rfl (fun hc6 => ?_) (fun hc6 => ?_)
      · have h := h.1 hc6
        refine r_iload_n (pc := 115) hC 2 dX5_nextStep_115 rfl rfl ?_
        exact r_reti (pc := 116) (kd := 0) hC hQ dX5_nextStep_116 hr hk (by decide) (Or.inl rfl) ⟨rfl, h⟩
      have h := h.2 hc6
      refine r_aload_n (pc := 26) hC 0 dX5_nextStep_26 rfl rfl ?_
      refine r_iload_n (pc := 27) hC 1 dX5_nextStep_27 rfl rfl ?_
      refine r_iconst (pc := 28) hC dX5_nextStep_28 (rng_lit rfl) ?_
      refine r_iload (pc := 29) hC dX5_nextStep_29 rfl ?_
      refine r_ishl (pc := 31) hC dX5_nextStep_31 ?_
      refine r_ior (pc := 32) hC dX5_nextStep_32 ?_
      refine r_callVi (pc := 33) hC [aI (iOr a1 (iShl 1 x4))] [] dX5_nextStep_33 ml_RX5_97 my_X5_worthOfSet mi_X5_worthOfSet lX_37 rfl rfl ⟨Nat.le_of_ble_eq_true rfl, Nat.le_of_ble_eq_true rfl⟩ ⟨Nat.le_of_ble_eq_true rfl, Nat.le_of_ble_eq_true rfl⟩ (Nat.le_of_ble_eq_true rfl) rfl (s_Sets_worthOfSet l _ _ _ h) (fun r5 w1 hq => ?_)
      obtain ⟨e9, h⟩ := hq
      rw [e9]
      refine r_iload (pc := 36) hC dX5_nextStep_36 rfl ?_
      refine r_isub (pc := 38) hC dX5_nextStep_38 h.1 ?_
      have h := h.2
      refine r_istore (ls2 := [some (aR 37), some (aI a1), some (aI x2), some (aI x3), some (aI r1), some (aI x4), some (aI (r5 - r1)), none]) (pc := 39) hC dX5_nextStep_39 (by decide) rfl rfl ?_
      refine r_iload_n (pc := 41) hC 2 dX5_nextStep_41 rfl rfl ?_
      refine r_iconst (pc := 42) hC dX5_nextStep_42 (rng_lit rfl) ?_
      obtain ⟨J2, hJ2, h⟩ := h
      have S2 : ∀ (y6 : Int), J2 y6 → Wd p l e (rmD 3) s m args below meth c Q 0 0 8 D cA ad A LX w 78 [some (aR 37), some (aI a1), some (aI x2), some (aI x3), some (aI r1), some (aI x4), some (aI (r5 - r1)), none] [aI y6] := by
        intro y6 hj
        have h := hJ2 y6 hj
        refine r_istore (ls2 := [some (aR 37), some (aI a1), some (aI x2), some (aI x3), some (aI r1), some (aI x4), some (aI (r5 - r1)), some (aI y6)]) (pc := 78) hC dX5_nextStep_78 (by decide) rfl rfl ?_
        refine r_iload (pc := 80) hC dX5_nextStep_80 rfl ?_
        obtain ⟨J3, hJ3, h⟩ := h
        have S3 : ∀ (x7 : Int) (x8 : Int), J3 x7 x8 → Wd p l e (rmD 3) s m args below meth c Q 0 0 8 D cA ad A LX w 109 [some (aR 37), some (aI a1), some (aI x7), some (aI x8), some (aI r1), some (aI x4), none, none] [] := by
          intro x7 x8 hj
          have h := hJ3 x7 x8 hj
          refine r_iinc (ls2 := [some (aR 37), some (aI a1), some (aI x7), some (aI x8), some (aI r1), some (aI (x4 + 1)), none, none]) (pc := 109) hC dX5_nextStep_109 rfl (by decide) rfl h.1 rfl ?_
          have h := h.2
          refine r_goto (tgt := 14) (pc := 112) hC dX5_nextStep_112 rfl ?_
          exact r_to [true, true, true, true, true, true, false, false] rfl rfl (ih1 x7 x8 (x4 + 1) (Nat.lt_of_lt_of_le h.2 (Nat.le_of_lt_succ hn1)) h.1)
        refine r_if_le (pc := 82) (tgt := 109) hC dX5_nextStep_82 rfl (fun hc3 => ?_) (fun hc3 => ?_)
        · have h := h.1 hc3
          exact r_to [true, true, true, true, true, true, false, false] rfl rfl (S3 x2 x3 h)
        have h := h.2 hc3
        refine r_iload (pc := 85) hC dX5_nextStep_85 rfl ?_
        refine r_if_eq (pc := 87) (tgt := 109) hC dX5_nextStep_87 rfl (fun hc2 => ?_) (fun hc2 => ?_)
        · have h := h.1 hc2
          exact r_to [true, true, true, true, true, true, false, false] rfl rfl (S3 x2 x3 h)
        have h := h.2 hc2
        refine r_aload_n (pc := 90) hC 0 dX5_nextStep_90 rfl rfl ?_
        refine r_iload_n (pc := 91) hC 1 dX5_nextStep_91 rfl rfl ?_
        refine r_iconst (pc := 92) hC dX5_nextStep_92 (rng_lit rfl) ?_
        refine r_iload (pc := 93) hC dX5_nextStep_93 rfl ?_
        refine r_ishl (pc := 95) hC dX5_nextStep_95 ?_
        refine r_ior (pc := 96) hC dX5_nextStep_96 ?_
        refine r_callVi (pc := 97) hC [aI (iOr a1 (iShl 1 x4))] [] dX5_nextStep_97 ml_RX5_94 my_X5_mayBe mi_X5_mayBe lX_37 rfl rfl ⟨Nat.le_of_ble_eq_true rfl, Nat.le_of_ble_eq_true rfl⟩ ⟨Nat.le_of_ble_eq_true rfl, Nat.le_of_ble_eq_true rfl⟩ (Nat.le_of_ble_eq_true rfl) rfl (s_Sets_mayBe l _ _ _ h) (fun r9 w1 hq => ?_)
        obtain ⟨e9, h⟩ := hq
        rw [e9]
        refine r_if_eq (pc := 100) (tgt := 109) hC dX5_nextStep_100 rfl (fun hc1 => ?_) (fun hc1 => ?_)
        · have h := h.1 hc1
          exact r_to [true, true, true, true, true, true, false, false] rfl rfl (S3 x2 x3 h)
        have h := h.2 hc1
        refine r_iload (pc := 103) hC dX5_nextStep_103 rfl ?_
        refine r_istore_n (ls2 := [some (aR 37), some (aI a1), some (aI x4), some (aI x3), some (aI r1), some (aI x4), some (aI (r5 - r1)), some (aI y6)]) (pc := 105) hC 2 dX5_nextStep_105 rfl (by decide) rfl rfl ?_
        refine r_iload (pc := 106) hC dX5_nextStep_106 rfl ?_
        refine r_istore_n (ls2 := [some (aR 37), some (aI a1), some (aI x4), some (aI (r5 - r1)), some (aI r1), some (aI x4), some (aI (r5 - r1)), some (aI y6)]) (pc := 108) hC 3 dX5_nextStep_108 rfl (by decide) rfl rfl ?_
        exact r_to [true, true, true, true, true, true, false, false] rfl rfl (S3 x4 (r5 - r1) h)
      obtain ⟨J4, hJ4, h⟩ := h
      have S4 : J4 → Wd p l e (rmD 3) s m args below meth c Q 0 0 8 D cA ad A LX w 73 [some (aR 37), some (aI a1), some (aI x2), some (aI x3), some (aI r1), some (aI x4), some (aI (r5 - r1)), none] [] := by
        intro hj
        have h := hJ4 hj
        refine r_iconst (pc := 73) hC dX5_nextStep_73 (rng_lit rfl) ?_
        refine r_goto (tgt := 78) (pc := 74) hC dX5_nextStep_74 rfl ?_
        exact r_to [true, true, true, true, true, true, true, false] rfl rfl (S2 1 h)
      refine r_ic_eq (pc := 43) (tgt := 73) hC dX5_nextStep_43 rfl (fun hc5 => ?_) (fun hc5 => ?_)
      · have h := h.1 hc5
        exact r_to [true, true, true, true, true, true, true, false] rfl rfl (S4 h)
      have h := h.2 hc5
      refine r_aload_n (pc := 46) hC 0 dX5_nextStep_46 rfl rfl ?_
      refine r_iload (pc := 47) hC dX5_nextStep_47 rfl ?_
      refine r_aload_n (pc := 49) hC 0 dX5_nextStep_49 rfl rfl ?_
      refine r_getr (r := 3) (pc := 50) hC dX5_nextStep_50 fl_RX5_25 lX_37 rfl ?_
      refine r_iload (pc := 53) hC dX5_nextStep_53 rfl ?_
      refine r_callVi (pc := 55) hC [aI x4] [aI (r5 - r1), aR 37] dX5_nextStep_55 ml_RX5_66 my_X1_lengthOf mi_X1_lengthOf lX_3 rfl rfl ⟨Nat.le_of_ble_eq_true rfl, Nat.le_of_ble_eq_true rfl⟩ ⟨Nat.le_of_ble_eq_true rfl, Nat.le_of_ble_eq_true rfl⟩ (Nat.le_of_ble_eq_true rfl) rfl (s_Page_lengthOf l _ _ _ h) (fun r10 w1 hq => ?_)
      obtain ⟨e9, h⟩ := hq
      rw [e9]
      refine r_iload_n (pc := 58) hC 3 dX5_nextStep_58 rfl rfl ?_
      refine r_aload_n (pc := 59) hC 0 dX5_nextStep_59 rfl rfl ?_
      refine r_getr (r := 3) (pc := 60) hC dX5_nextStep_60 fl_RX5_25 lX_37 rfl ?_
      refine r_iload_n (pc := 63) hC 2 dX5_nextStep_63 rfl rfl ?_
      refine r_callVi (pc := 64) hC [aI x2] [aI x3, aI r10, aI (r5 - r1), aR 37] dX5_nextStep_64 ml_RX5_66 my_X1_lengthOf mi_X1_lengthOf lX_3 rfl rfl ⟨Nat.le_of_ble_eq_true rfl, Nat.le_of_ble_eq_true rfl⟩ ⟨Nat.le_of_ble_eq_true rfl, Nat.le_of_ble_eq_true rfl⟩ (Nat.le_of_ble_eq_true rfl) rfl (s_Page_lengthOf l _ _ _ h) (fun r11 w1 hq => ?_)
      obtain ⟨e9, h⟩ := hq
      rw [e9]
      refine r_callVi (pc := 67) hC [aI (r5 - r1), aI r10, aI x3, aI r11] [] dX5_nextStep_67 ml_RX5_106 my_X5_isBetterStep mi_X5_isBetterStep lX_37 rfl rfl ⟨Nat.le_of_ble_eq_true rfl, Nat.le_of_ble_eq_true rfl⟩ ⟨Nat.le_of_ble_eq_true rfl, Nat.le_of_ble_eq_true rfl⟩ (Nat.le_of_ble_eq_true rfl) rfl (s_Sets_isBetterStep l _ _ _ _ _ _ h) (fun r12 w1 hq => ?_)
      obtain ⟨e9, h⟩ := hq
      rw [e9]
      refine r_if_eq (pc := 70) (tgt := 77) hC dX5_nextStep_70 rfl (fun hc4 => ?_) (fun hc4 => ?_)
      · have h := h.1 hc4
        refine r_iconst (pc := 77) hC dX5_nextStep_77 (rng_lit rfl) ?_
        exact r_to [true, true, true, true, true, true, true, false] rfl rfl (S2 0 h)
      have h := h.2 hc4
      exact r_to [true, true, true, true, true, true, true, false] rfl rfl (S4 h)
  exact r_to [true, true, true, true, true, true, false, false] rfl rfl (S1 _ (-1) 0 0 (Nat.lt_succ_self _) hI1)
