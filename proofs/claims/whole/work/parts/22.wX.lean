def wp_Page_areAlike (pg_bytes : (Nat → Int)) (pg_wordBegin : (Nat → Int)) (pg_wordEnd : (Nat → Int)) (pg_length : Int) (a1 : Int) (a2 : Int) (Q : Int → Prop) : Prop := (0 ≤ a1 ∧ a1 < 100) ∧ ((0 ≤ a1 ∧ a1 < 100) ∧ ((rng ((pg_wordEnd (Int.toNat a1)) - (pg_wordBegin (Int.toNat a1)))) ∧ ((0 ≤ a2 ∧ a2 < 100) ∧ ((0 ≤ a2 ∧ a2 < 100) ∧ ((rng ((pg_wordEnd (Int.toNat a2)) - (pg_wordBegin (Int.toNat a2)))) ∧ ((((pg_wordEnd (Int.toNat a2)) - (pg_wordBegin (Int.toNat a2))) = ((pg_wordEnd (Int.toNat a1)) - (pg_wordBegin (Int.toNat a1))) → lpw1 (fun (x1 : Int) (k1 : Int → Prop) => (((pg_wordEnd (Int.toNat a1)) - (pg_wordBegin (Int.toNat a1))) ≤ x1 → Q 1) ∧ (¬ ((pg_wordEnd (Int.toNat a1)) - (pg_wordBegin (Int.toNat a1))) ≤ x1 → (0 ≤ a1 ∧ a1 < 100) ∧ ((rng ((pg_wordBegin (Int.toNat a1)) + x1)) ∧ (wp_Page_at pg_bytes pg_length ((pg_wordBegin (Int.toNat a1)) + x1) (fun (r2 : Int) => wp_Picker_small r2 (fun (r3 : Int) => (0 ≤ a2 ∧ a2 < 100) ∧ ((rng ((pg_wordBegin (Int.toNat a2)) + x1)) ∧ (wp_Page_at pg_bytes pg_length ((pg_wordBegin (Int.toNat a2)) + x1) (fun (r4 : Int) => wp_Picker_small r4 (fun (r5 : Int) => (r3 = r5 → (rng (x1 + 1)) ∧ (k1 (x1 + 1))) ∧ (¬ r3 = r5 → Q 0))))))))))) 0) ∧ (¬ ((pg_wordEnd (Int.toNat a2)) - (pg_wordBegin (Int.toNat a2))) = ((pg_wordEnd (Int.toNat a1)) - (pg_wordBegin (Int.toNat a1))) → Q 0)))))))
set_option maxHeartbeats 4000000 in
set_option maxRecDepth 20000 in
theorem s_Page_areAlike (l : Launch) (w : St) (a1 : Int) (a2 : Int) (P : Int → Prop) (h : wp_Page_areAlike (w.1 4) (w.1 7) (w.1 8) (w.1 3 14) a1 a2 P) : Cn l yX1_areAlike cX1_areAlike 5 (some .boolean) 1 LX w [aR 3, aI a1, aI a2] (okI (fun r w1 => w1 = w ∧ P r)) := by
  unfold wp_Page_areAlike at h
  refine Cn.of2 [some (aR 3), some (aI a1), some (aI a2), none, none] (by decide) (Nat.le_of_ble_eq_true rfl) rfl (fun p e s m args below meth c D cA ad A Q hQ hC hr hk => ?_)
  refine r_aload_n (pc := 0) hC 0 dX1_areAlike_0 rfl rfl ?_
  refine r_getr (r := 8) (pc := 1) hC dX1_areAlike_1 fl_RX1_25 lX_3 rfl ?_
  refine r_iload_n (pc := 4) hC 1 dX1_areAlike_4 rfl rfl ?_
  refine r_iald (v := ((w.1 8) (Int.toNat a1))) (pc := 5) hC dX1_areAlike_5 lX_8 h.1.1 h.1.2 rfl ?_
  have h := h.2
  refine r_aload_n (pc := 6) hC 0 dX1_areAlike_6 rfl rfl ?_
  refine r_getr (r := 7) (pc := 7) hC dX1_areAlike_7 fl_RX1_22 lX_3 rfl ?_
  refine r_iload_n (pc := 10) hC 1 dX1_areAlike_10 rfl rfl ?_
  refine r_iald (v := ((w.1 7) (Int.toNat a1))) (pc := 11) hC dX1_areAlike_11 lX_7 h.1.1 h.1.2 rfl ?_
  have h := h.2
  refine r_isub (pc := 12) hC dX1_areAlike_12 h.1 ?_
  have h := h.2
  refine r_istore_n (ls2 := [some (aR 3), some (aI a1), some (aI a2), some (aI (((w.1 8) (Int.toNat a1)) - ((w.1 7) (Int.toNat a1)))), none]) (pc := 13) hC 3 dX1_areAlike_13 rfl (by decide) rfl rfl ?_
  refine r_aload_n (pc := 14) hC 0 dX1_areAlike_14 rfl rfl ?_
  refine r_getr (r := 8) (pc := 15) hC dX1_areAlike_15 fl_RX1_25 lX_3 rfl ?_
  refine r_iload_n (pc := 18) hC 2 dX1_areAlike_18 rfl rfl ?_
  refine r_iald (v := ((w.1 8) (Int.toNat a2))) (pc := 19) hC dX1_areAlike_19 lX_8 h.1.1 h.1.2 rfl ?_
  have h := h.2
  refine r_aload_n (pc := 20) hC 0 dX1_areAlike_20 rfl rfl ?_
  refine r_getr (r := 7) (pc := 21) hC dX1_areAlike_21 fl_RX1_22 lX_3 rfl ?_
  refine r_iload_n (pc := 24) hC 2 dX1_areAlike_24 rfl rfl ?_
  refine r_iald (v := ((w.1 7) (Int.toNat a2))) (pc := 25) hC dX1_areAlike_25 lX_7 h.1.1 h.1.2 rfl ?_
  have h := h.2
  refine r_isub (pc := 26) hC dX1_areAlike_26 h.1 ?_
  have h := h.2
  refine r_iload_n (pc := 27) hC 3 dX1_areAlike_27 rfl rfl ?_
  refine r_ic_eq (pc := 28) (tgt := 33) hC dX1_areAlike_28 rfl (fun hc3 => ?_) (fun hc3 => ?_)
  · have h := h.1 hc3
    refine r_iconst (pc := 33) hC dX1_areAlike_33 (rng_lit rfl) ?_
    refine r_istore (ls2 := [some (aR 3), some (aI a1), some (aI a2), some (aI (((w.1 8) (Int.toNat a1)) - ((w.1 7) (Int.toNat a1)))), some (aI 0)]) (pc := 34) hC dX1_areAlike_34 (by decide) rfl rfl ?_
    obtain ⟨I1, μ1, hI1, hB1⟩ := h
    have S1 : ∀ (nn : Nat) (x1 : Int), μ1 x1 < nn → I1 x1 → Wd p l e (rmD 1) s m args below meth c Q 0 0 5 D cA ad A LX w 36 [some (aR 3), some (aI a1), some (aI a2), some (aI (((w.1 8) (Int.toNat a1)) - ((w.1 7) (Int.toNat a1)))), some (aI x1)] [] := by
      intro nn
      induction nn with
      | zero => intro x1 hn; exact absurd hn (Nat.not_lt_zero _)
      | succ nn ih1 =>
        intro x1 hn1 hi
        have h := hB1 x1 hi
        refine r_iload (pc := 36) hC dX1_areAlike_36 rfl ?_
        refine r_iload_n (pc := 38) hC 3 dX1_areAlike_38 rfl rfl ?_
        refine r_ic_ge (pc := 39) (tgt := 85) hC dX1_areAlike_39 rfl (fun hc2 => ?_) (fun hc2 => ?_)
        · have h := h.1 hc2
          refine r_iconst (pc := 85) hC dX1_areAlike_85 (rng_lit rfl) ?_
          exact r_reti (pc := 86) (kd := 1) hC hQ dX1_areAlike_86 hr hk (by decide) (Or.inr okK1_1) ⟨rfl, h⟩
        have h := h.2 hc2
        refine r_aload_n (pc := 42) hC 0 dX1_areAlike_42 rfl rfl ?_
        refine r_aload_n (pc := 43) hC 0 dX1_areAlike_43 rfl rfl ?_
        refine r_getr (r := 7) (pc := 44) hC dX1_areAlike_44 fl_RX1_22 lX_3 rfl ?_
        refine r_iload_n (pc := 47) hC 1 dX1_areAlike_47 rfl rfl ?_
        refine r_iald (v := ((w.1 7) (Int.toNat a1))) (pc := 48) hC dX1_areAlike_48 lX_7 h.1.1 h.1.2 rfl ?_
        have h := h.2
        refine r_iload (pc := 49) hC dX1_areAlike_49 rfl ?_
        refine r_iadd (pc := 51) hC dX1_areAlike_51 h.1 ?_
        have h := h.2
        refine r_callVi (pc := 52) hC [aI (((w.1 7) (Int.toNat a1)) + x1)] [] dX1_areAlike_52 ml_RX1_82 my_X1_at mi_X1_at lX_3 rfl rfl ⟨Nat.le_of_ble_eq_true rfl, Nat.le_of_ble_eq_true rfl⟩ ⟨Nat.le_of_ble_eq_true rfl, Nat.le_of_ble_eq_true rfl⟩ (Nat.le_of_ble_eq_true rfl) rfl (s_Page_at l _ _ _ h) (fun r2 w1 hq => ?_)
        obtain ⟨e9, h⟩ := hq
        rw [e9]
        refine r_callSNi (pc := 55) hC [aI r2] [] dX1_areAlike_55 nl_RX1_90 my_X9_small ms_X9_small rfl ⟨Nat.le_of_ble_eq_true rfl, Nat.le_of_ble_eq_true rfl⟩ ⟨Nat.le_of_ble_eq_true rfl, Nat.le_of_ble_eq_true rfl⟩ (Nat.le_of_ble_eq_true rfl) rfl (s_Picker_small l _ _ _ h) (fun r3 w1 hq => ?_)
        obtain ⟨e9, h⟩ := hq
        rw [e9]
        refine r_aload_n (pc := 58) hC 0 dX1_areAlike_58 rfl rfl ?_
        refine r_aload_n (pc := 59) hC 0 dX1_areAlike_59 rfl rfl ?_
        refine r_getr (r := 7) (pc := 60) hC dX1_areAlike_60 fl_RX1_22 lX_3 rfl ?_
        refine r_iload_n (pc := 63) hC 2 dX1_areAlike_63 rfl rfl ?_
        refine r_iald (v := ((w.1 7) (Int.toNat a2))) (pc := 64) hC dX1_areAlike_64 lX_7 h.1.1 h.1.2 rfl ?_
        have h := h.2
        refine r_iload (pc := 65) hC dX1_areAlike_65 rfl ?_
        refine r_iadd (pc := 67) hC dX1_areAlike_67 h.1 ?_
        have h := h.2
        refine r_callVi (pc := 68) hC [aI (((w.1 7) (Int.toNat a2)) + x1)] [aI r3] dX1_areAlike_68 ml_RX1_82 my_X1_at mi_X1_at lX_3 rfl rfl ⟨Nat.le_of_ble_eq_true rfl, Nat.le_of_ble_eq_true rfl⟩ ⟨Nat.le_of_ble_eq_true rfl, Nat.le_of_ble_eq_true rfl⟩ (Nat.le_of_ble_eq_true rfl) rfl (s_Page_at l _ _ _ h) (fun r4 w1 hq => ?_)
        obtain ⟨e9, h⟩ := hq
        rw [e9]
        refine r_callSNi (pc := 71) hC [aI r4] [aI r3] dX1_areAlike_71 nl_RX1_90 my_X9_small ms_X9_small rfl ⟨Nat.le_of_ble_eq_true rfl, Nat.le_of_ble_eq_true rfl⟩ ⟨Nat.le_of_ble_eq_true rfl, Nat.le_of_ble_eq_true rfl⟩ (Nat.le_of_ble_eq_true rfl) rfl (s_Picker_small l _ _ _ h) (fun r5 w1 hq => ?_)
        obtain ⟨e9, h⟩ := hq
        rw [e9]
        refine r_ic_eq (pc := 74) (tgt := 79) hC dX1_areAlike_74 rfl (fun hc1 => ?_) (fun hc1 => ?_)
        · have h := h.1 hc1
          refine r_iinc (ls2 := [some (aR 3), some (aI a1), some (aI a2), some (aI (((w.1 8) (Int.toNat a1)) - ((w.1 7) (Int.toNat a1)))), some (aI (x1 + 1))]) (pc := 79) hC dX1_areAlike_79 rfl (by decide) rfl h.1 rfl ?_
          have h := h.2
          refine r_goto (tgt := 36) (pc := 82) hC dX1_areAlike_82 rfl ?_
          exact r_to [true, true, true, true, true] rfl rfl (ih1 (x1 + 1) (Nat.lt_of_lt_of_le h.2 (Nat.le_of_lt_succ hn1)) h.1)
        have h := h.2 hc1
        refine r_iconst (pc := 77) hC dX1_areAlike_77 (rng_lit rfl) ?_
        exact r_reti (pc := 78) (kd := 1) hC hQ dX1_areAlike_78 hr hk (by decide) (Or.inr okK1_0) ⟨rfl, h⟩
    exact r_to [true, true, true, true, true] rfl rfl (S1 _ 0 (Nat.lt_succ_self _) hI1)
  have h := h.2 hc3
  refine r_iconst (pc := 31) hC dX1_areAlike_31 (rng_lit rfl) ?_
  exact r_reti (pc := 32) (kd := 1) hC hQ dX1_areAlike_32 hr hk (by decide) (Or.inr okK1_0) ⟨rfl, h⟩
def wp_Page_findAlike (pg_bytes : (Nat → Int)) (pg_wordBegin : (Nat → Int)) (pg_wordEnd : (Nat → Int)) (pg_wordAlike : (Nat → Int)) (pg_length : Int) (pg_words : Int) (Q : (Nat → Int) → Prop) : Prop := lpw2 (fun (pg_wordAlike_1 : (Nat → Int)) (x2 : Int) (k1 : (Nat → Int) → Int → Prop) => (pg_words ≤ x2 → Q pg_wordAlike_1) ∧ (¬ pg_words ≤ x2 → (0 ≤ x2 ∧ x2 < 100) ∧ (lpw1 (fun (x3 : Int) (k2 : Int → Prop) => jn1 (fun (J3 : (Nat → Int) → Prop) => (x2 ≤ x3 → J3 (uI pg_wordAlike_1 x2 x2)) ∧ (¬ x2 ≤ x3 → wp_Page_areAlike pg_bytes pg_wordBegin pg_wordEnd pg_length x3 x2 (fun (r5 : Int) => (r5 = 0 → (rng (x3 + 1)) ∧ (k2 (x3 + 1))) ∧ (¬ r5 = 0 → (0 ≤ x2 ∧ x2 < 100) ∧ (J3 (uI (uI pg_wordAlike_1 x2 x2) x2 x3)))))) (fun (pg_wordAlike_4 : (Nat → Int)) => (rng (x2 + 1)) ∧ (k1 pg_wordAlike_4 (x2 + 1)))) 0))) pg_wordAlike 0
set_option maxHeartbeats 4000000 in
set_option maxRecDepth 20000 in
theorem s_Page_findAlike (l : Launch) (w : St) (P : (Nat → Int) → Prop) (h : wp_Page_findAlike (w.1 4) (w.1 7) (w.1 8) (w.1 10) (w.1 3 14) (w.1 3 16) P) : Cn l yX1_findAlike cX1_findAlike 3 none 2 LX w [aR 3] (okV (fun w1 => ∃ (o0 : (Nat → Int)), w1 = (wA w 10 o0) ∧ P o0)) := by
  unfold wp_Page_findAlike at h
  refine Cn.of2 [some (aR 3), none, none] (by decide) (Nat.le_of_ble_eq_true rfl) rfl (fun p e s m args below meth c D cA ad A Q hQ hC hr hk => ?_)
  refine r_iconst (pc := 0) hC dX1_findAlike_0 (rng_lit rfl) ?_
  refine r_istore_n (ls2 := [some (aR 3), some (aI 0), none]) (pc := 1) hC 1 dX1_findAlike_1 rfl (by decide) rfl rfl ?_
  obtain ⟨I1, μ1, hI1, hB1⟩ := h
  have S1 : ∀ (nn : Nat) (pg_wordAlike_1 : (Nat → Int)) (x2 : Int), μ1 pg_wordAlike_1 x2 < nn → I1 pg_wordAlike_1 x2 → Wd p l e (rmD 2) s m args below meth c Q 0 0 3 D cA ad A LX (wA w 10 pg_wordAlike_1) 2 [some (aR 3), some (aI x2), none] [] := by
    intro nn
    induction nn with
    | zero => intro pg_wordAlike_1 x2 hn; exact absurd hn (Nat.not_lt_zero _)
    | succ nn ih1 =>
      intro pg_wordAlike_1 x2 hn1 hi
      have h := hB1 pg_wordAlike_1 x2 hi
      refine r_iload_n (pc := 2) hC 1 dX1_findAlike_2 rfl rfl ?_
      refine r_aload_n (pc := 3) hC 0 dX1_findAlike_3 rfl rfl ?_
      refine r_get (kd := 0) (v := (w.1 3 16)) (pc := 4) hC dX1_findAlike_4 fl_RX1_96 lX_3 rfl rfl ?_
      refine r_ic_ge (pc := 7) (tgt := 55) hC dX1_findAlike_7 rfl (fun hc3 => ?_) (fun hc3 => ?_)
      · have h := h.1 hc3
        refine r_conv (w2 := (wA w 10 pg_wordAlike_1)) rfl ?_
        exact r_retv (pc := 55) hC hQ dX1_findAlike_55 hr hk ⟨pg_wordAlike_1, rfl, h⟩
      have h := h.2 hc3
      refine r_aload_n (pc := 10) hC 0 dX1_findAlike_10 rfl rfl ?_
      refine r_getr (r := 10) (pc := 11) hC dX1_findAlike_11 fl_RX1_31 lX_3 rfl ?_
      refine r_iload_n (pc := 14) hC 1 dX1_findAlike_14 rfl rfl ?_
      refine r_iload_n (pc := 15) hC 1 dX1_findAlike_15 rfl rfl ?_
      refine r_iast (pc := 16) hC dX1_findAlike_16 lX_10 h.1.1 h.1.2 ?_
      have h := h.2
      refine r_iconst (pc := 17) hC dX1_findAlike_17 (rng_lit rfl) ?_
      refine r_istore_n (ls2 := [some (aR 3), some (aI x2), some (aI 0)]) (pc := 18) hC 2 dX1_findAlike_18 rfl (by decide) rfl rfl ?_
      obtain ⟨I2, μ2, hI2, hB2⟩ := h
      have S2 : ∀ (nn : Nat) (x3 : Int), μ2 x3 < nn → I2 x3 → Wd p l e (rmD 2) s m args below meth c Q 0 0 3 D cA ad A LX (wA w 10 (uI pg_wordAlike_1 x2 x2)) 19 [some (aR 3), some (aI x2), some (aI x3)] [] := by
        intro nn
        induction nn with
        | zero => intro x3 hn; exact absurd hn (Nat.not_lt_zero _)
        | succ nn ih2 =>
          intro x3 hn2 hi
          have h := hB2 x3 hi
          refine r_iload_n (pc := 19) hC 2 dX1_findAlike_19 rfl rfl ?_
          refine r_iload_n (pc := 20) hC 1 dX1_findAlike_20 rfl rfl ?_
          obtain ⟨J3, hJ3, h⟩ := h
          have S3 : ∀ (pg_wordAlike_4 : (Nat → Int)), J3 pg_wordAlike_4 → Wd p l e (rmD 2) s m args below meth c Q 0 0 3 D cA ad A LX (wA w 10 pg_wordAlike_4) 49 [some (aR 3), some (aI x2), none] [] := by
            intro pg_wordAlike_4 hj
            have h := hJ3 pg_wordAlike_4 hj
            refine r_iinc (ls2 := [some (aR 3), some (aI (x2 + 1)), none]) (pc := 49) hC dX1_findAlike_49 rfl (by decide) rfl h.1 rfl ?_
            have h := h.2
            refine r_goto (tgt := 2) (pc := 52) hC dX1_findAlike_52 rfl ?_
            exact r_to [true, true, false] rfl rfl (ih1 pg_wordAlike_4 (x2 + 1) (Nat.lt_of_lt_of_le h.2 (Nat.le_of_lt_succ hn1)) h.1)
          refine r_ic_ge (pc := 21) (tgt := 49) hC dX1_findAlike_21 rfl (fun hc2 => ?_) (fun hc2 => ?_)
          · have h := h.1 hc2
            exact r_to [true, true, false] rfl rfl (S3 (uI pg_wordAlike_1 x2 x2) h)
          have h := h.2 hc2
          refine r_aload_n (pc := 24) hC 0 dX1_findAlike_24 rfl rfl ?_
          refine r_iload_n (pc := 25) hC 2 dX1_findAlike_25 rfl rfl ?_
          refine r_iload_n (pc := 26) hC 1 dX1_findAlike_26 rfl rfl ?_
          refine r_callVi (pc := 27) hC [aI x3, aI x2] [] dX1_findAlike_27 ml_RX1_133 my_X1_areAlike mi_X1_areAlike lX_3 rfl rfl ⟨Nat.le_of_ble_eq_true rfl, Nat.le_of_ble_eq_true rfl⟩ ⟨Nat.le_of_ble_eq_true rfl, Nat.le_of_ble_eq_true rfl⟩ (Nat.le_of_ble_eq_true rfl) rfl (s_Page_areAlike l _ _ _ _ h) (fun r5 w1 hq => ?_)
          obtain ⟨e9, h⟩ := hq
          rw [e9]
          refine r_if_eq (pc := 30) (tgt := 43) hC dX1_findAlike_30 rfl (fun hc1 => ?_) (fun hc1 => ?_)
          · have h := h.1 hc1
            refine r_iinc (ls2 := [some (aR 3), some (aI x2), some (aI (x3 + 1))]) (pc := 43) hC dX1_findAlike_43 rfl (by decide) rfl h.1 rfl ?_
            have h := h.2
            refine r_goto (tgt := 19) (pc := 46) hC dX1_findAlike_46 rfl ?_
            exact r_to [true, true, true] rfl rfl (ih2 (x3 + 1) (Nat.lt_of_lt_of_le h.2 (Nat.le_of_lt_succ hn2)) h.1)
          have h := h.2 hc1
          refine r_aload_n (pc := 33) hC 0 dX1_findAlike_33 rfl rfl ?_
          refine r_getr (r := 10) (pc := 34) hC dX1_findAlike_34 fl_RX1_31 lX_3 rfl ?_
          refine r_iload_n (pc := 37) hC 1 dX1_findAlike_37 rfl rfl ?_
          refine r_iload_n (pc := 38) hC 2 dX1_findAlike_38 rfl rfl ?_
          refine r_iast (pc := 39) hC dX1_findAlike_39 lX_10 h.1.1 h.1.2 ?_
          have h := h.2
          refine r_goto (tgt := 49) (pc := 40) hC dX1_findAlike_40 rfl ?_
          exact r_to [true, true, false] rfl rfl (S3 (uI (uI pg_wordAlike_1 x2 x2) x2 x3) h)
      exact r_to [true, true, true] rfl rfl (S2 _ 0 (Nat.lt_succ_self _) hI2)
  exact r_to [true, true, false] rfl rfl (S1 _ (w.1 10) 0 (Nat.lt_succ_self _) hI1)
def wp_Page_addToSentence (pg_wordAlike : (Nat → Int)) (pg_sentenceFirst : (Nat → Int)) (pg_sentenceWords : (Nat → Int)) (pg_lowWords : (Nat → Int64)) (pg_highWords : (Nat → Int64)) (a1 : Int) (a2 : Int) (Q : (Nat → Int) → (Nat → Int) → (Nat → Int64) → (Nat → Int64) → Prop) : Prop := (0 ≤ a2 ∧ a2 < 14) ∧ (jn1 (fun (J1 : (Nat → Int) → Prop) => (¬ (pg_sentenceWords (Int.toNat a2)) = 0 → J1 pg_sentenceFirst) ∧ ((pg_sentenceWords (Int.toNat a2)) = 0 → (0 ≤ a2 ∧ a2 < 14) ∧ (J1 (uI pg_sentenceFirst a2 a1)))) (fun (pg_sentenceFirst_1 : (Nat → Int)) => (0 ≤ a2 ∧ a2 < 14) ∧ ((rng ((pg_sentenceWords (Int.toNat a2)) + 1)) ∧ ((0 ≤ a2 ∧ a2 < 14) ∧ ((0 ≤ a1 ∧ a1 < 100) ∧ ((64 ≤ (pg_wordAlike (Int.toNat a1)) → (0 ≤ a2 ∧ a2 < 14) ∧ ((rng ((pg_wordAlike (Int.toNat a1)) - 64)) ∧ ((0 ≤ a2 ∧ a2 < 14) ∧ (Q pg_sentenceFirst_1 (uI pg_sentenceWords a2 ((pg_sentenceWords (Int.toNat a2)) + 1)) pg_lowWords (uL pg_highWords a2 ((pg_highWords (Int.toNat a2)) ||| (lShl 1 ((pg_wordAlike (Int.toNat a1)) - 64)))))))) ∧ (¬ 64 ≤ (pg_wordAlike (Int.toNat a1)) → (0 ≤ a2 ∧ a2 < 14) ∧ ((0 ≤ a2 ∧ a2 < 14) ∧ (Q pg_sentenceFirst_1 (uI pg_sentenceWords a2 ((pg_sentenceWords (Int.toNat a2)) + 1)) (uL pg_lowWords a2 ((pg_lowWords (Int.toNat a2)) ||| (lShl 1 (pg_wordAlike (Int.toNat a1))))) pg_highWords)))))))))
set_option maxHeartbeats 4000000 in
set_option maxRecDepth 20000 in
theorem s_Page_addToSentence (l : Launch) (w : St) (a1 : Int) (a2 : Int) (P : (Nat → Int) → (Nat → Int) → (Nat → Int64) → (Nat → Int64) → Prop) (h : wp_Page_addToSentence (w.1 10) (w.1 14) (w.1 15) (w.2 16) (w.2 17) a1 a2 P) : Cn l yX1_addToSentence cX1_addToSentence 4 none 0 LX w [aR 3, aI a1, aI a2] (okV (fun w1 => ∃ (o0 : (Nat → Int)) (o1 : (Nat → Int)) (o2 : (Nat → Int64)) (o3 : (Nat → Int64)), w1 = (wB (wB (wA (wA w 14 o0) 15 o1) 16 o2) 17 o3) ∧ P o0 o1 o2 o3)) := by
  unfold wp_Page_addToSentence at h
  refine Cn.of2 [some (aR 3), some (aI a1), some (aI a2), none] (by decide) (Nat.le_of_ble_eq_true rfl) rfl (fun p e s m args below meth c D cA ad A Q hQ hC hr hk => ?_)
  refine r_aload_n (pc := 0) hC 0 dX1_addToSentence_0 rfl rfl ?_
  refine r_getr (r := 15) (pc := 1) hC dX1_addToSentence_1 fl_RX1_46 lX_3 rfl ?_
  refine r_iload_n (pc := 4) hC 2 dX1_addToSentence_4 rfl rfl ?_
  refine r_iald (v := ((w.1 15) (Int.toNat a2))) (pc := 5) hC dX1_addToSentence_5 lX_15 h.1.1 h.1.2 rfl ?_
  have h := h.2
  obtain ⟨J1, hJ1, h⟩ := h
  have S1 : ∀ (pg_sentenceFirst_1 : (Nat → Int)), J1 pg_sentenceFirst_1 → Wd p l e (rmD 0) s m args below meth c Q 0 0 4 D cA ad A LX (wA w 14 pg_sentenceFirst_1) 16 [some (aR 3), some (aI a1), some (aI a2), none] [] := by
    intro pg_sentenceFirst_1 hj
    have h := hJ1 pg_sentenceFirst_1 hj
    refine r_aload_n (pc := 16) hC 0 dX1_addToSentence_16 rfl rfl ?_
    refine r_getr (r := 15) (pc := 17) hC dX1_addToSentence_17 fl_RX1_46 lX_3 rfl ?_
    refine r_iload_n (pc := 20) hC 2 dX1_addToSentence_20 rfl rfl ?_
    refine r_dup2 (pc := 21) hC dX1_addToSentence_21 rfl rfl ?_
    refine r_iald (v := ((w.1 15) (Int.toNat a2))) (pc := 22) hC dX1_addToSentence_22 lX_15 h.1.1 h.1.2 rfl ?_
    have h := h.2
    refine r_iconst (pc := 23) hC dX1_addToSentence_23 (rng_lit rfl) ?_
    refine r_iadd (pc := 24) hC dX1_addToSentence_24 h.1 ?_
    have h := h.2
    refine r_iast (pc := 25) hC dX1_addToSentence_25 lX_15 h.1.1 h.1.2 ?_
    have h := h.2
    refine r_aload_n (pc := 26) hC 0 dX1_addToSentence_26 rfl rfl ?_
    refine r_getr (r := 10) (pc := 27) hC dX1_addToSentence_27 fl_RX1_31 lX_3 rfl ?_
    refine r_iload_n (pc := 30) hC 1 dX1_addToSentence_30 rfl rfl ?_
    refine r_iald (v := ((w.1 10) (Int.toNat a1))) (pc := 31) hC dX1_addToSentence_31 lX_10 h.1.1 h.1.2 rfl ?_
    have h := h.2
    refine r_istore_n (ls2 := [some (aR 3), some (aI a1), some (aI a2), some (aI ((w.1 10) (Int.toNat a1)))]) (pc := 32) hC 3 dX1_addToSentence_32 rfl (by decide) rfl rfl ?_
    refine r_iload_n (pc := 33) hC 3 dX1_addToSentence_33 rfl rfl ?_
    refine r_bipush (pc := 34) hC dX1_addToSentence_34 ⟨rfl, rng_lit rfl⟩ ?_
    refine r_ic_ge (pc := 36) (tgt := 54) hC dX1_addToSentence_36 rfl (fun hc1 => ?_) (fun hc1 => ?_)
    · have h := h.1 hc1
      refine r_aload_n (pc := 54) hC 0 dX1_addToSentence_54 rfl rfl ?_
      refine r_getr (r := 17) (pc := 55) hC dX1_addToSentence_55 fl_RX1_53 lX_3 rfl ?_
      refine r_iload_n (pc := 58) hC 2 dX1_addToSentence_58 rfl rfl ?_
      refine r_dup2 (pc := 59) hC dX1_addToSentence_59 rfl rfl ?_
      refine r_lald (v := ((w.2 17) (Int.toNat a2))) (pc := 60) hC dX1_addToSentence_60 lX_17 h.1.1 h.1.2 rfl ?_
      have h := h.2
      refine r_lconst (x := 1) (pc := 61) hC dX1_addToSentence_61 rfl ?_
      refine r_iload_n (pc := 62) hC 3 dX1_addToSentence_62 rfl rfl ?_
      refine r_bipush (pc := 63) hC dX1_addToSentence_63 ⟨rfl, rng_lit rfl⟩ ?_
      refine r_isub (pc := 65) hC dX1_addToSentence_65 h.1 ?_
      have h := h.2
      refine r_lshl (pc := 66) hC dX1_addToSentence_66 ?_
      refine r_lor (pc := 67) hC dX1_addToSentence_67 ?_
      refine r_last (pc := 68) hC dX1_addToSentence_68 lX_17 h.1.1 h.1.2 ?_
      have h := h.2
      refine r_conv (w2 := (wB (wB (wA (wA w 14 pg_sentenceFirst_1) 15 (uI (w.1 15) a2 (((w.1 15) (Int.toNat a2)) + 1))) 16 (w.2 16)) 17 (uL (w.2 17) a2 (((w.2 17) (Int.toNat a2)) ||| (lShl 1 (((w.1 10) (Int.toNat a1)) - 64)))))) rfl ?_
      exact r_retv (pc := 69) hC hQ dX1_addToSentence_69 hr hk ⟨pg_sentenceFirst_1, (uI (w.1 15) a2 (((w.1 15) (Int.toNat a2)) + 1)), (w.2 16), (uL (w.2 17) a2 (((w.2 17) (Int.toNat a2)) ||| (lShl 1 (((w.1 10) (Int.toNat a1)) - 64)))), rfl, h⟩
    have h := h.2 hc1
    refine r_aload_n (pc := 39) hC 0 dX1_addToSentence_39 rfl rfl ?_
    refine r_getr (r := 16) (pc := 40) hC dX1_addToSentence_40 fl_RX1_49 lX_3 rfl ?_
    refine r_iload_n (pc := 43) hC 2 dX1_addToSentence_43 rfl rfl ?_
    refine r_dup2 (pc := 44) hC dX1_addToSentence_44 rfl rfl ?_
    refine r_lald (v := ((w.2 16) (Int.toNat a2))) (pc := 45) hC dX1_addToSentence_45 lX_16 h.1.1 h.1.2 rfl ?_
    have h := h.2
    refine r_lconst (x := 1) (pc := 46) hC dX1_addToSentence_46 rfl ?_
    refine r_iload_n (pc := 47) hC 3 dX1_addToSentence_47 rfl rfl ?_
    refine r_lshl (pc := 48) hC dX1_addToSentence_48 ?_
    refine r_lor (pc := 49) hC dX1_addToSentence_49 ?_
    refine r_last (pc := 50) hC dX1_addToSentence_50 lX_16 h.1.1 h.1.2 ?_
    have h := h.2
    refine r_goto (tgt := 69) (pc := 51) hC dX1_addToSentence_51 rfl ?_
    refine r_conv (w2 := (wB (wB (wA (wA w 14 pg_sentenceFirst_1) 15 (uI (w.1 15) a2 (((w.1 15) (Int.toNat a2)) + 1))) 16 (uL (w.2 16) a2 (((w.2 16) (Int.toNat a2)) ||| (lShl 1 ((w.1 10) (Int.toNat a1)))))) 17 (w.2 17))) rfl ?_
    exact r_retv (pc := 69) hC hQ dX1_addToSentence_69 hr hk ⟨pg_sentenceFirst_1, (uI (w.1 15) a2 (((w.1 15) (Int.toNat a2)) + 1)), (uL (w.2 16) a2 (((w.2 16) (Int.toNat a2)) ||| (lShl 1 ((w.1 10) (Int.toNat a1))))), (w.2 17), rfl, h⟩
  refine r_if_ne (pc := 6) (tgt := 16) hC dX1_addToSentence_6 rfl (fun hc2 => ?_) (fun hc2 => ?_)
  · have h := h.1 hc2
    exact r_to [true, true, true, false] rfl rfl (S1 (w.1 14) h)
  have h := h.2 hc2
  refine r_aload_n (pc := 9) hC 0 dX1_addToSentence_9 rfl rfl ?_
  refine r_getr (r := 14) (pc := 10) hC dX1_addToSentence_10 fl_RX1_43 lX_3 rfl ?_
  refine r_iload_n (pc := 13) hC 2 dX1_addToSentence_13 rfl rfl ?_
  refine r_iload_n (pc := 14) hC 1 dX1_addToSentence_14 rfl rfl ?_
  refine r_iast (pc := 15) hC dX1_addToSentence_15 lX_14 h.1.1 h.1.2 ?_
  have h := h.2
  exact r_to [true, true, true, false] rfl rfl (S1 (uI (w.1 14) a2 a1) h)
def wp_Page_placeWords (pg_wordBegin : (Nat → Int)) (pg_wordSentence : (Nat → Int)) (pg_wordAlike : (Nat → Int)) (pg_sentenceEnd : (Nat → Int)) (pg_sentenceFirst : (Nat → Int)) (pg_sentenceWords : (Nat → Int)) (pg_words : Int) (pg_sentences : Int) (pg_lowWords : (Nat → Int64)) (pg_highWords : (Nat → Int64)) (Q : (Nat → Int) → (Nat → Int) → (Nat → Int) → (Nat → Int64) → (Nat → Int64) → Prop) : Prop := lpw5 (fun (pg_sentenceFirst_1 : (Nat → Int)) (pg_sentenceWords_2 : (Nat → Int)) (pg_lowWords_3 : (Nat → Int64)) (pg_highWords_4 : (Nat → Int64)) (x5 : Int) (k1 : (Nat → Int) → (Nat → Int) → (Nat → Int64) → (Nat → Int64) → Int → Prop) => (pg_sentences ≤ x5 → lpw7 (fun (pg_wordSentence_6 : (Nat → Int)) (pg_sentenceFirst_7 : (Nat → Int)) (pg_sentenceWords_8 : (Nat → Int)) (pg_lowWords_9 : (Nat → Int64)) (pg_highWords_10 : (Nat → Int64)) (x11 : Int) (x12 : Int) (k2 : (Nat → Int) → (Nat → Int) → (Nat → Int) → (Nat → Int64) → (Nat → Int64) → Int → Int → Prop) => (pg_words ≤ x12 → Q pg_wordSentence_6 pg_sentenceFirst_7 pg_sentenceWords_8 pg_lowWords_9 pg_highWords_10) ∧ (¬ pg_words ≤ x12 → lpw1 (fun (x13 : Int) (k3 : Int → Prop) => jn0 (fun (J4 : Prop) => (pg_sentences ≤ x13 → J4) ∧ (¬ pg_sentences ≤ x13 → (0 ≤ x13 ∧ x13 < 14) ∧ ((0 ≤ x12 ∧ x12 < 100) ∧ (((pg_wordBegin (Int.toNat x12)) < (pg_sentenceEnd (Int.toNat x13)) → J4) ∧ (¬ (pg_wordBegin (Int.toNat x12)) < (pg_sentenceEnd (Int.toNat x13)) → (rng (x13 + 1)) ∧ (k3 (x13 + 1))))))) (jn1 (fun (J5 : Int → Prop) => (pg_sentences ≤ x13 → J5 (-1)) ∧ (¬ pg_sentences ≤ x13 → J5 x13)) (fun (y14 : Int) => (0 ≤ x12 ∧ x12 < 100) ∧ (jn4 (fun (J6 : (Nat → Int) → (Nat → Int) → (Nat → Int64) → (Nat → Int64) → Prop) => (pg_sentences ≤ x13 → J6 pg_sentenceFirst_7 pg_sentenceWords_8 pg_lowWords_9 pg_highWords_10) ∧ (¬ pg_sentences ≤ x13 → wp_Page_addToSentence pg_wordAlike pg_sentenceFirst_7 pg_sentenceWords_8 pg_lowWords_9 pg_highWords_10 x12 x13 (fun (pg_sentenceFirst_19 : (Nat → Int)) (pg_sentenceWords_20 : (Nat → Int)) (pg_lowWords_21 : (Nat → Int64)) (pg_highWords_22 : (Nat → Int64)) => J6 pg_sentenceFirst_19 pg_sentenceWords_20 pg_lowWords_21 pg_highWords_22))) (fun (pg_sentenceFirst_15 : (Nat → Int)) (pg_sentenceWords_16 : (Nat → Int)) (pg_lowWords_17 : (Nat → Int64)) (pg_highWords_18 : (Nat → Int64)) => (rng (x12 + 1)) ∧ (k2 (uI pg_wordSentence_6 x12 y14) pg_sentenceFirst_15 pg_sentenceWords_16 pg_lowWords_17 pg_highWords_18 x13 (x12 + 1))))))) x11)) pg_wordSentence pg_sentenceFirst_1 pg_sentenceWords_2 pg_lowWords_3 pg_highWords_4 0 0) ∧ (¬ pg_sentences ≤ x5 → (0 ≤ x5 ∧ x5 < 14) ∧ ((0 ≤ x5 ∧ x5 < 14) ∧ ((0 ≤ x5 ∧ x5 < 14) ∧ ((0 ≤ x5 ∧ x5 < 14) ∧ ((rng (x5 + 1)) ∧ (k1 (uI pg_sentenceFirst_1 x5 (-1)) (uI pg_sentenceWords_2 x5 0) (uL pg_lowWords_3 x5 0) (uL pg_highWords_4 x5 0) (x5 + 1)))))))) pg_sentenceFirst pg_sentenceWords pg_lowWords pg_highWords 0
set_option maxHeartbeats 4000000 in
set_option maxRecDepth 20000 in
theorem s_Page_placeWords (l : Launch) (w : St) (P : (Nat → Int) → (Nat → Int) → (Nat → Int) → (Nat → Int64) → (Nat → Int64) → Prop) (h : wp_Page_placeWords (w.1 7) (w.1 9) (w.1 10) (w.1 12) (w.1 14) (w.1 15) (w.1 3 16) (w.1 3 17) (w.2 16) (w.2 17) P) : Cn l yX1_placeWords cX1_placeWords 3 none 1 LX w [aR 3] (okV (fun w1 => ∃ (o0 : (Nat → Int)) (o1 : (Nat → Int)) (o2 : (Nat → Int)) (o3 : (Nat → Int64)) (o4 : (Nat → Int64)), w1 = (wB (wB (wA (wA (wA w 9 o0) 14 o1) 15 o2) 16 o3) 17 o4) ∧ P o0 o1 o2 o3 o4)) := by
  unfold wp_Page_placeWords at h
  refine Cn.of2 [some (aR 3), none, none] (by decide) (Nat.le_of_ble_eq_true rfl) rfl (fun p e s m args below meth c D cA ad A Q hQ hC hr hk => ?_)
  refine r_iconst (pc := 0) hC dX1_placeWords_0 (rng_lit rfl) ?_
  refine r_istore_n (ls2 := [some (aR 3), some (aI 0), none]) (pc := 1) hC 1 dX1_placeWords_1 rfl (by decide) rfl rfl ?_
  obtain ⟨I1, μ1, hI1, hB1⟩ := h
  have S1 : ∀ (nn : Nat) (pg_sentenceFirst_1 : (Nat → Int)) (pg_sentenceWords_2 : (Nat → Int)) (pg_lowWords_3 : (Nat → Int64)) (pg_highWords_4 : (Nat → Int64)) (x5 : Int), μ1 pg_sentenceFirst_1 pg_sentenceWords_2 pg_lowWords_3 pg_highWords_4 x5 < nn → I1 pg_sentenceFirst_1 pg_sentenceWords_2 pg_lowWords_3 pg_highWords_4 x5 → Wd p l e (rmD 1) s m args below meth c Q 0 0 3 D cA ad A LX (wB (wB (wA (wA w 14 pg_sentenceFirst_1) 15 pg_sentenceWords_2) 16 pg_lowWords_3) 17 pg_highWords_4) 2 [some (aR 3), some (aI x5), none] [] := by
    intro nn
    induction nn with
    | zero => intro pg_sentenceFirst_1 pg_sentenceWords_2 pg_lowWords_3 pg_highWords_4 x5 hn; exact absurd hn (Nat.not_lt_zero _)
    | succ nn ih1 =>
      intro pg_sentenceFirst_1 pg_sentenceWords_2 pg_lowWords_3 pg_highWords_4 x5 hn1 hi
      have h := hB1 pg_sentenceFirst_1 pg_sentenceWords_2 pg_lowWords_3 pg_highWords_4 x5 hi
      refine r_iload_n (pc := 2) hC 1 dX1_placeWords_2 rfl rfl ?_
      refine r_aload_n (pc := 3) hC 0 dX1_placeWords_3 rfl rfl ?_
      refine r_get (kd := 0) (v := (w.1 3 17)) (pc := 4) hC dX1_placeWords_4 fl_RX1_102 lX_3 rfl rfl ?_
      refine r_ic_ge (pc := 7) (tgt := 44) hC dX1_placeWords_7 rfl (fun hc6 => ?_) (fun hc6 => ?_)
      · have h := h.1 hc6
        refine r_iconst (pc := 44) hC dX1_placeWords_44 (rng_lit rfl) ?_
        refine r_istore_n (ls2 := [some (aR 3), some (aI 0), none]) (pc := 45) hC 1 dX1_placeWords_45 rfl (by decide) rfl rfl ?_
        refine r_iconst (pc := 46) hC dX1_placeWords_46 (rng_lit rfl) ?_
        refine r_istore_n (ls2 := [some (aR 3), some (aI 0), some (aI 0)]) (pc := 47) hC 2 dX1_placeWords_47 rfl (by decide) rfl rfl ?_
        obtain ⟨I2, μ2, hI2, hB2⟩ := h
        have S2 : ∀ (nn : Nat) (pg_wordSentence_6 : (Nat → Int)) (pg_sentenceFirst_7 : (Nat → Int)) (pg_sentenceWords_8 : (Nat → Int)) (pg_lowWords_9 : (Nat → Int64)) (pg_highWords_10 : (Nat → Int64)) (x11 : Int) (x12 : Int), μ2 pg_wordSentence_6 pg_sentenceFirst_7 pg_sentenceWords_8 pg_lowWords_9 pg_highWords_10 x11 x12 < nn → I2 pg_wordSentence_6 pg_sentenceFirst_7 pg_sentenceWords_8 pg_lowWords_9 pg_highWords_10 x11 x12 → Wd p l e (rmD 1) s m args below meth c Q 0 0 3 D cA ad A LX (wB (wB (wA (wA (wA w 9 pg_wordSentence_6) 14 pg_sentenceFirst_7) 15 pg_sentenceWords_8) 16 pg_lowWords_9) 17 pg_highWords_10) 48 [some (aR 3), some (aI x11), some (aI x12)] [] := by
          intro nn
          induction nn with
          | zero => intro pg_wordSentence_6 pg_sentenceFirst_7 pg_sentenceWords_8 pg_lowWords_9 pg_highWords_10 x11 x12 hn; exact absurd hn (Nat.not_lt_zero _)
          | succ nn ih2 =>
            intro pg_wordSentence_6 pg_sentenceFirst_7 pg_sentenceWords_8 pg_lowWords_9 pg_highWords_10 x11 x12 hn2 hi
            have h := hB2 pg_wordSentence_6 pg_sentenceFirst_7 pg_sentenceWords_8 pg_lowWords_9 pg_highWords_10 x11 x12 hi
            refine r_iload_n (pc := 48) hC 2 dX1_placeWords_48 rfl rfl ?_
            refine r_aload_n (pc := 49) hC 0 dX1_placeWords_49 rfl rfl ?_
            refine r_get (kd := 0) (v := (w.1 3 16)) (pc := 50) hC dX1_placeWords_50 fl_RX1_96 lX_3 rfl rfl ?_
            refine r_ic_ge (pc := 53) (tgt := 124) hC dX1_placeWords_53 rfl (fun hc5 => ?_) (fun hc5 => ?_)
            · have h := h.1 hc5
              refine r_conv (w2 := (wB (wB (wA (wA (wA w 9 pg_wordSentence_6) 14 pg_sentenceFirst_7) 15 pg_sentenceWords_8) 16 pg_lowWords_9) 17 pg_highWords_10)) rfl ?_
              exact r_retv (pc := 124) hC hQ dX1_placeWords_124 hr hk ⟨pg_wordSentence_6, pg_sentenceFirst_7, pg_sentenceWords_8, pg_lowWords_9, pg_highWords_10, rfl, h⟩
            have h := h.2 hc5
            obtain ⟨I3, μ3, hI3, hB3⟩ := h
            have S3 : ∀ (nn : Nat) (x13 : Int), μ3 x13 < nn → I3 x13 → Wd p l e (rmD 1) s m args below meth c Q 0 0 3 D cA ad A LX (wB (wB (wA (wA (wA w 9 pg_wordSentence_6) 14 pg_sentenceFirst_7) 15 pg_sentenceWords_8) 16 pg_lowWords_9) 17 pg_highWords_10) 56 [some (aR 3), some (aI x13), some (aI x12)] [] := by
              intro nn
              induction nn with
              | zero => intro x13 hn; exact absurd hn (Nat.not_lt_zero _)
              | succ nn ih3 =>
                intro x13 hn3 hi
                have h := hB3 x13 hi
                refine r_iload_n (pc := 56) hC 1 dX1_placeWords_56 rfl rfl ?_
                refine r_aload_n (pc := 57) hC 0 dX1_placeWords_57 rfl rfl ?_
                refine r_get (kd := 0) (v := (w.1 3 17)) (pc := 58) hC dX1_placeWords_58 fl_RX1_102 lX_3 rfl rfl ?_
                obtain ⟨J4, hJ4, h⟩ := h
                have S4 : J4 → Wd p l e (rmD 1) s m args below meth c Q 0 0 3 D cA ad A LX (wB (wB (wA (wA (wA w 9 pg_wordSentence_6) 14 pg_sentenceFirst_7) 15 pg_sentenceWords_8) 16 pg_lowWords_9) 17 pg_highWords_10) 85 [some (aR 3), some (aI x13), some (aI x12)] [] := by
                  intro hj
                  have h := hJ4 hj
                  refine r_aload_n (pc := 85) hC 0 dX1_placeWords_85 rfl rfl ?_
                  refine r_getr (r := 9) (pc := 86) hC dX1_placeWords_86 fl_RX1_28 lX_3 rfl ?_
                  refine r_iload_n (pc := 89) hC 2 dX1_placeWords_89 rfl rfl ?_
                  refine r_iload_n (pc := 90) hC 1 dX1_placeWords_90 rfl rfl ?_
                  refine r_aload_n (pc := 91) hC 0 dX1_placeWords_91 rfl rfl ?_
                  refine r_get (kd := 0) (v := (w.1 3 17)) (pc := 92) hC dX1_placeWords_92 fl_RX1_102 lX_3 rfl rfl ?_
                  obtain ⟨J5, hJ5, h⟩ := h
                  have S5 : ∀ (y14 : Int), J5 y14 → Wd p l e (rmD 1) s m args below meth c Q 0 0 3 D cA ad A LX (wB (wB (wA (wA (wA w 9 pg_wordSentence_6) 14 pg_sentenceFirst_7) 15 pg_sentenceWords_8) 16 pg_lowWords_9) 17 pg_highWords_10) 103 [some (aR 3), some (aI x13), some (aI x12)] [aI y14, aI x12, aR 9] := by
                    intro y14 hj
                    have h := hJ5 y14 hj
                    refine r_iast (pc := 103) hC dX1_placeWords_103 lX_9 h.1.1 h.1.2 ?_
                    have h := h.2
                    refine r_iload_n (pc := 104) hC 1 dX1_placeWords_104 rfl rfl ?_
                    refine r_aload_n (pc := 105) hC 0 dX1_placeWords_105 rfl rfl ?_
                    refine r_get (kd := 0) (v := (w.1 3 17)) (pc := 106) hC dX1_placeWords_106 fl_RX1_102 lX_3 rfl rfl ?_
                    obtain ⟨J6, hJ6, h⟩ := h
                    have S6 : ∀ (pg_sentenceFirst_15 : (Nat → Int)) (pg_sentenceWords_16 : (Nat → Int)) (pg_lowWords_17 : (Nat → Int64)) (pg_highWords_18 : (Nat → Int64)), J6 pg_sentenceFirst_15 pg_sentenceWords_16 pg_lowWords_17 pg_highWords_18 → Wd p l e (rmD 1) s m args below meth c Q 0 0 3 D cA ad A LX (wB (wB (wA (wA (wA w 9 (uI pg_wordSentence_6 x12 y14)) 14 pg_sentenceFirst_15) 15 pg_sentenceWords_16) 16 pg_lowWords_17) 17 pg_highWords_18) 118 [some (aR 3), some (aI x13), some (aI x12)] [] := by
                      intro pg_sentenceFirst_15 pg_sentenceWords_16 pg_lowWords_17 pg_highWords_18 hj
                      have h := hJ6 pg_sentenceFirst_15 pg_sentenceWords_16 pg_lowWords_17 pg_highWords_18 hj
                      refine r_iinc (ls2 := [some (aR 3), some (aI x13), some (aI (x12 + 1))]) (pc := 118) hC dX1_placeWords_118 rfl (by decide) rfl h.1 rfl ?_
                      have h := h.2
                      refine r_goto (tgt := 48) (pc := 121) hC dX1_placeWords_121 rfl ?_
                      exact r_to [true, true, true] rfl rfl (ih2 (uI pg_wordSentence_6 x12 y14) pg_sentenceFirst_15 pg_sentenceWords_16 pg_lowWords_17 pg_highWords_18 x13 (x12 + 1) (Nat.lt_of_lt_of_le h.2 (Nat.le_of_lt_succ hn2)) h.1)
                    refine r_ic_ge (pc := 109) (tgt := 118) hC dX1_placeWords_109 rfl (fun hc1 => ?_) (fun hc1 => ?_)
                    · have h := h.1 hc1
                      exact r_to [true, true, true] rfl rfl (S6 pg_sentenceFirst_7 pg_sentenceWords_8 pg_lowWords_9 pg_highWords_10 h)
                    have h := h.2 hc1
                    refine r_aload_n (pc := 112) hC 0 dX1_placeWords_112 rfl rfl ?_
                    refine r_iload_n (pc := 113) hC 2 dX1_placeWords_113 rfl rfl ?_
                    refine r_iload_n (pc := 114) hC 1 dX1_placeWords_114 rfl rfl ?_
                    refine r_callVv (pc := 115) hC [aI x12, aI x13] [] dX1_placeWords_115 ml_RX1_137 my_X1_addToSentence mi_X1_addToSentence lX_3 rfl rfl ⟨Nat.le_of_ble_eq_true rfl, Nat.le_of_ble_eq_true rfl⟩ ⟨Nat.le_of_ble_eq_true rfl, Nat.le_of_ble_eq_true rfl⟩ (Nat.le_of_ble_eq_true rfl) rfl (s_Page_addToSentence l _ _ _ _ h) (fun w1 hq => ?_)
                    obtain ⟨pg_sentenceFirst_19, pg_sentenceWords_20, pg_lowWords_21, pg_highWords_22, e9, h⟩ := hq
                    rw [e9]
                    exact r_to [true, true, true] rfl rfl (S6 pg_sentenceFirst_19 pg_sentenceWords_20 pg_lowWords_21 pg_highWords_22 h)
                  refine r_ic_ge (pc := 95) (tgt := 102) hC dX1_placeWords_95 rfl (fun hc2 => ?_) (fun hc2 => ?_)
                  · have h := h.1 hc2
                    refine r_iconst (pc := 102) hC dX1_placeWords_102 (rng_lit rfl) ?_
                    exact r_to [true, true, true] rfl rfl (S5 (-1) h)
                  have h := h.2 hc2
                  refine r_iload_n (pc := 98) hC 1 dX1_placeWords_98 rfl rfl ?_
                  refine r_goto (tgt := 103) (pc := 99) hC dX1_placeWords_99 rfl ?_
                  exact r_to [true, true, true] rfl rfl (S5 x13 h)
                refine r_ic_ge (pc := 61) (tgt := 85) hC dX1_placeWords_61 rfl (fun hc4 => ?_) (fun hc4 => ?_)
                · have h := h.1 hc4
                  exact r_to [true, true, true] rfl rfl (S4 h)
                have h := h.2 hc4
                refine r_aload_n (pc := 64) hC 0 dX1_placeWords_64 rfl rfl ?_
                refine r_getr (r := 12) (pc := 65) hC dX1_placeWords_65 fl_RX1_37 lX_3 rfl ?_
                refine r_iload_n (pc := 68) hC 1 dX1_placeWords_68 rfl rfl ?_
                refine r_iald (v := ((w.1 12) (Int.toNat x13))) (pc := 69) hC dX1_placeWords_69 lX_12 h.1.1 h.1.2 rfl ?_
                have h := h.2
                refine r_aload_n (pc := 70) hC 0 dX1_placeWords_70 rfl rfl ?_
                refine r_getr (r := 7) (pc := 71) hC dX1_placeWords_71 fl_RX1_22 lX_3 rfl ?_
                refine r_iload_n (pc := 74) hC 2 dX1_placeWords_74 rfl rfl ?_
                refine r_iald (v := ((w.1 7) (Int.toNat x12))) (pc := 75) hC dX1_placeWords_75 lX_7 h.1.1 h.1.2 rfl ?_
                have h := h.2
                refine r_ic_gt (pc := 76) (tgt := 85) hC dX1_placeWords_76 rfl (fun hc3 => ?_) (fun hc3 => ?_)
                · have h := h.1 hc3
                  exact r_to [true, true, true] rfl rfl (S4 h)
                have h := h.2 hc3
                refine r_iinc (ls2 := [some (aR 3), some (aI (x13 + 1)), some (aI x12)]) (pc := 79) hC dX1_placeWords_79 rfl (by decide) rfl h.1 rfl ?_
                have h := h.2
                refine r_goto (tgt := 56) (pc := 82) hC dX1_placeWords_82 rfl ?_
                exact r_to [true, true, true] rfl rfl (ih3 (x13 + 1) (Nat.lt_of_lt_of_le h.2 (Nat.le_of_lt_succ hn3)) h.1)
            exact r_to [true, true, true] rfl rfl (S3 _ x11 (Nat.lt_succ_self _) hI3)
        exact r_to [true, true, true] rfl rfl (S2 _ (w.1 9) pg_sentenceFirst_1 pg_sentenceWords_2 pg_lowWords_3 pg_highWords_4 0 0 (Nat.lt_succ_self _) hI2)
      have h := h.2 hc6
      refine r_aload_n (pc := 10) hC 0 dX1_placeWords_10 rfl rfl ?_
      refine r_getr (r := 14) (pc := 11) hC dX1_placeWords_11 fl_RX1_43 lX_3 rfl ?_
      refine r_iload_n (pc := 14) hC 1 dX1_placeWords_14 rfl rfl ?_
      refine r_iconst (pc := 15) hC dX1_placeWords_15 (rng_lit rfl) ?_
      refine r_iast (pc := 16) hC dX1_placeWords_16 lX_14 h.1.1 h.1.2 ?_
      have h := h.2
      refine r_aload_n (pc := 17) hC 0 dX1_placeWords_17 rfl rfl ?_
      refine r_getr (r := 15) (pc := 18) hC dX1_placeWords_18 fl_RX1_46 lX_3 rfl ?_
      refine r_iload_n (pc := 21) hC 1 dX1_placeWords_21 rfl rfl ?_
      refine r_iconst (pc := 22) hC dX1_placeWords_22 (rng_lit rfl) ?_
      refine r_iast (pc := 23) hC dX1_placeWords_23 lX_15 h.1.1 h.1.2 ?_
      have h := h.2
      refine r_aload_n (pc := 24) hC 0 dX1_placeWords_24 rfl rfl ?_
      refine r_getr (r := 16) (pc := 25) hC dX1_placeWords_25 fl_RX1_49 lX_3 rfl ?_
      refine r_iload_n (pc := 28) hC 1 dX1_placeWords_28 rfl rfl ?_
      refine r_lconst (x := 0) (pc := 29) hC dX1_placeWords_29 rfl ?_
      refine r_last (pc := 30) hC dX1_placeWords_30 lX_16 h.1.1 h.1.2 ?_
      have h := h.2
      refine r_aload_n (pc := 31) hC 0 dX1_placeWords_31 rfl rfl ?_
      refine r_getr (r := 17) (pc := 32) hC dX1_placeWords_32 fl_RX1_53 lX_3 rfl ?_
      refine r_iload_n (pc := 35) hC 1 dX1_placeWords_35 rfl rfl ?_
      refine r_lconst (x := 0) (pc := 36) hC dX1_placeWords_36 rfl ?_
      refine r_last (pc := 37) hC dX1_placeWords_37 lX_17 h.1.1 h.1.2 ?_
      have h := h.2
      refine r_iinc (ls2 := [some (aR 3), some (aI (x5 + 1)), none]) (pc := 38) hC dX1_placeWords_38 rfl (by decide) rfl h.1 rfl ?_
      have h := h.2
      refine r_goto (tgt := 2) (pc := 41) hC dX1_placeWords_41 rfl ?_
      exact r_to [true, true, false] rfl rfl (ih1 (uI pg_sentenceFirst_1 x5 (-1)) (uI pg_sentenceWords_2 x5 0) (uL pg_lowWords_3 x5 0) (uL pg_highWords_4 x5 0) (x5 + 1) (Nat.lt_of_lt_of_le h.2 (Nat.le_of_lt_succ hn1)) h.1)
  exact r_to [true, true, false] rfl rfl (S1 _ (w.1 14) (w.1 15) (w.2 16) (w.2 17) 0 (Nat.lt_succ_self _) hI1)
def wp_Page_readFrom (tp_bytes : (Nat → Int)) (pg_bytes : (Nat → Int)) (pg_letterAt : (Nat → Int)) (pg_signAt : (Nat → Int)) (pg_wordBegin : (Nat → Int)) (pg_wordEnd : (Nat → Int)) (pg_wordSentence : (Nat → Int)) (pg_wordAlike : (Nat → Int)) (pg_sentenceBegin : (Nat → Int)) (pg_sentenceEnd : (Nat → Int)) (pg_sentenceSigns : (Nat → Int)) (pg_sentenceFirst : (Nat → Int)) (pg_sentenceWords : (Nat → Int)) (tp_length : Int) (pg_length : Int) (pg_signs : Int) (pg_words : Int) (pg_sentences : Int) (pg_lowWords : (Nat → Int64)) (pg_highWords : (Nat → Int64)) (Q : (Nat → Int) → (Nat → Int) → (Nat → Int) → (Nat → Int) → (Nat → Int) → (Nat → Int) → (Nat → Int) → (Nat → Int) → (Nat → Int) → (Nat → Int) → (Nat → Int) → (Nat → Int) → Int → Int → Int → Int → (Nat → Int64) → (Nat → Int64) → Prop) : Prop := lpw2 (fun (pg_bytes_1 : (Nat → Int)) (x2 : Int) (k1 : (Nat → Int) → Int → Prop) => (tp_length ≤ x2 → wp_Page_findSigns pg_bytes_1 pg_letterAt pg_signAt tp_length pg_signs (fun (pg_letterAt_3 : (Nat → Int)) (pg_signAt_4 : (Nat → Int)) (pg_signs_5 : Int) => wp_Page_findSentences pg_bytes_1 pg_letterAt_3 pg_signAt_4 pg_sentenceBegin pg_sentenceEnd pg_sentenceSigns tp_length pg_sentences (fun (pg_sentenceBegin_6 : (Nat → Int)) (pg_sentenceEnd_7 : (Nat → Int)) (pg_sentenceSigns_8 : (Nat → Int)) (pg_sentences_9 : Int) => wp_Page_findWords pg_letterAt_3 pg_wordBegin pg_wordEnd tp_length pg_words (fun (pg_wordBegin_10 : (Nat → Int)) (pg_wordEnd_11 : (Nat → Int)) (pg_words_12 : Int) => wp_Page_findAlike pg_bytes_1 pg_wordBegin_10 pg_wordEnd_11 pg_wordAlike tp_length pg_words_12 (fun (pg_wordAlike_13 : (Nat → Int)) => wp_Page_placeWords pg_wordBegin_10 pg_wordSentence pg_wordAlike_13 pg_sentenceEnd_7 pg_sentenceFirst pg_sentenceWords pg_words_12 pg_sentences_9 pg_lowWords pg_highWords (fun (pg_wordSentence_14 : (Nat → Int)) (pg_sentenceFirst_15 : (Nat → Int)) (pg_sentenceWords_16 : (Nat → Int)) (pg_lowWords_17 : (Nat → Int64)) (pg_highWords_18 : (Nat → Int64)) => Q pg_bytes_1 pg_letterAt_3 pg_signAt_4 pg_wordBegin_10 pg_wordEnd_11 pg_wordSentence_14 pg_wordAlike_13 pg_sentenceBegin_6 pg_sentenceEnd_7 pg_sentenceSigns_8 pg_sentenceFirst_15 pg_sentenceWords_16 tp_length pg_signs_5 pg_words_12 pg_sentences_9 pg_lowWords_17 pg_highWords_18)))))) ∧ (¬ tp_length ≤ x2 → wp_Tape_at tp_bytes tp_length x2 (fun (r19 : Int) => (0 ≤ x2 ∧ x2 < 600) ∧ ((rng (x2 + 1)) ∧ (k1 (uI pg_bytes_1 x2 r19) (x2 + 1)))))) pg_bytes 0
set_option maxHeartbeats 4000000 in
set_option maxRecDepth 20000 in
theorem s_Page_readFrom (l : Launch) (w : St) (P : (Nat → Int) → (Nat → Int) → (Nat → Int) → (Nat → Int) → (Nat → Int) → (Nat → Int) → (Nat → Int) → (Nat → Int) → (Nat → Int) → (Nat → Int) → (Nat → Int) → (Nat → Int) → Int → Int → Int → Int → (Nat → Int64) → (Nat → Int64) → Prop) (h : wp_Page_readFrom (w.1 2) (w.1 4) (w.1 5) (w.1 6) (w.1 7) (w.1 8) (w.1 9) (w.1 10) (w.1 11) (w.1 12) (w.1 13) (w.1 14) (w.1 15) (w.1 1 1) (w.1 3 14) (w.1 3 15) (w.1 3 16) (w.1 3 17) (w.2 16) (w.2 17) P) : Cn l yX1_readFrom cX1_readFrom 3 none 5 LX w [aR 3, aR 1] (okV (fun w1 => ∃ (o0 : (Nat → Int)) (o1 : (Nat → Int)) (o2 : (Nat → Int)) (o3 : (Nat → Int)) (o4 : (Nat → Int)) (o5 : (Nat → Int)) (o6 : (Nat → Int)) (o7 : (Nat → Int)) (o8 : (Nat → Int)) (o9 : (Nat → Int)) (o10 : (Nat → Int)) (o11 : (Nat → Int)) (o12 : Int) (o13 : Int) (o14 : Int) (o15 : Int) (o16 : (Nat → Int64)) (o17 : (Nat → Int64)), w1 = (wB (wB (wI (wI (wI (wI (wA (wA (wA (wA (wA (wA (wA (wA (wA (wA (wA (wA w 4 o0) 5 o1) 6 o2) 7 o3) 8 o4) 9 o5) 10 o6) 11 o7) 12 o8) 13 o9) 14 o10) 15 o11) 3 14 o12) 3 15 o13) 3 16 o14) 3 17 o15) 16 o16) 17 o17) ∧ P o0 o1 o2 o3 o4 o5 o6 o7 o8 o9 o10 o11 o12 o13 o14 o15 o16 o17)) := by
  unfold wp_Page_readFrom at h
  refine Cn.of2 [some (aR 3), some (aR 1), none] (by decide) (Nat.le_of_ble_eq_true rfl) rfl (fun p e s m args below meth c D cA ad A Q hQ hC hr hk => ?_)
  refine r_aload_n (pc := 0) hC 0 dX1_readFrom_0 rfl rfl ?_
  refine r_aload_n (pc := 1) hC 1 dX1_readFrom_1 rfl rfl ?_
  refine r_get (kd := 0) (v := (w.1 1 1)) (pc := 2) hC dX1_readFrom_2 fl_RX1_56 lX_1 rfl rfl ?_
  refine r_put (kd := 0) (pc := 5) hC dX1_readFrom_5 pl_RX1_62 lX_3 rfl (by decide) (Or.inl rfl) ?_
  refine r_iconst (pc := 8) hC dX1_readFrom_8 (rng_lit rfl) ?_
  refine r_istore_n (ls2 := [some (aR 3), some (aR 1), some (aI 0)]) (pc := 9) hC 2 dX1_readFrom_9 rfl (by decide) rfl rfl ?_
  obtain ⟨I1, μ1, hI1, hB1⟩ := h
  have S1 : ∀ (nn : Nat) (pg_bytes_1 : (Nat → Int)) (x2 : Int), μ1 pg_bytes_1 x2 < nn → I1 pg_bytes_1 x2 → Wd p l e (rmD 5) s m args below meth c Q 0 0 3 D cA ad A LX (wI (wA w 4 pg_bytes_1) 3 14 (w.1 1 1)) 10 [some (aR 3), some (aR 1), some (aI x2)] [] := by
    intro nn
    induction nn with
    | zero => intro pg_bytes_1 x2 hn; exact absurd hn (Nat.not_lt_zero _)
    | succ nn ih1 =>
      intro pg_bytes_1 x2 hn1 hi
      have h := hB1 pg_bytes_1 x2 hi
      refine r_iload_n (pc := 10) hC 2 dX1_readFrom_10 rfl rfl ?_
      refine r_aload_n (pc := 11) hC 0 dX1_readFrom_11 rfl rfl ?_
      refine r_get (kd := 0) (v := (w.1 1 1)) (pc := 12) hC dX1_readFrom_12 fl_RX1_62 lX_3 rfl rfl ?_
      refine r_ic_ge (pc := 15) (tgt := 35) hC dX1_readFrom_15 rfl (fun hc1 => ?_) (fun hc1 => ?_)
      · have h := h.1 hc1
        refine r_aload_n (pc := 35) hC 0 dX1_readFrom_35 rfl rfl ?_
        refine r_callVv (pc := 36) hC [] [] dX1_readFrom_36 ml_RX1_67 my_X1_findSigns mi_X1_findSigns lX_3 rfl rfl ⟨Nat.le_of_ble_eq_true rfl, Nat.le_of_ble_eq_true rfl⟩ ⟨Nat.le_of_ble_eq_true rfl, Nat.le_of_ble_eq_true rfl⟩ (Nat.le_of_ble_eq_true rfl) rfl (s_Page_findSigns l _ _ h) (fun w1 hq => ?_)
        obtain ⟨pg_letterAt_3, pg_signAt_4, pg_signs_5, e9, h⟩ := hq
        rw [e9]
        refine r_aload_n (pc := 39) hC 0 dX1_readFrom_39 rfl rfl ?_
        refine r_callVv (pc := 40) hC [] [] dX1_readFrom_40 ml_RX1_70 my_X1_findSentences mi_X1_findSentences lX_3 rfl rfl ⟨Nat.le_of_ble_eq_true rfl, Nat.le_of_ble_eq_true rfl⟩ ⟨Nat.le_of_ble_eq_true rfl, Nat.le_of_ble_eq_true rfl⟩ (Nat.le_of_ble_eq_true rfl) rfl (s_Page_findSentences l _ _ h) (fun w1 hq => ?_)
        obtain ⟨pg_sentenceBegin_6, pg_sentenceEnd_7, pg_sentenceSigns_8, pg_sentences_9, e9, h⟩ := hq
        rw [e9]
        refine r_aload_n (pc := 43) hC 0 dX1_readFrom_43 rfl rfl ?_
        refine r_callVv (pc := 44) hC [] [] dX1_readFrom_44 ml_RX1_73 my_X1_findWords mi_X1_findWords lX_3 rfl rfl ⟨Nat.le_of_ble_eq_true rfl, Nat.le_of_ble_eq_true rfl⟩ ⟨Nat.le_of_ble_eq_true rfl, Nat.le_of_ble_eq_true rfl⟩ (Nat.le_of_ble_eq_true rfl) rfl (s_Page_findWords l _ _ h) (fun w1 hq => ?_)
        obtain ⟨pg_wordBegin_10, pg_wordEnd_11, pg_words_12, e9, h⟩ := hq
        rw [e9]
        refine r_aload_n (pc := 47) hC 0 dX1_readFrom_47 rfl rfl ?_
        refine r_callVv (pc := 48) hC [] [] dX1_readFrom_48 ml_RX1_76 my_X1_findAlike mi_X1_findAlike lX_3 rfl rfl ⟨Nat.le_of_ble_eq_true rfl, Nat.le_of_ble_eq_true rfl⟩ ⟨Nat.le_of_ble_eq_true rfl, Nat.le_of_ble_eq_true rfl⟩ (Nat.le_of_ble_eq_true rfl) rfl (s_Page_findAlike l _ _ h) (fun w1 hq => ?_)
        obtain ⟨pg_wordAlike_13, e9, h⟩ := hq
        rw [e9]
        refine r_aload_n (pc := 51) hC 0 dX1_readFrom_51 rfl rfl ?_
        refine r_callVv (pc := 52) hC [] [] dX1_readFrom_52 ml_RX1_79 my_X1_placeWords mi_X1_placeWords lX_3 rfl rfl ⟨Nat.le_of_ble_eq_true rfl, Nat.le_of_ble_eq_true rfl⟩ ⟨Nat.le_of_ble_eq_true rfl, Nat.le_of_ble_eq_true rfl⟩ (Nat.le_of_ble_eq_true rfl) rfl (s_Page_placeWords l _ _ h) (fun w1 hq => ?_)
        obtain ⟨pg_wordSentence_14, pg_sentenceFirst_15, pg_sentenceWords_16, pg_lowWords_17, pg_highWords_18, e9, h⟩ := hq
        rw [e9]
        refine r_conv (w2 := (wB (wB (wI (wI (wI (wI (wA (wA (wA (wA (wA (wA (wA (wA (wA (wA (wA (wA w 4 pg_bytes_1) 5 pg_letterAt_3) 6 pg_signAt_4) 7 pg_wordBegin_10) 8 pg_wordEnd_11) 9 pg_wordSentence_14) 10 pg_wordAlike_13) 11 pg_sentenceBegin_6) 12 pg_sentenceEnd_7) 13 pg_sentenceSigns_8) 14 pg_sentenceFirst_15) 15 pg_sentenceWords_16) 3 14 (w.1 1 1)) 3 15 pg_signs_5) 3 16 pg_words_12) 3 17 pg_sentences_9) 16 pg_lowWords_17) 17 pg_highWords_18)) rfl ?_
        exact r_retv (pc := 55) hC hQ dX1_readFrom_55 hr hk ⟨pg_bytes_1, pg_letterAt_3, pg_signAt_4, pg_wordBegin_10, pg_wordEnd_11, pg_wordSentence_14, pg_wordAlike_13, pg_sentenceBegin_6, pg_sentenceEnd_7, pg_sentenceSigns_8, pg_sentenceFirst_15, pg_sentenceWords_16, (w.1 1 1), pg_signs_5, pg_words_12, pg_sentences_9, pg_lowWords_17, pg_highWords_18, rfl, h⟩
      have h := h.2 hc1
      refine r_aload_n (pc := 18) hC 0 dX1_readFrom_18 rfl rfl ?_
      refine r_getr (r := 4) (pc := 19) hC dX1_readFrom_19 fl_RX1_9 lX_3 rfl ?_
      refine r_iload_n (pc := 22) hC 2 dX1_readFrom_22 rfl rfl ?_
      refine r_aload_n (pc := 23) hC 1 dX1_readFrom_23 rfl rfl ?_
      refine r_iload_n (pc := 24) hC 2 dX1_readFrom_24 rfl rfl ?_
      refine r_callVi (pc := 25) hC [aI x2] [aI x2, aR 4] dX1_readFrom_25 ml_RX1_63 my_X6_at mi_X6_at lX_1 rfl rfl ⟨Nat.le_of_ble_eq_true rfl, Nat.le_of_ble_eq_true rfl⟩ ⟨Nat.le_of_ble_eq_true rfl, Nat.le_of_ble_eq_true rfl⟩ (Nat.le_of_ble_eq_true rfl) rfl (s_Tape_at l _ _ _ h) (fun r19 w1 hq => ?_)
      obtain ⟨e9, h⟩ := hq
      rw [e9]
      refine r_iast (pc := 28) hC dX1_readFrom_28 lX_4 h.1.1 h.1.2 ?_
      have h := h.2
      refine r_iinc (ls2 := [some (aR 3), some (aR 1), some (aI (x2 + 1))]) (pc := 29) hC dX1_readFrom_29 rfl (by decide) rfl h.1 rfl ?_
      have h := h.2
      refine r_goto (tgt := 10) (pc := 32) hC dX1_readFrom_32 rfl ?_
      exact r_to [true, true, true] rfl rfl (ih1 (uI pg_bytes_1 x2 r19) (x2 + 1) (Nat.lt_of_lt_of_le h.2 (Nat.le_of_lt_succ hn1)) h.1)
  exact r_to [true, true, true] rfl rfl (S1 _ (w.1 4) 0 (Nat.lt_succ_self _) hI1)
def wp_Page_beginOfSign (pg_signAt : (Nat → Int)) (pg_length : Int) (a1 : Int) (Q : Int → Prop) : Prop := lpw1 (fun (x1 : Int) (k1 : Int → Prop) => (pg_length ≤ x1 → Q (-1)) ∧ (¬ pg_length ≤ x1 → (0 ≤ x1 ∧ x1 < 601) ∧ ((¬ (pg_signAt (Int.toNat x1)) = a1 → (rng (x1 + 1)) ∧ (k1 (x1 + 1))) ∧ ((pg_signAt (Int.toNat x1)) = a1 → Q x1)))) 0
set_option maxHeartbeats 4000000 in
set_option maxRecDepth 20000 in
theorem s_Page_beginOfSign (l : Launch) (w : St) (a1 : Int) (P : Int → Prop) (h : wp_Page_beginOfSign (w.1 6) (w.1 3 14) a1 P) : Cn l yX1_beginOfSign cX1_beginOfSign 3 (some .int) 0 LX w [aR 3, aI a1] (okI (fun r w1 => w1 = w ∧ P r)) := by
  unfold wp_Page_beginOfSign at h
  refine Cn.of2 [some (aR 3), some (aI a1), none] (by decide) (Nat.le_of_ble_eq_true rfl) rfl (fun p e s m args below meth c D cA ad A Q hQ hC hr hk => ?_)
  refine r_iconst (pc := 0) hC dX1_beginOfSign_0 (rng_lit rfl) ?_
  refine r_istore_n (ls2 := [some (aR 3), some (aI a1), some (aI 0)]) (pc := 1) hC 2 dX1_beginOfSign_1 rfl (by decide) rfl rfl ?_
  obtain ⟨I1, μ1, hI1, hB1⟩ := h
  have S1 : ∀ (nn : Nat) (x1 : Int), μ1 x1 < nn → I1 x1 → Wd p l e (rmD 0) s m args below meth c Q 0 0 3 D cA ad A LX w 2 [some (aR 3), some (aI a1), some (aI x1)] [] := by
    intro nn
    induction nn with
    | zero => intro x1 hn; exact absurd hn (Nat.not_lt_zero _)
    | succ nn ih1 =>
      intro x1 hn1 hi
      have h := hB1 x1 hi
      refine r_iload_n (pc := 2) hC 2 dX1_beginOfSign_2 rfl rfl ?_
      refine r_aload_n (pc := 3) hC 0 dX1_beginOfSign_3 rfl rfl ?_
      refine r_get (kd := 0) (v := (w.1 3 14)) (pc := 4) hC dX1_beginOfSign_4 fl_RX1_62 lX_3 rfl rfl ?_
      refine r_ic_ge (pc := 7) (tgt := 28) hC dX1_beginOfSign_7 rfl (fun hc2 => ?_) (fun hc2 => ?_)
      · have h := h.1 hc2
        refine r_iconst (pc := 28) hC dX1_beginOfSign_28 (rng_lit rfl) ?_
        exact r_reti (pc := 29) (kd := 0) hC hQ dX1_beginOfSign_29 hr hk (by decide) (Or.inl rfl) ⟨rfl, h⟩
      have h := h.2 hc2
      refine r_aload_n (pc := 10) hC 0 dX1_beginOfSign_10 rfl rfl ?_
      refine r_getr (r := 6) (pc := 11) hC dX1_beginOfSign_11 fl_RX1_19 lX_3 rfl ?_
      refine r_iload_n (pc := 14) hC 2 dX1_beginOfSign_14 rfl rfl ?_
      refine r_iald (v := ((w.1 6) (Int.toNat x1))) (pc := 15) hC dX1_beginOfSign_15 lX_6 h.1.1 h.1.2 rfl ?_
      have h := h.2
      refine r_iload_n (pc := 16) hC 1 dX1_beginOfSign_16 rfl rfl ?_
      refine r_ic_ne (pc := 17) (tgt := 22) hC dX1_beginOfSign_17 rfl (fun hc1 => ?_) (fun hc1 => ?_)
      · have h := h.1 hc1
        refine r_iinc (ls2 := [some (aR 3), some (aI a1), some (aI (x1 + 1))]) (pc := 22) hC dX1_beginOfSign_22 rfl (by decide) rfl h.1 rfl ?_
        have h := h.2
        refine r_goto (tgt := 2) (pc := 25) hC dX1_beginOfSign_25 rfl ?_
        exact r_to [true, true, true] rfl rfl (ih1 (x1 + 1) (Nat.lt_of_lt_of_le h.2 (Nat.le_of_lt_succ hn1)) h.1)
      have h := h.2 hc1
      refine r_iload_n (pc := 20) hC 2 dX1_beginOfSign_20 rfl rfl ?_
      exact r_reti (pc := 21) (kd := 0) hC hQ dX1_beginOfSign_21 hr hk (by decide) (Or.inl rfl) ⟨rfl, h⟩
  exact r_to [true, true, true] rfl rfl (S1 _ 0 (Nat.lt_succ_self _) hI1)
def wp_Page_windowLength (pg_signAt : (Nat → Int)) (pg_wordBegin : (Nat → Int)) (pg_wordEnd : (Nat → Int)) (a1 : Int) (a2 : Int) (Q : Int → Prop) : Prop := (0 ≤ a2 ∧ a2 < 100) ∧ ((0 ≤ (pg_wordEnd (Int.toNat a2)) ∧ (pg_wordEnd (Int.toNat a2)) < 601) ∧ ((0 ≤ a1 ∧ a1 < 100) ∧ ((0 ≤ (pg_wordBegin (Int.toNat a1)) ∧ (pg_wordBegin (Int.toNat a1)) < 601) ∧ ((rng ((pg_signAt (Int.toNat (pg_wordEnd (Int.toNat a2)))) - (pg_signAt (Int.toNat (pg_wordBegin (Int.toNat a1)))))) ∧ (Q ((pg_signAt (Int.toNat (pg_wordEnd (Int.toNat a2)))) - (pg_signAt (Int.toNat (pg_wordBegin (Int.toNat a1))))))))))
set_option maxHeartbeats 4000000 in
set_option maxRecDepth 20000 in
theorem s_Page_windowLength (l : Launch) (w : St) (a1 : Int) (a2 : Int) (P : Int → Prop) (h : wp_Page_windowLength (w.1 6) (w.1 7) (w.1 8) a1 a2 P) : Cn l yX1_windowLength cX1_windowLength 3 (some .int) 0 LX w [aR 3, aI a1, aI a2] (okI (fun r w1 => w1 = w ∧ P r)) := by
  unfold wp_Page_windowLength at h
  refine Cn.of2 [some (aR 3), some (aI a1), some (aI a2)] (by decide) (Nat.le_of_ble_eq_true rfl) rfl (fun p e s m args below meth c D cA ad A Q hQ hC hr hk => ?_)
  refine r_aload_n (pc := 0) hC 0 dX1_windowLength_0 rfl rfl ?_
  refine r_getr (r := 6) (pc := 1) hC dX1_windowLength_1 fl_RX1_19 lX_3 rfl ?_
  refine r_aload_n (pc := 4) hC 0 dX1_windowLength_4 rfl rfl ?_
  refine r_getr (r := 8) (pc := 5) hC dX1_windowLength_5 fl_RX1_25 lX_3 rfl ?_
  refine r_iload_n (pc := 8) hC 2 dX1_windowLength_8 rfl rfl ?_
  refine r_iald (v := ((w.1 8) (Int.toNat a2))) (pc := 9) hC dX1_windowLength_9 lX_8 h.1.1 h.1.2 rfl ?_
  have h := h.2
  refine r_iald (v := ((w.1 6) (Int.toNat ((w.1 8) (Int.toNat a2))))) (pc := 10) hC dX1_windowLength_10 lX_6 h.1.1 h.1.2 rfl ?_
  have h := h.2
  refine r_aload_n (pc := 11) hC 0 dX1_windowLength_11 rfl rfl ?_
  refine r_getr (r := 6) (pc := 12) hC dX1_windowLength_12 fl_RX1_19 lX_3 rfl ?_
  refine r_aload_n (pc := 15) hC 0 dX1_windowLength_15 rfl rfl ?_
  refine r_getr (r := 7) (pc := 16) hC dX1_windowLength_16 fl_RX1_22 lX_3 rfl ?_
  refine r_iload_n (pc := 19) hC 1 dX1_windowLength_19 rfl rfl ?_
  refine r_iald (v := ((w.1 7) (Int.toNat a1))) (pc := 20) hC dX1_windowLength_20 lX_7 h.1.1 h.1.2 rfl ?_
  have h := h.2
  refine r_iald (v := ((w.1 6) (Int.toNat ((w.1 7) (Int.toNat a1))))) (pc := 21) hC dX1_windowLength_21 lX_6 h.1.1 h.1.2 rfl ?_
  have h := h.2
  refine r_isub (pc := 22) hC dX1_windowLength_22 h.1 ?_
  have h := h.2
  exact r_reti (pc := 23) (kd := 0) hC hQ dX1_windowLength_23 hr hk (by decide) (Or.inl rfl) ⟨rfl, h⟩
def wp_Page_lengthOf (pg_sentenceSigns : (Nat → Int)) (a1 : Int) (Q : Int → Prop) : Prop := (0 ≤ a1 ∧ a1 < 14) ∧ ((rng ((pg_sentenceSigns (Int.toNat a1)) + 4)) ∧ (Q ((pg_sentenceSigns (Int.toNat a1)) + 4)))
set_option maxHeartbeats 4000000 in
set_option maxRecDepth 20000 in
theorem s_Page_lengthOf (l : Launch) (w : St) (a1 : Int) (P : Int → Prop) (h : wp_Page_lengthOf (w.1 13) a1 P) : Cn l yX1_lengthOf cX1_lengthOf 2 (some .int) 0 LX w [aR 3, aI a1] (okI (fun r w1 => w1 = w ∧ P r)) := by
  unfold wp_Page_lengthOf at h
  refine Cn.of2 [some (aR 3), some (aI a1)] (by decide) (Nat.le_of_ble_eq_true rfl) rfl (fun p e s m args below meth c D cA ad A Q hQ hC hr hk => ?_)
  refine r_aload_n (pc := 0) hC 0 dX1_lengthOf_0 rfl rfl ?_
  refine r_getr (r := 13) (pc := 1) hC dX1_lengthOf_1 fl_RX1_40 lX_3 rfl ?_
  refine r_iload_n (pc := 4) hC 1 dX1_lengthOf_4 rfl rfl ?_
  refine r_iald (v := ((w.1 13) (Int.toNat a1))) (pc := 5) hC dX1_lengthOf_5 lX_13 h.1.1 h.1.2 rfl ?_
  have h := h.2
  refine r_iconst (pc := 6) hC dX1_lengthOf_6 (rng_lit rfl) ?_
  refine r_iadd (pc := 7) hC dX1_lengthOf_7 h.1 ?_
  have h := h.2
  exact r_reti (pc := 8) (kd := 0) hC hQ dX1_lengthOf_8 hr hk (by decide) (Or.inl rfl) ⟨rfl, h⟩
def wp_JL_bitCount (a0 : Int64) (Q : Int → Prop) : Prop := Q (iAnd (l2i ((((((((a0 - ((lUshr a0 1) &&& 6148914691236517205)) &&& 3689348814741910323) + ((lUshr (a0 - ((lUshr a0 1) &&& 6148914691236517205)) 2) &&& 3689348814741910323)) + (lUshr (((a0 - ((lUshr a0 1) &&& 6148914691236517205)) &&& 3689348814741910323) + ((lUshr (a0 - ((lUshr a0 1) &&& 6148914691236517205)) 2) &&& 3689348814741910323)) 4)) &&& 1085102592571150095) + (lUshr (((((a0 - ((lUshr a0 1) &&& 6148914691236517205)) &&& 3689348814741910323) + ((lUshr (a0 - ((lUshr a0 1) &&& 6148914691236517205)) 2) &&& 3689348814741910323)) + (lUshr (((a0 - ((lUshr a0 1) &&& 6148914691236517205)) &&& 3689348814741910323) + ((lUshr (a0 - ((lUshr a0 1) &&& 6148914691236517205)) 2) &&& 3689348814741910323)) 4)) &&& 1085102592571150095) 8)) + (lUshr ((((((a0 - ((lUshr a0 1) &&& 6148914691236517205)) &&& 3689348814741910323) + ((lUshr (a0 - ((lUshr a0 1) &&& 6148914691236517205)) 2) &&& 3689348814741910323)) + (lUshr (((a0 - ((lUshr a0 1) &&& 6148914691236517205)) &&& 3689348814741910323) + ((lUshr (a0 - ((lUshr a0 1) &&& 6148914691236517205)) 2) &&& 3689348814741910323)) 4)) &&& 1085102592571150095) + (lUshr (((((a0 - ((lUshr a0 1) &&& 6148914691236517205)) &&& 3689348814741910323) + ((lUshr (a0 - ((lUshr a0 1) &&& 6148914691236517205)) 2) &&& 3689348814741910323)) + (lUshr (((a0 - ((lUshr a0 1) &&& 6148914691236517205)) &&& 3689348814741910323) + ((lUshr (a0 - ((lUshr a0 1) &&& 6148914691236517205)) 2) &&& 3689348814741910323)) 4)) &&& 1085102592571150095) 8)) 16)) + (lUshr (((((((a0 - ((lUshr a0 1) &&& 6148914691236517205)) &&& 3689348814741910323) + ((lUshr (a0 - ((lUshr a0 1) &&& 6148914691236517205)) 2) &&& 3689348814741910323)) + (lUshr (((a0 - ((lUshr a0 1) &&& 6148914691236517205)) &&& 3689348814741910323) + ((lUshr (a0 - ((lUshr a0 1) &&& 6148914691236517205)) 2) &&& 3689348814741910323)) 4)) &&& 1085102592571150095) + (lUshr (((((a0 - ((lUshr a0 1) &&& 6148914691236517205)) &&& 3689348814741910323) + ((lUshr (a0 - ((lUshr a0 1) &&& 6148914691236517205)) 2) &&& 3689348814741910323)) + (lUshr (((a0 - ((lUshr a0 1) &&& 6148914691236517205)) &&& 3689348814741910323) + ((lUshr (a0 - ((lUshr a0 1) &&& 6148914691236517205)) 2) &&& 3689348814741910323)) 4)) &&& 1085102592571150095) 8)) + (lUshr ((((((a0 - ((lUshr a0 1) &&& 6148914691236517205)) &&& 3689348814741910323) + ((lUshr (a0 - ((lUshr a0 1) &&& 6148914691236517205)) 2) &&& 3689348814741910323)) + (lUshr (((a0 - ((lUshr a0 1) &&& 6148914691236517205)) &&& 3689348814741910323) + ((lUshr (a0 - ((lUshr a0 1) &&& 6148914691236517205)) 2) &&& 3689348814741910323)) 4)) &&& 1085102592571150095) + (lUshr (((((a0 - ((lUshr a0 1) &&& 6148914691236517205)) &&& 3689348814741910323) + ((lUshr (a0 - ((lUshr a0 1) &&& 6148914691236517205)) 2) &&& 3689348814741910323)) + (lUshr (((a0 - ((lUshr a0 1) &&& 6148914691236517205)) &&& 3689348814741910323) + ((lUshr (a0 - ((lUshr a0 1) &&& 6148914691236517205)) 2) &&& 3689348814741910323)) 4)) &&& 1085102592571150095) 8)) 16)) 32))) 127)
set_option maxHeartbeats 4000000 in
set_option maxRecDepth 20000 in
theorem s_JL_bitCount (l : Launch) (w : St) (a0 : Int64) (P : Int → Prop) (h : wp_JL_bitCount a0 P) : Cn l yJ13_bitCount_95d88 cJ13_bitCount_95d88 2 (some .int) 0 LX w [aL a0] (okI (fun r w1 => w1 = w ∧ P r)) := by
  unfold wp_JL_bitCount at h
  refine Cn.of2 [some (aL a0), none] (by decide) (Nat.le_of_ble_eq_true rfl) rfl (fun p e s m args below meth c D cA ad A Q hQ hC hr hk => ?_)
  refine r_lload_n (pc := 0) hC 0 dJ13_bitCount_95d88_0 rfl rfl ?_
  refine r_lload_n (pc := 1) hC 0 dJ13_bitCount_95d88_1 rfl rfl ?_
  refine r_iconst (pc := 2) hC dJ13_bitCount_95d88_2 (rng_lit rfl) ?_
  refine r_lushr (pc := 3) hC dJ13_bitCount_95d88_3 ?_
  refine r_ldc2 (x := 6148914691236517205) (pc := 4) hC dJ13_bitCount_95d88_4 kc_RJ13_314 ?_
  refine r_land (pc := 7) hC dJ13_bitCount_95d88_7 ?_
  refine r_lsub (pc := 8) hC dJ13_bitCount_95d88_8 ?_
  refine r_lstore_n (ls2 := [some (aL (a0 - ((lUshr a0 1) &&& 6148914691236517205))), none]) (pc := 9) hC 0 dJ13_bitCount_95d88_9 rfl (by decide) rfl rfl ?_
  refine r_lload_n (pc := 10) hC 0 dJ13_bitCount_95d88_10 rfl rfl ?_
  refine r_ldc2 (x := 3689348814741910323) (pc := 11) hC dJ13_bitCount_95d88_11 kc_RJ13_316 ?_
  refine r_land (pc := 14) hC dJ13_bitCount_95d88_14 ?_
  refine r_lload_n (pc := 15) hC 0 dJ13_bitCount_95d88_15 rfl rfl ?_
  refine r_iconst (pc := 16) hC dJ13_bitCount_95d88_16 (rng_lit rfl) ?_
  refine r_lushr (pc := 17) hC dJ13_bitCount_95d88_17 ?_
  refine r_ldc2 (x := 3689348814741910323) (pc := 18) hC dJ13_bitCount_95d88_18 kc_RJ13_316 ?_
  refine r_land (pc := 21) hC dJ13_bitCount_95d88_21 ?_
  refine r_ladd (pc := 22) hC dJ13_bitCount_95d88_22 ?_
  refine r_lstore_n (ls2 := [some (aL (((a0 - ((lUshr a0 1) &&& 6148914691236517205)) &&& 3689348814741910323) + ((lUshr (a0 - ((lUshr a0 1) &&& 6148914691236517205)) 2) &&& 3689348814741910323))), none]) (pc := 23) hC 0 dJ13_bitCount_95d88_23 rfl (by decide) rfl rfl ?_
  refine r_lload_n (pc := 24) hC 0 dJ13_bitCount_95d88_24 rfl rfl ?_
  refine r_lload_n (pc := 25) hC 0 dJ13_bitCount_95d88_25 rfl rfl ?_
  refine r_iconst (pc := 26) hC dJ13_bitCount_95d88_26 (rng_lit rfl) ?_
  refine r_lushr (pc := 27) hC dJ13_bitCount_95d88_27 ?_
  refine r_ladd (pc := 28) hC dJ13_bitCount_95d88_28 ?_
  refine r_ldc2 (x := 1085102592571150095) (pc := 29) hC dJ13_bitCount_95d88_29 kc_RJ13_318 ?_
  refine r_land (pc := 32) hC dJ13_bitCount_95d88_32 ?_
  refine r_lstore_n (ls2 := [some (aL (((((a0 - ((lUshr a0 1) &&& 6148914691236517205)) &&& 3689348814741910323) + ((lUshr (a0 - ((lUshr a0 1) &&& 6148914691236517205)) 2) &&& 3689348814741910323)) + (lUshr (((a0 - ((lUshr a0 1) &&& 6148914691236517205)) &&& 3689348814741910323) + ((lUshr (a0 - ((lUshr a0 1) &&& 6148914691236517205)) 2) &&& 3689348814741910323)) 4)) &&& 1085102592571150095)), none]) (pc := 33) hC 0 dJ13_bitCount_95d88_33 rfl (by decide) rfl rfl ?_
  refine r_lload_n (pc := 34) hC 0 dJ13_bitCount_95d88_34 rfl rfl ?_
  refine r_lload_n (pc := 35) hC 0 dJ13_bitCount_95d88_35 rfl rfl ?_
  refine r_bipush (pc := 36) hC dJ13_bitCount_95d88_36 ⟨rfl, rng_lit rfl⟩ ?_
  refine r_lushr (pc := 38) hC dJ13_bitCount_95d88_38 ?_
  refine r_ladd (pc := 39) hC dJ13_bitCount_95d88_39 ?_
  refine r_lstore_n (ls2 := [some (aL ((((((a0 - ((lUshr a0 1) &&& 6148914691236517205)) &&& 3689348814741910323) + ((lUshr (a0 - ((lUshr a0 1) &&& 6148914691236517205)) 2) &&& 3689348814741910323)) + (lUshr (((a0 - ((lUshr a0 1) &&& 6148914691236517205)) &&& 3689348814741910323) + ((lUshr (a0 - ((lUshr a0 1) &&& 6148914691236517205)) 2) &&& 3689348814741910323)) 4)) &&& 1085102592571150095) + (lUshr (((((a0 - ((lUshr a0 1) &&& 6148914691236517205)) &&& 3689348814741910323) + ((lUshr (a0 - ((lUshr a0 1) &&& 6148914691236517205)) 2) &&& 3689348814741910323)) + (lUshr (((a0 - ((lUshr a0 1) &&& 6148914691236517205)) &&& 3689348814741910323) + ((lUshr (a0 - ((lUshr a0 1) &&& 6148914691236517205)) 2) &&& 3689348814741910323)) 4)) &&& 1085102592571150095) 8))), none]) (pc := 40) hC 0 dJ13_bitCount_95d88_40 rfl (by decide) rfl rfl ?_
  refine r_lload_n (pc := 41) hC 0 dJ13_bitCount_95d88_41 rfl rfl ?_
  refine r_lload_n (pc := 42) hC 0 dJ13_bitCount_95d88_42 rfl rfl ?_
  refine r_bipush (pc := 43) hC dJ13_bitCount_95d88_43 ⟨rfl, rng_lit rfl⟩ ?_
  refine r_lushr (pc := 45) hC dJ13_bitCount_95d88_45 ?_
  refine r_ladd (pc := 46) hC dJ13_bitCount_95d88_46 ?_
  refine r_lstore_n (ls2 := [some (aL (((((((a0 - ((lUshr a0 1) &&& 6148914691236517205)) &&& 3689348814741910323) + ((lUshr (a0 - ((lUshr a0 1) &&& 6148914691236517205)) 2) &&& 3689348814741910323)) + (lUshr (((a0 - ((lUshr a0 1) &&& 6148914691236517205)) &&& 3689348814741910323) + ((lUshr (a0 - ((lUshr a0 1) &&& 6148914691236517205)) 2) &&& 3689348814741910323)) 4)) &&& 1085102592571150095) + (lUshr (((((a0 - ((lUshr a0 1) &&& 6148914691236517205)) &&& 3689348814741910323) + ((lUshr (a0 - ((lUshr a0 1) &&& 6148914691236517205)) 2) &&& 3689348814741910323)) + (lUshr (((a0 - ((lUshr a0 1) &&& 6148914691236517205)) &&& 3689348814741910323) + ((lUshr (a0 - ((lUshr a0 1) &&& 6148914691236517205)) 2) &&& 3689348814741910323)) 4)) &&& 1085102592571150095) 8)) + (lUshr ((((((a0 - ((lUshr a0 1) &&& 6148914691236517205)) &&& 3689348814741910323) + ((lUshr (a0 - ((lUshr a0 1) &&& 6148914691236517205)) 2) &&& 3689348814741910323)) + (lUshr (((a0 - ((lUshr a0 1) &&& 6148914691236517205)) &&& 3689348814741910323) + ((lUshr (a0 - ((lUshr a0 1) &&& 6148914691236517205)) 2) &&& 3689348814741910323)) 4)) &&& 1085102592571150095) + (lUshr (((((a0 - ((lUshr a0 1) &&& 6148914691236517205)) &&& 3689348814741910323) + ((lUshr (a0 - ((lUshr a0 1) &&& 6148914691236517205)) 2) &&& 3689348814741910323)) + (lUshr (((a0 - ((lUshr a0 1) &&& 6148914691236517205)) &&& 3689348814741910323) + ((lUshr (a0 - ((lUshr a0 1) &&& 6148914691236517205)) 2) &&& 3689348814741910323)) 4)) &&& 1085102592571150095) 8)) 16))), none]) (pc := 47) hC 0 dJ13_bitCount_95d88_47 rfl (by decide) rfl rfl ?_
  refine r_lload_n (pc := 48) hC 0 dJ13_bitCount_95d88_48 rfl rfl ?_
  refine r_lload_n (pc := 49) hC 0 dJ13_bitCount_95d88_49 rfl rfl ?_
  refine r_bipush (pc := 50) hC dJ13_bitCount_95d88_50 ⟨rfl, rng_lit rfl⟩ ?_
  refine r_lushr (pc := 52) hC dJ13_bitCount_95d88_52 ?_
  refine r_ladd (pc := 53) hC dJ13_bitCount_95d88_53 ?_
  refine r_lstore_n (ls2 := [some (aL ((((((((a0 - ((lUshr a0 1) &&& 6148914691236517205)) &&& 3689348814741910323) + ((lUshr (a0 - ((lUshr a0 1) &&& 6148914691236517205)) 2) &&& 3689348814741910323)) + (lUshr (((a0 - ((lUshr a0 1) &&& 6148914691236517205)) &&& 3689348814741910323) + ((lUshr (a0 - ((lUshr a0 1) &&& 6148914691236517205)) 2) &&& 3689348814741910323)) 4)) &&& 1085102592571150095) + (lUshr (((((a0 - ((lUshr a0 1) &&& 6148914691236517205)) &&& 3689348814741910323) + ((lUshr (a0 - ((lUshr a0 1) &&& 6148914691236517205)) 2) &&& 3689348814741910323)) + (lUshr (((a0 - ((lUshr a0 1) &&& 6148914691236517205)) &&& 3689348814741910323) + ((lUshr (a0 - ((lUshr a0 1) &&& 6148914691236517205)) 2) &&& 3689348814741910323)) 4)) &&& 1085102592571150095) 8)) + (lUshr ((((((a0 - ((lUshr a0 1) &&& 6148914691236517205)) &&& 3689348814741910323) + ((lUshr (a0 - ((lUshr a0 1) &&& 6148914691236517205)) 2) &&& 3689348814741910323)) + (lUshr (((a0 - ((lUshr a0 1) &&& 6148914691236517205)) &&& 3689348814741910323) + ((lUshr (a0 - ((lUshr a0 1) &&& 6148914691236517205)) 2) &&& 3689348814741910323)) 4)) &&& 1085102592571150095) + (lUshr (((((a0 - ((lUshr a0 1) &&& 6148914691236517205)) &&& 3689348814741910323) + ((lUshr (a0 - ((lUshr a0 1) &&& 6148914691236517205)) 2) &&& 3689348814741910323)) + (lUshr (((a0 - ((lUshr a0 1) &&& 6148914691236517205)) &&& 3689348814741910323) + ((lUshr (a0 - ((lUshr a0 1) &&& 6148914691236517205)) 2) &&& 3689348814741910323)) 4)) &&& 1085102592571150095) 8)) 16)) + (lUshr (((((((a0 - ((lUshr a0 1) &&& 6148914691236517205)) &&& 3689348814741910323) + ((lUshr (a0 - ((lUshr a0 1) &&& 6148914691236517205)) 2) &&& 3689348814741910323)) + (lUshr (((a0 - ((lUshr a0 1) &&& 6148914691236517205)) &&& 3689348814741910323) + ((lUshr (a0 - ((lUshr a0 1) &&& 6148914691236517205)) 2) &&& 3689348814741910323)) 4)) &&& 1085102592571150095) + (lUshr (((((a0 - ((lUshr a0 1) &&& 6148914691236517205)) &&& 3689348814741910323) + ((lUshr (a0 - ((lUshr a0 1) &&& 6148914691236517205)) 2) &&& 3689348814741910323)) + (lUshr (((a0 - ((lUshr a0 1) &&& 6148914691236517205)) &&& 3689348814741910323) + ((lUshr (a0 - ((lUshr a0 1) &&& 6148914691236517205)) 2) &&& 3689348814741910323)) 4)) &&& 1085102592571150095) 8)) + (lUshr ((((((a0 - ((lUshr a0 1) &&& 6148914691236517205)) &&& 3689348814741910323) + ((lUshr (a0 - ((lUshr a0 1) &&& 6148914691236517205)) 2) &&& 3689348814741910323)) + (lUshr (((a0 - ((lUshr a0 1) &&& 6148914691236517205)) &&& 3689348814741910323) + ((lUshr (a0 - ((lUshr a0 1) &&& 6148914691236517205)) 2) &&& 3689348814741910323)) 4)) &&& 1085102592571150095) + (lUshr (((((a0 - ((lUshr a0 1) &&& 6148914691236517205)) &&& 3689348814741910323) + ((lUshr (a0 - ((lUshr a0 1) &&& 6148914691236517205)) 2) &&& 3689348814741910323)) + (lUshr (((a0 - ((lUshr a0 1) &&& 6148914691236517205)) &&& 3689348814741910323) + ((lUshr (a0 - ((lUshr a0 1) &&& 6148914691236517205)) 2) &&& 3689348814741910323)) 4)) &&& 1085102592571150095) 8)) 16)) 32))), none]) (pc := 54) hC 0 dJ13_bitCount_95d88_54 rfl (by decide) rfl rfl ?_
  refine r_lload_n (pc := 55) hC 0 dJ13_bitCount_95d88_55 rfl rfl ?_
  refine r_l2i (pc := 56) hC dJ13_bitCount_95d88_56 ?_
  refine r_bipush (pc := 57) hC dJ13_bitCount_95d88_57 ⟨rfl, rng_lit rfl⟩ ?_
  refine r_iand (pc := 59) hC dJ13_bitCount_95d88_59 ?_
  exact r_reti (pc := 60) (kd := 0) hC hQ dJ13_bitCount_95d88_60 hr hk (by decide) (Or.inl rfl) ⟨rfl, h⟩
def wp_Page_unlikeWords (pg_lowWords : (Nat → Int64)) (pg_highWords : (Nat → Int64)) (a1 : Int) (Q : Int → Prop) : Prop := (0 ≤ a1 ∧ a1 < 14) ∧ (wp_JL_bitCount (pg_lowWords (Int.toNat a1)) (fun (r1 : Int) => (0 ≤ a1 ∧ a1 < 14) ∧ (wp_JL_bitCount (pg_highWords (Int.toNat a1)) (fun (r2 : Int) => (rng (r1 + r2)) ∧ (Q (r1 + r2))))))
set_option maxHeartbeats 4000000 in
set_option maxRecDepth 20000 in
theorem s_Page_unlikeWords (l : Launch) (w : St) (a1 : Int) (P : Int → Prop) (h : wp_Page_unlikeWords (w.2 16) (w.2 17) a1 P) : Cn l yX1_unlikeWords cX1_unlikeWords 2 (some .int) 1 LX w [aR 3, aI a1] (okI (fun r w1 => w1 = w ∧ P r)) := by
  unfold wp_Page_unlikeWords at h
  refine Cn.of2 [some (aR 3), some (aI a1)] (by decide) (Nat.le_of_ble_eq_true rfl) rfl (fun p e s m args below meth c D cA ad A Q hQ hC hr hk => ?_)
  refine r_aload_n (pc := 0) hC 0 dX1_unlikeWords_0 rfl rfl ?_
  refine r_getr (r := 16) (pc := 1) hC dX1_unlikeWords_1 fl_RX1_49 lX_3 rfl ?_
  refine r_iload_n (pc := 4) hC 1 dX1_unlikeWords_4 rfl rfl ?_
  refine r_lald (v := ((w.2 16) (Int.toNat a1))) (pc := 5) hC dX1_unlikeWords_5 lX_16 h.1.1 h.1.2 rfl ?_
  have h := h.2
  refine r_callSi (pc := 6) hC [aL ((w.2 16) (Int.toNat a1))] [] dX1_unlikeWords_6 ml_RX1_141 my_J13_bitCount_95d88 ms_J13_bitCount_95d88 rfl ⟨Nat.le_of_ble_eq_true rfl, Nat.le_of_ble_eq_true rfl⟩ ⟨Nat.le_of_ble_eq_true rfl, Nat.le_of_ble_eq_true rfl⟩ (Nat.le_of_ble_eq_true rfl) rfl (s_JL_bitCount l _ _ _ h) (fun r1 w1 hq => ?_)
  obtain ⟨e9, h⟩ := hq
  rw [e9]
  refine r_aload_n (pc := 9) hC 0 dX1_unlikeWords_9 rfl rfl ?_
  refine r_getr (r := 17) (pc := 10) hC dX1_unlikeWords_10 fl_RX1_53 lX_3 rfl ?_
  refine r_iload_n (pc := 13) hC 1 dX1_unlikeWords_13 rfl rfl ?_
  refine r_lald (v := ((w.2 17) (Int.toNat a1))) (pc := 14) hC dX1_unlikeWords_14 lX_17 h.1.1 h.1.2 rfl ?_
  have h := h.2
  refine r_callSi (pc := 15) hC [aL ((w.2 17) (Int.toNat a1))] [aI r1] dX1_unlikeWords_15 ml_RX1_141 my_J13_bitCount_95d88 ms_J13_bitCount_95d88 rfl ⟨Nat.le_of_ble_eq_true rfl, Nat.le_of_ble_eq_true rfl⟩ ⟨Nat.le_of_ble_eq_true rfl, Nat.le_of_ble_eq_true rfl⟩ (Nat.le_of_ble_eq_true rfl) rfl (s_JL_bitCount l _ _ _ h) (fun r2 w1 hq => ?_)
  obtain ⟨e9, h⟩ := hq
  rw [e9]
  refine r_iadd (pc := 18) hC dX1_unlikeWords_18 h.1 ?_
  have h := h.2
  exact r_reti (pc := 19) (kd := 0) hC hQ dX1_unlikeWords_19 hr hk (by decide) (Or.inl rfl) ⟨rfl, h⟩
def wp_Page_unlikeOfAll (pg_wordAlike : (Nat → Int)) (pg_words : Int) (Q : Int → Prop) : Prop := lpw2 (fun (x1 : Int) (x2 : Int) (k1 : Int → Int → Prop) => (pg_words ≤ x2 → Q x1) ∧ (¬ pg_words ≤ x2 → (0 ≤ x2 ∧ x2 < 100) ∧ (jn1 (fun (J2 : Int → Prop) => (¬ (pg_wordAlike (Int.toNat x2)) = x2 → J2 x1) ∧ ((pg_wordAlike (Int.toNat x2)) = x2 → (rng (x1 + 1)) ∧ (J2 (x1 + 1)))) (fun (x3 : Int) => (rng (x2 + 1)) ∧ (k1 x3 (x2 + 1)))))) 0 0
set_option maxHeartbeats 4000000 in
set_option maxRecDepth 20000 in
theorem s_Page_unlikeOfAll (l : Launch) (w : St) (P : Int → Prop) (h : wp_Page_unlikeOfAll (w.1 10) (w.1 3 16) P) : Cn l yX1_unlikeOfAll cX1_unlikeOfAll 3 (some .int) 0 LX w [aR 3] (okI (fun r w1 => w1 = w ∧ P r)) := by
  unfold wp_Page_unlikeOfAll at h
  refine Cn.of2 [some (aR 3), none, none] (by decide) (Nat.le_of_ble_eq_true rfl) rfl (fun p e s m args below meth c D cA ad A Q hQ hC hr hk => ?_)
  refine r_iconst (pc := 0) hC dX1_unlikeOfAll_0 (rng_lit rfl) ?_
  refine r_istore_n (ls2 := [some (aR 3), some (aI 0), none]) (pc := 1) hC 1 dX1_unlikeOfAll_1 rfl (by decide) rfl rfl ?_
  refine r_iconst (pc := 2) hC dX1_unlikeOfAll_2 (rng_lit rfl) ?_
  refine r_istore_n (ls2 := [some (aR 3), some (aI 0), some (aI 0)]) (pc := 3) hC 2 dX1_unlikeOfAll_3 rfl (by decide) rfl rfl ?_
  obtain ⟨I1, μ1, hI1, hB1⟩ := h
  have S1 : ∀ (nn : Nat) (x1 : Int) (x2 : Int), μ1 x1 x2 < nn → I1 x1 x2 → Wd p l e (rmD 0) s m args below meth c Q 0 0 3 D cA ad A LX w 4 [some (aR 3), some (aI x1), some (aI x2)] [] := by
    intro nn
    induction nn with
    | zero => intro x1 x2 hn; exact absurd hn (Nat.not_lt_zero _)
    | succ nn ih1 =>
      intro x1 x2 hn1 hi
      have h := hB1 x1 x2 hi
      refine r_iload_n (pc := 4) hC 2 dX1_unlikeOfAll_4 rfl rfl ?_
      refine r_aload_n (pc := 5) hC 0 dX1_unlikeOfAll_5 rfl rfl ?_
      refine r_get (kd := 0) (v := (w.1 3 16)) (pc := 6) hC dX1_unlikeOfAll_6 fl_RX1_96 lX_3 rfl rfl ?_
      refine r_ic_ge (pc := 9) (tgt := 31) hC dX1_unlikeOfAll_9 rfl (fun hc2 => ?_) (fun hc2 => ?_)
      · have h := h.1 hc2
        refine r_iload_n (pc := 31) hC 1 dX1_unlikeOfAll_31 rfl rfl ?_
        exact r_reti (pc := 32) (kd := 0) hC hQ dX1_unlikeOfAll_32 hr hk (by decide) (Or.inl rfl) ⟨rfl, h⟩
      have h := h.2 hc2
      refine r_aload_n (pc := 12) hC 0 dX1_unlikeOfAll_12 rfl rfl ?_
      refine r_getr (r := 10) (pc := 13) hC dX1_unlikeOfAll_13 fl_RX1_31 lX_3 rfl ?_
      refine r_iload_n (pc := 16) hC 2 dX1_unlikeOfAll_16 rfl rfl ?_
      refine r_iald (v := ((w.1 10) (Int.toNat x2))) (pc := 17) hC dX1_unlikeOfAll_17 lX_10 h.1.1 h.1.2 rfl ?_
      have h := h.2
      refine r_iload_n (pc := 18) hC 2 dX1_unlikeOfAll_18 rfl rfl ?_
      obtain ⟨J2, hJ2, h⟩ := h
      have S2 : ∀ (x3 : Int), J2 x3 → Wd p l e (rmD 0) s m args below meth c Q 0 0 3 D cA ad A LX w 25 [some (aR 3), some (aI x3), some (aI x2)] [] := by
        intro x3 hj
        have h := hJ2 x3 hj
        refine r_iinc (ls2 := [some (aR 3), some (aI x3), some (aI (x2 + 1))]) (pc := 25) hC dX1_unlikeOfAll_25 rfl (by decide) rfl h.1 rfl ?_
        have h := h.2
        refine r_goto (tgt := 4) (pc := 28) hC dX1_unlikeOfAll_28 rfl ?_
        exact r_to [true, true, true] rfl rfl (ih1 x3 (x2 + 1) (Nat.lt_of_lt_of_le h.2 (Nat.le_of_lt_succ hn1)) h.1)
      refine r_ic_ne (pc := 19) (tgt := 25) hC dX1_unlikeOfAll_19 rfl (fun hc1 => ?_) (fun hc1 => ?_)
      · have h := h.1 hc1
        exact r_to [true, true, true] rfl rfl (S2 x1 h)
      have h := h.2 hc1
      refine r_iinc (ls2 := [some (aR 3), some (aI (x1 + 1)), some (aI x2)]) (pc := 22) hC dX1_unlikeOfAll_22 rfl (by decide) rfl h.1 rfl ?_
      have h := h.2
      exact r_to [true, true, true] rfl rfl (S2 (x1 + 1) h)
  exact r_to [true, true, true] rfl rfl (S1 _ 0 0 (Nat.lt_succ_self _) hI1)
def wp_Page_inCommon (pg_lowWords : (Nat → Int64)) (pg_highWords : (Nat → Int64)) (a1 : Int) (a2 : Int) (Q : Int → Prop) : Prop := (¬ a1 = a2 → (0 ≤ a1 ∧ a1 < 14) ∧ ((0 ≤ a2 ∧ a2 < 14) ∧ (wp_JL_bitCount ((pg_lowWords (Int.toNat a1)) &&& (pg_lowWords (Int.toNat a2))) (fun (r1 : Int) => (0 ≤ a1 ∧ a1 < 14) ∧ ((0 ≤ a2 ∧ a2 < 14) ∧ (wp_JL_bitCount ((pg_highWords (Int.toNat a1)) &&& (pg_highWords (Int.toNat a2))) (fun (r2 : Int) => (rng (r1 + r2)) ∧ (wp_Page_unlikeWords pg_lowWords pg_highWords a1 (fun (r3 : Int) => wp_Page_unlikeWords pg_lowWords pg_highWords a2 (fun (r4 : Int) => (rng (r3 + r4)) ∧ ((rng ((r3 + r4) - (r1 + r2))) ∧ ((¬ ((r3 + r4) - (r1 + r2)) = 0 → (rng ((r1 + r2) * 100)) ∧ ((((r3 + r4) - (r1 + r2)) ≠ 0 ∧ rng (Int.tdiv ((r1 + r2) * 100) ((r3 + r4) - (r1 + r2)))) ∧ (Q (Int.tdiv ((r1 + r2) * 100) ((r3 + r4) - (r1 + r2)))))) ∧ (((r3 + r4) - (r1 + r2)) = 0 → Q 0))))))))))))) ∧ (a1 = a2 → Q 100)
set_option maxHeartbeats 4000000 in
set_option maxRecDepth 20000 in
theorem s_Page_inCommon (l : Launch) (w : St) (a1 : Int) (a2 : Int) (P : Int → Prop) (h : wp_Page_inCommon (w.2 16) (w.2 17) a1 a2 P) : Cn l yX1_inCommon cX1_inCommon 5 (some .int) 2 LX w [aR 3, aI a1, aI a2] (okI (fun r w1 => w1 = w ∧ P r)) := by
  unfold wp_Page_inCommon at h
  refine Cn.of2 [some (aR 3), some (aI a1), some (aI a2), none, none] (by decide) (Nat.le_of_ble_eq_true rfl) rfl (fun p e s m args below meth c D cA ad A Q hQ hC hr hk => ?_)
  refine r_iload_n (pc := 0) hC 1 dX1_inCommon_0 rfl rfl ?_
  refine r_iload_n (pc := 1) hC 2 dX1_inCommon_1 rfl rfl ?_
  refine r_ic_ne (pc := 2) (tgt := 8) hC dX1_inCommon_2 rfl (fun hc2 => ?_) (fun hc2 => ?_)
  · have h := h.1 hc2
    refine r_aload_n (pc := 8) hC 0 dX1_inCommon_8 rfl rfl ?_
    refine r_getr (r := 16) (pc := 9) hC dX1_inCommon_9 fl_RX1_49 lX_3 rfl ?_
    refine r_iload_n (pc := 12) hC 1 dX1_inCommon_12 rfl rfl ?_
    refine r_lald (v := ((w.2 16) (Int.toNat a1))) (pc := 13) hC dX1_inCommon_13 lX_16 h.1.1 h.1.2 rfl ?_
    have h := h.2
    refine r_aload_n (pc := 14) hC 0 dX1_inCommon_14 rfl rfl ?_
    refine r_getr (r := 16) (pc := 15) hC dX1_inCommon_15 fl_RX1_49 lX_3 rfl ?_
    refine r_iload_n (pc := 18) hC 2 dX1_inCommon_18 rfl rfl ?_
    refine r_lald (v := ((w.2 16) (Int.toNat a2))) (pc := 19) hC dX1_inCommon_19 lX_16 h.1.1 h.1.2 rfl ?_
    have h := h.2
    refine r_land (pc := 20) hC dX1_inCommon_20 ?_
    refine r_callSi (pc := 21) hC [aL (((w.2 16) (Int.toNat a1)) &&& ((w.2 16) (Int.toNat a2)))] [] dX1_inCommon_21 ml_RX1_141 my_J13_bitCount_95d88 ms_J13_bitCount_95d88 rfl ⟨Nat.le_of_ble_eq_true rfl, Nat.le_of_ble_eq_true rfl⟩ ⟨Nat.le_of_ble_eq_true rfl, Nat.le_of_ble_eq_true rfl⟩ (Nat.le_of_ble_eq_true rfl) rfl (s_JL_bitCount l _ _ _ h) (fun r1 w1 hq => ?_)
    obtain ⟨e9, h⟩ := hq
    rw [e9]
    refine r_aload_n (pc := 24) hC 0 dX1_inCommon_24 rfl rfl ?_
    refine r_getr (r := 17) (pc := 25) hC dX1_inCommon_25 fl_RX1_53 lX_3 rfl ?_
    refine r_iload_n (pc := 28) hC 1 dX1_inCommon_28 rfl rfl ?_
    refine r_lald (v := ((w.2 17) (Int.toNat a1))) (pc := 29) hC dX1_inCommon_29 lX_17 h.1.1 h.1.2 rfl ?_
    have h := h.2
    refine r_aload_n (pc := 30) hC 0 dX1_inCommon_30 rfl rfl ?_
    refine r_getr (r := 17) (pc := 31) hC dX1_inCommon_31 fl_RX1_53 lX_3 rfl ?_
    refine r_iload_n (pc := 34) hC 2 dX1_inCommon_34 rfl rfl ?_
    refine r_lald (v := ((w.2 17) (Int.toNat a2))) (pc := 35) hC dX1_inCommon_35 lX_17 h.1.1 h.1.2 rfl ?_
    have h := h.2
    refine r_land (pc := 36) hC dX1_inCommon_36 ?_
    refine r_callSi (pc := 37) hC [aL (((w.2 17) (Int.toNat a1)) &&& ((w.2 17) (Int.toNat a2)))] [aI r1] dX1_inCommon_37 ml_RX1_141 my_J13_bitCount_95d88 ms_J13_bitCount_95d88 rfl ⟨Nat.le_of_ble_eq_true rfl, Nat.le_of_ble_eq_true rfl⟩ ⟨Nat.le_of_ble_eq_true rfl, Nat.le_of_ble_eq_true rfl⟩ (Nat.le_of_ble_eq_true rfl) rfl (s_JL_bitCount l _ _ _ h) (fun r2 w1 hq => ?_)
    obtain ⟨e9, h⟩ := hq
    rw [e9]
    refine r_iadd (pc := 40) hC dX1_inCommon_40 h.1 ?_
    have h := h.2
    refine r_istore_n (ls2 := [some (aR 3), some (aI a1), some (aI a2), some (aI (r1 + r2)), none]) (pc := 41) hC 3 dX1_inCommon_41 rfl (by decide) rfl rfl ?_
    refine r_aload_n (pc := 42) hC 0 dX1_inCommon_42 rfl rfl ?_
    refine r_iload_n (pc := 43) hC 1 dX1_inCommon_43 rfl rfl ?_
    refine r_callVi (pc := 44) hC [aI a1] [] dX1_inCommon_44 ml_RX1_147 my_X1_unlikeWords mi_X1_unlikeWords lX_3 rfl rfl ⟨Nat.le_of_ble_eq_true rfl, Nat.le_of_ble_eq_true rfl⟩ ⟨Nat.le_of_ble_eq_true rfl, Nat.le_of_ble_eq_true rfl⟩ (Nat.le_of_ble_eq_true rfl) rfl (s_Page_unlikeWords l _ _ _ h) (fun r3 w1 hq => ?_)
    obtain ⟨e9, h⟩ := hq
    rw [e9]
    refine r_aload_n (pc := 47) hC 0 dX1_inCommon_47 rfl rfl ?_
    refine r_iload_n (pc := 48) hC 2 dX1_inCommon_48 rfl rfl ?_
    refine r_callVi (pc := 49) hC [aI a2] [aI r3] dX1_inCommon_49 ml_RX1_147 my_X1_unlikeWords mi_X1_unlikeWords lX_3 rfl rfl ⟨Nat.le_of_ble_eq_true rfl, Nat.le_of_ble_eq_true rfl⟩ ⟨Nat.le_of_ble_eq_true rfl, Nat.le_of_ble_eq_true rfl⟩ (Nat.le_of_ble_eq_true rfl) rfl (s_Page_unlikeWords l _ _ _ h) (fun r4 w1 hq => ?_)
    obtain ⟨e9, h⟩ := hq
    rw [e9]
    refine r_iadd (pc := 52) hC dX1_inCommon_52 h.1 ?_
    have h := h.2
    refine r_iload_n (pc := 53) hC 3 dX1_inCommon_53 rfl rfl ?_
    refine r_isub (pc := 54) hC dX1_inCommon_54 h.1 ?_
    have h := h.2
    refine r_istore (ls2 := [some (aR 3), some (aI a1), some (aI a2), some (aI (r1 + r2)), some (aI ((r3 + r4) - (r1 + r2)))]) (pc := 55) hC dX1_inCommon_55 (by decide) rfl rfl ?_
    refine r_iload (pc := 57) hC dX1_inCommon_57 rfl ?_
    refine r_if_ne (pc := 59) (tgt := 66) hC dX1_inCommon_59 rfl (fun hc1 => ?_) (fun hc1 => ?_)
    · have h := h.1 hc1
      refine r_iload_n (pc := 66) hC 3 dX1_inCommon_66 rfl rfl ?_
      refine r_bipush (pc := 67) hC dX1_inCommon_67 ⟨rfl, rng_lit rfl⟩ ?_
      refine r_imul (pc := 69) hC dX1_inCommon_69 h.1 ?_
      have h := h.2
      refine r_iload (pc := 70) hC dX1_inCommon_70 rfl ?_
      refine r_idiv (pc := 72) hC dX1_inCommon_72 h.1.1 h.1.2 ?_
      have h := h.2
      exact r_reti (pc := 73) (kd := 0) hC hQ dX1_inCommon_73 hr hk (by decide) (Or.inl rfl) ⟨rfl, h⟩
    have h := h.2 hc1
    refine r_iconst (pc := 62) hC dX1_inCommon_62 (rng_lit rfl) ?_
    refine r_goto (tgt := 73) (pc := 63) hC dX1_inCommon_63 rfl ?_
    exact r_reti (pc := 73) (kd := 0) hC hQ dX1_inCommon_73 hr hk (by decide) (Or.inl rfl) ⟨rfl, h⟩
  have h := h.2 hc2
  refine r_bipush (pc := 5) hC dX1_inCommon_5 ⟨rfl, rng_lit rfl⟩ ?_
  exact r_reti (pc := 7) (kd := 0) hC hQ dX1_inCommon_7 hr hk (by decide) (Or.inl rfl) ⟨rfl, h⟩
def wp_Page_echo (pg_sentences : Int) (pg_lowWords : (Nat → Int64)) (pg_highWords : (Nat → Int64)) (a1 : Int) (Q : Int → Prop) : Prop := lpw3 (fun (x1 : Int) (x2 : Int) (x3 : Int) (k1 : Int → Int → Int → Prop) => (pg_sentences ≤ x3 → Q x1) ∧ (¬ pg_sentences ≤ x3 → jn2 (fun (J2 : Int → Int → Prop) => (x3 = a1 → J2 x1 x2) ∧ (¬ x3 = a1 → wp_Page_inCommon pg_lowWords pg_highWords a1 x3 (fun (r6 : Int) => (r6 ≤ x2 → J2 x1 x2) ∧ (¬ r6 ≤ x2 → wp_Page_inCommon pg_lowWords pg_highWords a1 x3 (fun (r7 : Int) => J2 x3 r7))))) (fun (x4 : Int) (x5 : Int) => (rng (x3 + 1)) ∧ (k1 x4 x5 (x3 + 1))))) (-1) 0 0
set_option maxHeartbeats 4000000 in
set_option maxRecDepth 20000 in
theorem s_Page_echo (l : Launch) (w : St) (a1 : Int) (P : Int → Prop) (h : wp_Page_echo (w.1 3 17) (w.2 16) (w.2 17) a1 P) : Cn l yX1_echo cX1_echo 5 (some .int) 3 LX w [aR 3, aI a1] (okI (fun r w1 => w1 = w ∧ P r)) := by
  unfold wp_Page_echo at h
  refine Cn.of2 [some (aR 3), some (aI a1), none, none, none] (by decide) (Nat.le_of_ble_eq_true rfl) rfl (fun p e s m args below meth c D cA ad A Q hQ hC hr hk => ?_)
  refine r_iconst (pc := 0) hC dX1_echo_0 (rng_lit rfl) ?_
  refine r_istore_n (ls2 := [some (aR 3), some (aI a1), some (aI (-1)), none, none]) (pc := 1) hC 2 dX1_echo_1 rfl (by decide) rfl rfl ?_
  refine r_iconst (pc := 2) hC dX1_echo_2 (rng_lit rfl) ?_
  refine r_istore_n (ls2 := [some (aR 3), some (aI a1), some (aI (-1)), some (aI 0), none]) (pc := 3) hC 3 dX1_echo_3 rfl (by decide) rfl rfl ?_
  refine r_iconst (pc := 4) hC dX1_echo_4 (rng_lit rfl) ?_
  refine r_istore (ls2 := [some (aR 3), some (aI a1), some (aI (-1)), some (aI 0), some (aI 0)]) (pc := 5) hC dX1_echo_5 (by decide) rfl rfl ?_
  obtain ⟨I1, μ1, hI1, hB1⟩ := h
  have S1 : ∀ (nn : Nat) (x1 : Int) (x2 : Int) (x3 : Int), μ1 x1 x2 x3 < nn → I1 x1 x2 x3 → Wd p l e (rmD 3) s m args below meth c Q 0 0 5 D cA ad A LX w 7 [some (aR 3), some (aI a1), some (aI x1), some (aI x2), some (aI x3)] [] := by
    intro nn
    induction nn with
    | zero => intro x1 x2 x3 hn; exact absurd hn (Nat.not_lt_zero _)
    | succ nn ih1 =>
      intro x1 x2 x3 hn1 hi
      have h := hB1 x1 x2 x3 hi
      refine r_iload (pc := 7) hC dX1_echo_7 rfl ?_
      refine r_aload_n (pc := 9) hC 0 dX1_echo_9 rfl rfl ?_
      refine r_get (kd := 0) (v := (w.1 3 17)) (pc := 10) hC dX1_echo_10 fl_RX1_102 lX_3 rfl rfl ?_
      refine r_ic_ge (pc := 13) (tgt := 50) hC dX1_echo_13 rfl (fun hc3 => ?_) (fun hc3 => ?_)
      · have h := h.1 hc3
        refine r_iload_n (pc := 50) hC 2 dX1_echo_50 rfl rfl ?_
        exact r_reti (pc := 51) (kd := 0) hC hQ dX1_echo_51 hr hk (by decide) (Or.inl rfl) ⟨rfl, h⟩
      have h := h.2 hc3
      refine r_iload (pc := 16) hC dX1_echo_16 rfl ?_
      refine r_iload_n (pc := 18) hC 1 dX1_echo_18 rfl rfl ?_
      obtain ⟨J2, hJ2, h⟩ := h
      have S2 : ∀ (x4 : Int) (x5 : Int), J2 x4 x5 → Wd p l e (rmD 3) s m args below meth c Q 0 0 5 D cA ad A LX w 44 [some (aR 3), some (aI a1), some (aI x4), some (aI x5), some (aI x3)] [] := by
        intro x4 x5 hj
        have h := hJ2 x4 x5 hj
        refine r_iinc (ls2 := [some (aR 3), some (aI a1), some (aI x4), some (aI x5), some (aI (x3 + 1))]) (pc := 44) hC dX1_echo_44 rfl (by decide) rfl h.1 rfl ?_
        have h := h.2
        refine r_goto (tgt := 7) (pc := 47) hC dX1_echo_47 rfl ?_
        exact r_to [true, true, true, true, true] rfl rfl (ih1 x4 x5 (x3 + 1) (Nat.lt_of_lt_of_le h.2 (Nat.le_of_lt_succ hn1)) h.1)
      refine r_ic_eq (pc := 19) (tgt := 44) hC dX1_echo_19 rfl (fun hc2 => ?_) (fun hc2 => ?_)
      · have h := h.1 hc2
        exact r_to [true, true, true, true, true] rfl rfl (S2 x1 x2 h)
      have h := h.2 hc2
      refine r_aload_n (pc := 22) hC 0 dX1_echo_22 rfl rfl ?_
      refine r_iload_n (pc := 23) hC 1 dX1_echo_23 rfl rfl ?_
      refine r_iload (pc := 24) hC dX1_echo_24 rfl ?_
      refine r_callVi (pc := 26) hC [aI a1, aI x3] [] dX1_echo_26 ml_RX1_150 my_X1_inCommon mi_X1_inCommon lX_3 rfl rfl ⟨Nat.le_of_ble_eq_true rfl, Nat.le_of_ble_eq_true rfl⟩ ⟨Nat.le_of_ble_eq_true rfl, Nat.le_of_ble_eq_true rfl⟩ (Nat.le_of_ble_eq_true rfl) rfl (s_Page_inCommon l _ _ _ _ h) (fun r6 w1 hq => ?_)
      obtain ⟨e9, h⟩ := hq
      rw [e9]
      refine r_iload_n (pc := 29) hC 3 dX1_echo_29 rfl rfl ?_
      refine r_ic_le (pc := 30) (tgt := 44) hC dX1_echo_30 rfl (fun hc1 => ?_) (fun hc1 => ?_)
      · have h := h.1 hc1
        exact r_to [true, true, true, true, true] rfl rfl (S2 x1 x2 h)
      have h := h.2 hc1
      refine r_iload (pc := 33) hC dX1_echo_33 rfl ?_
      refine r_istore_n (ls2 := [some (aR 3), some (aI a1), some (aI x3), some (aI x2), some (aI x3)]) (pc := 35) hC 2 dX1_echo_35 rfl (by decide) rfl rfl ?_
      refine r_aload_n (pc := 36) hC 0 dX1_echo_36 rfl rfl ?_
      refine r_iload_n (pc := 37) hC 1 dX1_echo_37 rfl rfl ?_
      refine r_iload (pc := 38) hC dX1_echo_38 rfl ?_
      refine r_callVi (pc := 40) hC [aI a1, aI x3] [] dX1_echo_40 ml_RX1_150 my_X1_inCommon mi_X1_inCommon lX_3 rfl rfl ⟨Nat.le_of_ble_eq_true rfl, Nat.le_of_ble_eq_true rfl⟩ ⟨Nat.le_of_ble_eq_true rfl, Nat.le_of_ble_eq_true rfl⟩ (Nat.le_of_ble_eq_true rfl) rfl (s_Page_inCommon l _ _ _ _ h) (fun r7 w1 hq => ?_)
      obtain ⟨e9, h⟩ := hq
      rw [e9]
      refine r_istore_n (ls2 := [some (aR 3), some (aI a1), some (aI x3), some (aI r7), some (aI x3)]) (pc := 43) hC 3 dX1_echo_43 rfl (by decide) rfl rfl ?_
      exact r_to [true, true, true, true, true] rfl rfl (S2 x3 r7 h)
  exact r_to [true, true, true, true, true] rfl rfl (S1 _ (-1) 0 0 (Nat.lt_succ_self _) hI1)
def wp_Query_clear (dr_starredTerms : Int) (dr_softItems : Int) (dr_items : Int) (Q : Int → Int → Int → Prop) : Prop := Q 0 0 0
set_option maxHeartbeats 4000000 in
set_option maxRecDepth 20000 in
theorem s_Query_clear (l : Launch) (w : St) (P : Int → Int → Int → Prop) (h : wp_Query_clear (w.1 23 4) (w.1 23 5) (w.1 23 6) P) : Cn l yX2_clear cX2_clear 1 none 0 LX w [aR 23] (okV (fun w1 => ∃ (o0 : Int) (o1 : Int) (o2 : Int), w1 = (wI (wI (wI w 23 4 o0) 23 5 o1) 23 6 o2) ∧ P o0 o1 o2)) := by
  unfold wp_Query_clear at h
  refine Cn.of2 [some (aR 23)] (by decide) (Nat.le_of_ble_eq_true rfl) rfl (fun p e s m args below meth c D cA ad A Q hQ hC hr hk => ?_)
  refine r_aload_n (pc := 0) hC 0 dX2_clear_0 rfl rfl ?_
  refine r_iconst (pc := 1) hC dX2_clear_1 (rng_lit rfl) ?_
  refine r_put (kd := 0) (pc := 2) hC dX2_clear_2 pl_RX2_24 lX_23 rfl (by decide) (Or.inl rfl) ?_
  refine r_aload_n (pc := 5) hC 0 dX2_clear_5 rfl rfl ?_
  refine r_iconst (pc := 6) hC dX2_clear_6 (rng_lit rfl) ?_
  refine r_put (kd := 0) (pc := 7) hC dX2_clear_7 pl_RX2_28 lX_23 rfl (by decide) (Or.inl rfl) ?_
  refine r_aload_n (pc := 10) hC 0 dX2_clear_10 rfl rfl ?_
  refine r_iconst (pc := 11) hC dX2_clear_11 (rng_lit rfl) ?_
  refine r_put (kd := 0) (pc := 12) hC dX2_clear_12 pl_RX2_31 lX_23 rfl (by decide) (Or.inl rfl) ?_
  refine r_conv (w2 := (wI (wI (wI w 23 4 0) 23 5 0) 23 6 0)) rfl ?_
  exact r_retv (pc := 15) hC hQ dX2_clear_15 hr hk ⟨0, 0, 0, rfl, h⟩
def wp_Query_addItem (dr_weights : (Nat → Int)) (dr_termCounts : (Nat → Int)) (dr_softItems : Int) (dr_items : Int) (a1 : Int) (a2 : Int) (Q : (Nat → Int) → (Nat → Int) → Int → Int → Prop) : Prop := (8 ≤ dr_items → Q dr_weights dr_termCounts dr_softItems dr_items) ∧ (¬ 8 ≤ dr_items → (0 ≤ dr_items ∧ dr_items < 8) ∧ ((0 ≤ dr_items ∧ dr_items < 8) ∧ (jn1 (fun (J1 : Int → Prop) => (a2 = 0 → J1 0) ∧ (¬ a2 = 0 → J1 (iShl 1 dr_items))) (fun (y1 : Int) => (rng (dr_items + 1)) ∧ (Q (uI dr_weights dr_items a1) (uI dr_termCounts dr_items 0) (iOr dr_softItems y1) (dr_items + 1))))))
set_option maxHeartbeats 4000000 in
set_option maxRecDepth 20000 in
theorem s_Query_addItem (l : Launch) (w : St) (a1 : Int) (a2 : Int) (P : (Nat → Int) → (Nat → Int) → Int → Int → Prop) (h : wp_Query_addItem (w.1 24) (w.1 25) (w.1 23 5) (w.1 23 6) a1 a2 P) : Cn l yX2_addItem cX2_addItem 3 none 0 LX w [aR 23, aI a1, aI a2] (okV (fun w1 => ∃ (o0 : (Nat → Int)) (o1 : (Nat → Int)) (o2 : Int) (o3 : Int), w1 = (wI (wI (wA (wA w 24 o0) 25 o1) 23 5 o2) 23 6 o3) ∧ P o0 o1 o2 o3)) := by
  unfold wp_Query_addItem at h
  refine Cn.of2 [some (aR 23), some (aI a1), some (aI a2)] (by decide) (Nat.le_of_ble_eq_true rfl) rfl (fun p e s m args below meth c D cA ad A Q hQ hC hr hk => ?_)
  refine r_aload_n (pc := 0) hC 0 dX2_addItem_0 rfl rfl ?_
  refine r_get (kd := 0) (v := (w.1 23 6)) (pc := 1) hC dX2_addItem_1 fl_RX2_24 lX_23 rfl rfl ?_
  refine r_bipush (pc := 4) hC dX2_addItem_4 ⟨rfl, rng_lit rfl⟩ ?_
  refine r_ic_ge (pc := 6) (tgt := 62) hC dX2_addItem_6 rfl (fun hc2 => ?_) (fun hc2 => ?_)
  · have h := h.1 hc2
    refine r_conv (w2 := (wI (wI (wA (wA w 24 (w.1 24)) 25 (w.1 25)) 23 5 (w.1 23 5)) 23 6 (w.1 23 6))) rfl ?_
    exact r_retv (pc := 62) hC hQ dX2_addItem_62 hr hk ⟨(w.1 24), (w.1 25), (w.1 23 5), (w.1 23 6), rfl, h⟩
  have h := h.2 hc2
  refine r_aload_n (pc := 9) hC 0 dX2_addItem_9 rfl rfl ?_
  refine r_getr (r := 24) (pc := 10) hC dX2_addItem_10 fl_RX2_9 lX_23 rfl ?_
  refine r_aload_n (pc := 13) hC 0 dX2_addItem_13 rfl rfl ?_
  refine r_get (kd := 0) (v := (w.1 23 6)) (pc := 14) hC dX2_addItem_14 fl_RX2_24 lX_23 rfl rfl ?_
  refine r_iload_n (pc := 17) hC 1 dX2_addItem_17 rfl rfl ?_
  refine r_iast (pc := 18) hC dX2_addItem_18 lX_24 h.1.1 h.1.2 ?_
  have h := h.2
  refine r_aload_n (pc := 19) hC 0 dX2_addItem_19 rfl rfl ?_
  refine r_getr (r := 25) (pc := 20) hC dX2_addItem_20 fl_RX2_15 lX_23 rfl ?_
  refine r_aload_n (pc := 23) hC 0 dX2_addItem_23 rfl rfl ?_
  refine r_get (kd := 0) (v := (w.1 23 6)) (pc := 24) hC dX2_addItem_24 fl_RX2_24 lX_23 rfl rfl ?_
  refine r_iconst (pc := 27) hC dX2_addItem_27 (rng_lit rfl) ?_
  refine r_iast (pc := 28) hC dX2_addItem_28 lX_25 h.1.1 h.1.2 ?_
  have h := h.2
  refine r_aload_n (pc := 29) hC 0 dX2_addItem_29 rfl rfl ?_
  refine r_dup (pc := 30) hC dX2_addItem_30 rfl ?_
  refine r_get (kd := 0) (v := (w.1 23 5)) (pc := 31) hC dX2_addItem_31 fl_RX2_28 lX_23 rfl rfl ?_
  refine r_iload_n (pc := 34) hC 2 dX2_addItem_34 rfl rfl ?_
  obtain ⟨J1, hJ1, h⟩ := h
  have S1 : ∀ (y1 : Int), J1 y1 → Wd p l e (rmD 0) s m args below meth c Q 0 0 3 D cA ad A LX (wA (wA w 24 (uI (w.1 24) (w.1 23 6) a1)) 25 (uI (w.1 25) (w.1 23 6) 0)) 48 [some (aR 23), none, none] [aI y1, aI (w.1 23 5), aR 23] := by
    intro y1 hj
    have h := hJ1 y1 hj
    refine r_ior (pc := 48) hC dX2_addItem_48 ?_
    refine r_put (kd := 0) (pc := 49) hC dX2_addItem_49 pl_RX2_28 lX_23 rfl (by decide) (Or.inl rfl) ?_
    refine r_aload_n (pc := 52) hC 0 dX2_addItem_52 rfl rfl ?_
    refine r_dup (pc := 53) hC dX2_addItem_53 rfl ?_
    refine r_get (kd := 0) (v := (w.1 23 6)) (pc := 54) hC dX2_addItem_54 fl_RX2_24 lX_23 rfl rfl ?_
    refine r_iconst (pc := 57) hC dX2_addItem_57 (rng_lit rfl) ?_
    refine r_iadd (pc := 58) hC dX2_addItem_58 h.1 ?_
    have h := h.2
    refine r_put (kd := 0) (pc := 59) hC dX2_addItem_59 pl_RX2_24 lX_23 rfl (by decide) (Or.inl rfl) ?_
    refine r_conv (w2 := (wI (wI (wA (wA w 24 (uI (w.1 24) (w.1 23 6) a1)) 25 (uI (w.1 25) (w.1 23 6) 0)) 23 5 (iOr (w.1 23 5) y1)) 23 6 ((w.1 23 6) + 1))) rfl ?_
    exact r_retv (pc := 62) hC hQ dX2_addItem_62 hr hk ⟨(uI (w.1 24) (w.1 23 6) a1), (uI (w.1 25) (w.1 23 6) 0), (iOr (w.1 23 5) y1), ((w.1 23 6) + 1), rfl, h⟩
  refine r_if_eq (pc := 35) (tgt := 47) hC dX2_addItem_35 rfl (fun hc1 => ?_) (fun hc1 => ?_)
  · have h := h.1 hc1
    refine r_iconst (pc := 47) hC dX2_addItem_47 (rng_lit rfl) ?_
    exact r_to [true, false, false] rfl rfl (S1 0 h)
  have h := h.2 hc1
  refine r_iconst (pc := 38) hC dX2_addItem_38 (rng_lit rfl) ?_
  refine r_aload_n (pc := 39) hC 0 dX2_addItem_39 rfl rfl ?_
  refine r_get (kd := 0) (v := (w.1 23 6)) (pc := 40) hC dX2_addItem_40 fl_RX2_24 lX_23 rfl rfl ?_
  refine r_ishl (pc := 43) hC dX2_addItem_43 ?_
  refine r_goto (tgt := 48) (pc := 44) hC dX2_addItem_44 rfl ?_
  exact r_to [true, false, false] rfl rfl (S1 (iShl 1 (w.1 23 6)) h)
