def wp_Query_addTerm (tp_bytes : (Nat → Int)) (dr_termCounts : (Nat → Int)) (dr_termSizes : (Nat → Int)) (dr_letters : (Nat → Int)) (tp_length : Int) (dr_starredTerms : Int) (dr_items : Int) (a2 : Int) (a3 : Int) (a4 : Int) (Q : (Nat → Int) → (Nat → Int) → (Nat → Int) → Int → Prop) : Prop := (rng (dr_items - 1)) ∧ (((dr_items - 1) < 0 → Q dr_termCounts dr_termSizes dr_letters dr_starredTerms) ∧ (¬ (dr_items - 1) < 0 → (0 ≤ (dr_items - 1) ∧ (dr_items - 1) < 8) ∧ ((4 ≤ (dr_termCounts (Int.toNat (dr_items - 1))) → Q dr_termCounts dr_termSizes dr_letters dr_starredTerms) ∧ (¬ 4 ≤ (dr_termCounts (Int.toNat (dr_items - 1))) → (a3 ≤ 12 → (rng ((dr_items - 1) * 4)) ∧ ((0 ≤ (dr_items - 1) ∧ (dr_items - 1) < 8) ∧ ((rng (((dr_items - 1) * 4) + (dr_termCounts (Int.toNat (dr_items - 1))))) ∧ (lpw2 (fun (dr_letters_1 : (Nat → Int)) (x2 : Int) (k1 : (Nat → Int) → Int → Prop) => (a3 ≤ x2 → (0 ≤ (((dr_items - 1) * 4) + (dr_termCounts (Int.toNat (dr_items - 1)))) ∧ (((dr_items - 1) * 4) + (dr_termCounts (Int.toNat (dr_items - 1)))) < 32) ∧ (jn1 (fun (J2 : Int → Prop) => (a4 = 0 → J2 0) ∧ (¬ a4 = 0 → J2 (iShl 1 (((dr_items - 1) * 4) + (dr_termCounts (Int.toNat (dr_items - 1))))))) (fun (y3 : Int) => (0 ≤ (dr_items - 1) ∧ (dr_items - 1) < 8) ∧ ((rng ((dr_termCounts (Int.toNat (dr_items - 1))) + 1)) ∧ ((0 ≤ (dr_items - 1) ∧ (dr_items - 1) < 8) ∧ (Q (uI dr_termCounts (dr_items - 1) ((dr_termCounts (Int.toNat (dr_items - 1))) + 1)) (uI dr_termSizes (((dr_items - 1) * 4) + (dr_termCounts (Int.toNat (dr_items - 1)))) a3) dr_letters_1 (iOr dr_starredTerms y3))))))) ∧ (¬ a3 ≤ x2 → (rng ((((dr_items - 1) * 4) + (dr_termCounts (Int.toNat (dr_items - 1)))) * 12)) ∧ ((rng (((((dr_items - 1) * 4) + (dr_termCounts (Int.toNat (dr_items - 1)))) * 12) + x2)) ∧ ((rng (a2 + x2)) ∧ (wp_Tape_at tp_bytes tp_length (a2 + x2) (fun (r4 : Int) => (0 ≤ (((((dr_items - 1) * 4) + (dr_termCounts (Int.toNat (dr_items - 1)))) * 12) + x2) ∧ (((((dr_items - 1) * 4) + (dr_termCounts (Int.toNat (dr_items - 1)))) * 12) + x2) < 384) ∧ ((rng (x2 + 1)) ∧ (k1 (uI dr_letters_1 (((((dr_items - 1) * 4) + (dr_termCounts (Int.toNat (dr_items - 1)))) * 12) + x2) r4) (x2 + 1))))))))) dr_letters 0)))) ∧ (¬ a3 ≤ 12 → Q dr_termCounts dr_termSizes dr_letters dr_starredTerms)))))
set_option maxHeartbeats 4000000 in
set_option maxRecDepth 20000 in
theorem s_Query_addTerm (l : Launch) (w : St) (a2 : Int) (a3 : Int) (a4 : Int) (P : (Nat → Int) → (Nat → Int) → (Nat → Int) → Int → Prop) (h : wp_Query_addTerm (w.1 2) (w.1 25) (w.1 26) (w.1 27) (w.1 1 1) (w.1 23 4) (w.1 23 6) a2 a3 a4 P) : Cn l yX2_addTerm cX2_addTerm 8 none 1 LX w [aR 23, aR 1, aI a2, aI a3, aI a4] (okV (fun w1 => ∃ (o0 : (Nat → Int)) (o1 : (Nat → Int)) (o2 : (Nat → Int)) (o3 : Int), w1 = (wI (wA (wA (wA w 25 o0) 26 o1) 27 o2) 23 4 o3) ∧ P o0 o1 o2 o3)) := by
  unfold wp_Query_addTerm at h
  refine Cn.of2 [some (aR 23), some (aR 1), some (aI a2), some (aI a3), some (aI a4), none, none, none] (by decide) (Nat.le_of_ble_eq_true rfl) rfl (fun p e s m args below meth c D cA ad A Q hQ hC hr hk => ?_)
  refine r_aload_n (pc := 0) hC 0 dX2_addTerm_0 rfl rfl ?_
  refine r_get (kd := 0) (v := (w.1 23 6)) (pc := 1) hC dX2_addTerm_1 fl_RX2_24 lX_23 rfl rfl ?_
  refine r_iconst (pc := 4) hC dX2_addTerm_4 (rng_lit rfl) ?_
  refine r_isub (pc := 5) hC dX2_addTerm_5 h.1 ?_
  have h := h.2
  refine r_istore (ls2 := [some (aR 23), some (aR 1), some (aI a2), some (aI a3), some (aI a4), some (aI ((w.1 23 6) - 1)), none, none]) (pc := 6) hC dX2_addTerm_6 (by decide) rfl rfl ?_
  refine r_iload (pc := 8) hC dX2_addTerm_8 rfl ?_
  refine r_if_lt (pc := 10) (tgt := 30) hC dX2_addTerm_10 rfl (fun hc5 => ?_) (fun hc5 => ?_)
  · have h := h.1 hc5
    refine r_conv (w2 := (wI (wA (wA (wA w 25 (w.1 25)) 26 (w.1 26)) 27 (w.1 27)) 23 4 (w.1 23 4))) rfl ?_
    exact r_retv (pc := 30) hC hQ dX2_addTerm_30 hr hk ⟨(w.1 25), (w.1 26), (w.1 27), (w.1 23 4), rfl, h⟩
  have h := h.2 hc5
  refine r_aload_n (pc := 13) hC 0 dX2_addTerm_13 rfl rfl ?_
  refine r_getr (r := 25) (pc := 14) hC dX2_addTerm_14 fl_RX2_15 lX_23 rfl ?_
  refine r_iload (pc := 17) hC dX2_addTerm_17 rfl ?_
  refine r_iald (v := ((w.1 25) (Int.toNat ((w.1 23 6) - 1)))) (pc := 19) hC dX2_addTerm_19 lX_25 h.1.1 h.1.2 rfl ?_
  have h := h.2
  refine r_iconst (pc := 20) hC dX2_addTerm_20 (rng_lit rfl) ?_
  refine r_ic_ge (pc := 21) (tgt := 30) hC dX2_addTerm_21 rfl (fun hc4 => ?_) (fun hc4 => ?_)
  · have h := h.1 hc4
    refine r_conv (w2 := (wI (wA (wA (wA w 25 (w.1 25)) 26 (w.1 26)) 27 (w.1 27)) 23 4 (w.1 23 4))) rfl ?_
    exact r_retv (pc := 30) hC hQ dX2_addTerm_30 hr hk ⟨(w.1 25), (w.1 26), (w.1 27), (w.1 23 4), rfl, h⟩
  have h := h.2 hc4
  refine r_iload_n (pc := 24) hC 3 dX2_addTerm_24 rfl rfl ?_
  refine r_bipush (pc := 25) hC dX2_addTerm_25 ⟨rfl, rng_lit rfl⟩ ?_
  refine r_ic_le (pc := 27) (tgt := 31) hC dX2_addTerm_27 rfl (fun hc3 => ?_) (fun hc3 => ?_)
  · have h := h.1 hc3
    refine r_iload (pc := 31) hC dX2_addTerm_31 rfl ?_
    refine r_iconst (pc := 33) hC dX2_addTerm_33 (rng_lit rfl) ?_
    refine r_imul (pc := 34) hC dX2_addTerm_34 h.1 ?_
    have h := h.2
    refine r_aload_n (pc := 35) hC 0 dX2_addTerm_35 rfl rfl ?_
    refine r_getr (r := 25) (pc := 36) hC dX2_addTerm_36 fl_RX2_15 lX_23 rfl ?_
    refine r_iload (pc := 39) hC dX2_addTerm_39 rfl ?_
    refine r_iald (v := ((w.1 25) (Int.toNat ((w.1 23 6) - 1)))) (pc := 41) hC dX2_addTerm_41 lX_25 h.1.1 h.1.2 rfl ?_
    have h := h.2
    refine r_iadd (pc := 42) hC dX2_addTerm_42 h.1 ?_
    have h := h.2
    refine r_istore (ls2 := [some (aR 23), some (aR 1), some (aI a2), some (aI a3), some (aI a4), some (aI ((w.1 23 6) - 1)), some (aI ((((w.1 23 6) - 1) * 4) + ((w.1 25) (Int.toNat ((w.1 23 6) - 1))))), none]) (pc := 43) hC dX2_addTerm_43 (by decide) rfl rfl ?_
    refine r_iconst (pc := 45) hC dX2_addTerm_45 (rng_lit rfl) ?_
    refine r_istore (ls2 := [some (aR 23), some (aR 1), some (aI a2), some (aI a3), some (aI a4), some (aI ((w.1 23 6) - 1)), some (aI ((((w.1 23 6) - 1) * 4) + ((w.1 25) (Int.toNat ((w.1 23 6) - 1))))), some (aI 0)]) (pc := 46) hC dX2_addTerm_46 (by decide) rfl rfl ?_
    obtain ⟨I1, μ1, hI1, hB1⟩ := h
    have S1 : ∀ (nn : Nat) (dr_letters_1 : (Nat → Int)) (x2 : Int), μ1 dr_letters_1 x2 < nn → I1 dr_letters_1 x2 → Wd p l e (rmD 1) s m args below meth c Q 0 0 8 D cA ad A LX (wA w 27 dr_letters_1) 48 [some (aR 23), some (aR 1), some (aI a2), some (aI a3), some (aI a4), some (aI ((w.1 23 6) - 1)), some (aI ((((w.1 23 6) - 1) * 4) + ((w.1 25) (Int.toNat ((w.1 23 6) - 1))))), some (aI x2)] [] := by
      intro nn
      induction nn with
      | zero => intro dr_letters_1 x2 hn; exact absurd hn (Nat.not_lt_zero _)
      | succ nn ih1 =>
        intro dr_letters_1 x2 hn1 hi
        have h := hB1 dr_letters_1 x2 hi
        refine r_iload (pc := 48) hC dX2_addTerm_48 rfl ?_
        refine r_iload_n (pc := 50) hC 3 dX2_addTerm_50 rfl rfl ?_
        refine r_ic_ge (pc := 51) (tgt := 81) hC dX2_addTerm_51 rfl (fun hc2 => ?_) (fun hc2 => ?_)
        · have h := h.1 hc2
          refine r_aload_n (pc := 81) hC 0 dX2_addTerm_81 rfl rfl ?_
          refine r_getr (r := 26) (pc := 82) hC dX2_addTerm_82 fl_RX2_18 lX_23 rfl ?_
          refine r_iload (pc := 85) hC dX2_addTerm_85 rfl ?_
          refine r_iload_n (pc := 87) hC 3 dX2_addTerm_87 rfl rfl ?_
          refine r_iast (pc := 88) hC dX2_addTerm_88 lX_26 h.1.1 h.1.2 ?_
          have h := h.2
          refine r_aload_n (pc := 89) hC 0 dX2_addTerm_89 rfl rfl ?_
          refine r_dup (pc := 90) hC dX2_addTerm_90 rfl ?_
          refine r_get (kd := 0) (v := (w.1 23 4)) (pc := 91) hC dX2_addTerm_91 fl_RX2_31 lX_23 rfl rfl ?_
          refine r_iload (pc := 94) hC dX2_addTerm_94 rfl ?_
          obtain ⟨J2, hJ2, h⟩ := h
          have S2 : ∀ (y3 : Int), J2 y3 → Wd p l e (rmD 1) s m args below meth c Q 0 0 8 D cA ad A LX (wA (wA w 26 (uI (w.1 26) ((((w.1 23 6) - 1) * 4) + ((w.1 25) (Int.toNat ((w.1 23 6) - 1)))) a3)) 27 dr_letters_1) 107 [some (aR 23), none, none, none, none, some (aI ((w.1 23 6) - 1)), none, none] [aI y3, aI (w.1 23 4), aR 23] := by
            intro y3 hj
            have h := hJ2 y3 hj
            refine r_ior (pc := 107) hC dX2_addTerm_107 ?_
            refine r_put (kd := 0) (pc := 108) hC dX2_addTerm_108 pl_RX2_31 lX_23 rfl (by decide) (Or.inl rfl) ?_
            refine r_aload_n (pc := 111) hC 0 dX2_addTerm_111 rfl rfl ?_
            refine r_getr (r := 25) (pc := 112) hC dX2_addTerm_112 fl_RX2_15 lX_23 rfl ?_
            refine r_iload (pc := 115) hC dX2_addTerm_115 rfl ?_
            refine r_dup2 (pc := 117) hC dX2_addTerm_117 rfl rfl ?_
            refine r_iald (v := ((w.1 25) (Int.toNat ((w.1 23 6) - 1)))) (pc := 118) hC dX2_addTerm_118 lX_25 h.1.1 h.1.2 rfl ?_
            have h := h.2
            refine r_iconst (pc := 119) hC dX2_addTerm_119 (rng_lit rfl) ?_
            refine r_iadd (pc := 120) hC dX2_addTerm_120 h.1 ?_
            have h := h.2
            refine r_iast (pc := 121) hC dX2_addTerm_121 lX_25 h.1.1 h.1.2 ?_
            have h := h.2
            refine r_conv (w2 := (wI (wA (wA (wA w 25 (uI (w.1 25) ((w.1 23 6) - 1) (((w.1 25) (Int.toNat ((w.1 23 6) - 1))) + 1))) 26 (uI (w.1 26) ((((w.1 23 6) - 1) * 4) + ((w.1 25) (Int.toNat ((w.1 23 6) - 1)))) a3)) 27 dr_letters_1) 23 4 (iOr (w.1 23 4) y3))) rfl ?_
            exact r_retv (pc := 122) hC hQ dX2_addTerm_122 hr hk ⟨(uI (w.1 25) ((w.1 23 6) - 1) (((w.1 25) (Int.toNat ((w.1 23 6) - 1))) + 1)), (uI (w.1 26) ((((w.1 23 6) - 1) * 4) + ((w.1 25) (Int.toNat ((w.1 23 6) - 1)))) a3), dr_letters_1, (iOr (w.1 23 4) y3), rfl, h⟩
          refine r_if_eq (pc := 96) (tgt := 106) hC dX2_addTerm_96 rfl (fun hc1 => ?_) (fun hc1 => ?_)
          · have h := h.1 hc1
            refine r_iconst (pc := 106) hC dX2_addTerm_106 (rng_lit rfl) ?_
            exact r_to [true, false, false, false, false, true, false, false] rfl rfl (S2 0 h)
          have h := h.2 hc1
          refine r_iconst (pc := 99) hC dX2_addTerm_99 (rng_lit rfl) ?_
          refine r_iload (pc := 100) hC dX2_addTerm_100 rfl ?_
          refine r_ishl (pc := 102) hC dX2_addTerm_102 ?_
          refine r_goto (tgt := 107) (pc := 103) hC dX2_addTerm_103 rfl ?_
          exact r_to [true, false, false, false, false, true, false, false] rfl rfl (S2 (iShl 1 ((((w.1 23 6) - 1) * 4) + ((w.1 25) (Int.toNat ((w.1 23 6) - 1))))) h)
        have h := h.2 hc2
        refine r_aload_n (pc := 54) hC 0 dX2_addTerm_54 rfl rfl ?_
        refine r_getr (r := 27) (pc := 55) hC dX2_addTerm_55 fl_RX2_21 lX_23 rfl ?_
        refine r_iload (pc := 58) hC dX2_addTerm_58 rfl ?_
        refine r_bipush (pc := 60) hC dX2_addTerm_60 ⟨rfl, rng_lit rfl⟩ ?_
        refine r_imul (pc := 62) hC dX2_addTerm_62 h.1 ?_
        have h := h.2
        refine r_iload (pc := 63) hC dX2_addTerm_63 rfl ?_
        refine r_iadd (pc := 65) hC dX2_addTerm_65 h.1 ?_
        have h := h.2
        refine r_aload_n (pc := 66) hC 1 dX2_addTerm_66 rfl rfl ?_
        refine r_iload_n (pc := 67) hC 2 dX2_addTerm_67 rfl rfl ?_
        refine r_iload (pc := 68) hC dX2_addTerm_68 rfl ?_
        refine r_iadd (pc := 70) hC dX2_addTerm_70 h.1 ?_
        have h := h.2
        refine r_callVi (pc := 71) hC [aI (a2 + x2)] [aI ((((((w.1 23 6) - 1) * 4) + ((w.1 25) (Int.toNat ((w.1 23 6) - 1)))) * 12) + x2), aR 27] dX2_addTerm_71 ml_RX2_34 my_X6_at mi_X6_at lX_1 rfl rfl ⟨Nat.le_of_ble_eq_true rfl, Nat.le_of_ble_eq_true rfl⟩ ⟨Nat.le_of_ble_eq_true rfl, Nat.le_of_ble_eq_true rfl⟩ (Nat.le_of_ble_eq_true rfl) rfl (s_Tape_at l _ _ _ h) (fun r4 w1 hq => ?_)
        obtain ⟨e9, h⟩ := hq
        rw [e9]
        refine r_iast (pc := 74) hC dX2_addTerm_74 lX_27 h.1.1 h.1.2 ?_
        have h := h.2
        refine r_iinc (ls2 := [some (aR 23), some (aR 1), some (aI a2), some (aI a3), some (aI a4), some (aI ((w.1 23 6) - 1)), some (aI ((((w.1 23 6) - 1) * 4) + ((w.1 25) (Int.toNat ((w.1 23 6) - 1))))), some (aI (x2 + 1))]) (pc := 75) hC dX2_addTerm_75 rfl (by decide) rfl h.1 rfl ?_
        have h := h.2
        refine r_goto (tgt := 48) (pc := 78) hC dX2_addTerm_78 rfl ?_
        exact r_to [true, true, true, true, true, true, true, true] rfl rfl (ih1 (uI dr_letters_1 ((((((w.1 23 6) - 1) * 4) + ((w.1 25) (Int.toNat ((w.1 23 6) - 1)))) * 12) + x2) r4) (x2 + 1) (Nat.lt_of_lt_of_le h.2 (Nat.le_of_lt_succ hn1)) h.1)
    exact r_to [true, true, true, true, true, true, true, true] rfl rfl (S1 _ (w.1 27) 0 (Nat.lt_succ_self _) hI1)
  have h := h.2 hc3
  refine r_conv (w2 := (wI (wA (wA (wA w 25 (w.1 25)) 26 (w.1 26)) 27 (w.1 27)) 23 4 (w.1 23 4))) rfl ?_
  exact r_retv (pc := 30) hC hQ dX2_addTerm_30 hr hk ⟨(w.1 25), (w.1 26), (w.1 27), (w.1 23 4), rfl, h⟩
def wp_Query_copyFrom (qy_weights : (Nat → Int)) (qy_termCounts : (Nat → Int)) (qy_termSizes : (Nat → Int)) (qy_letters : (Nat → Int)) (dr_weights : (Nat → Int)) (dr_termCounts : (Nat → Int)) (dr_termSizes : (Nat → Int)) (dr_letters : (Nat → Int)) (qy_starredTerms : Int) (qy_softItems : Int) (qy_items : Int) (dr_starredTerms : Int) (dr_softItems : Int) (dr_items : Int) (Q : (Nat → Int) → (Nat → Int) → (Nat → Int) → (Nat → Int) → Int → Int → Int → Prop) : Prop := ((0 : Int) ≤ 0 ∧ (0 : Int) ≤ 0 ∧ (0 : Int) ≤ 8 ∧ (0 : Int) + 8 ≤ 8 ∧ (0 : Int) + 8 ≤ 8) ∧ (((0 : Int) ≤ 0 ∧ (0 : Int) ≤ 0 ∧ (0 : Int) ≤ 8 ∧ (0 : Int) + 8 ≤ 8 ∧ (0 : Int) + 8 ≤ 8) ∧ (((0 : Int) ≤ 0 ∧ (0 : Int) ≤ 0 ∧ (0 : Int) ≤ 32 ∧ (0 : Int) + 32 ≤ 32 ∧ (0 : Int) + 32 ≤ 32) ∧ (((0 : Int) ≤ 0 ∧ (0 : Int) ≤ 0 ∧ (0 : Int) ≤ 384 ∧ (0 : Int) + 384 ≤ 384 ∧ (0 : Int) + 384 ≤ 384) ∧ (Q (cpI dr_weights qy_weights 0 0 8) (cpI dr_termCounts qy_termCounts 0 0 8) (cpI dr_termSizes qy_termSizes 0 0 32) (cpI dr_letters qy_letters 0 0 384) dr_starredTerms dr_softItems dr_items))))
set_option maxHeartbeats 4000000 in
set_option maxRecDepth 20000 in
theorem s_Query_copyFrom (l : Launch) (w : St) (P : (Nat → Int) → (Nat → Int) → (Nat → Int) → (Nat → Int) → Int → Int → Int → Prop) (h : wp_Query_copyFrom (w.1 19) (w.1 20) (w.1 21) (w.1 22) (w.1 24) (w.1 25) (w.1 26) (w.1 27) (w.1 18 4) (w.1 18 5) (w.1 18 6) (w.1 23 4) (w.1 23 5) (w.1 23 6) P) : Cn l yX2_copyFrom cX2_copyFrom 2 none 2 LX w [aR 18, aR 23] (okV (fun w1 => ∃ (o0 : (Nat → Int)) (o1 : (Nat → Int)) (o2 : (Nat → Int)) (o3 : (Nat → Int)) (o4 : Int) (o5 : Int) (o6 : Int), w1 = (wI (wI (wI (wA (wA (wA (wA w 19 o0) 20 o1) 21 o2) 22 o3) 18 4 o4) 18 5 o5) 18 6 o6) ∧ P o0 o1 o2 o3 o4 o5 o6)) := by
  unfold wp_Query_copyFrom at h
  refine Cn.of2 [some (aR 18), some (aR 23)] (by decide) (Nat.le_of_ble_eq_true rfl) rfl (fun p e s m args below meth c D cA ad A Q hQ hC hr hk => ?_)
  refine r_aload_n (pc := 0) hC 0 dX2_copyFrom_0 rfl rfl ?_
  refine r_aload_n (pc := 1) hC 1 dX2_copyFrom_1 rfl rfl ?_
  refine r_get (kd := 0) (v := (w.1 23 6)) (pc := 2) hC dX2_copyFrom_2 fl_RX2_24 lX_23 rfl rfl ?_
  refine r_put (kd := 0) (pc := 5) hC dX2_copyFrom_5 pl_RX2_24 lX_18 rfl (by decide) (Or.inl rfl) ?_
  refine r_aload_n (pc := 8) hC 0 dX2_copyFrom_8 rfl rfl ?_
  refine r_aload_n (pc := 9) hC 1 dX2_copyFrom_9 rfl rfl ?_
  refine r_get (kd := 0) (v := (w.1 23 5)) (pc := 10) hC dX2_copyFrom_10 fl_RX2_28 lX_23 rfl rfl ?_
  refine r_put (kd := 0) (pc := 13) hC dX2_copyFrom_13 pl_RX2_28 lX_18 rfl (by decide) (Or.inl rfl) ?_
  refine r_aload_n (pc := 16) hC 0 dX2_copyFrom_16 rfl rfl ?_
  refine r_aload_n (pc := 17) hC 1 dX2_copyFrom_17 rfl rfl ?_
  refine r_get (kd := 0) (v := (w.1 23 4)) (pc := 18) hC dX2_copyFrom_18 fl_RX2_31 lX_23 rfl rfl ?_
  refine r_put (kd := 0) (pc := 21) hC dX2_copyFrom_21 pl_RX2_31 lX_18 rfl (by decide) (Or.inl rfl) ?_
  refine r_aload_n (pc := 24) hC 1 dX2_copyFrom_24 rfl rfl ?_
  refine r_getr (r := 24) (pc := 25) hC dX2_copyFrom_25 fl_RX2_9 lX_23 rfl ?_
  refine r_iconst (pc := 28) hC dX2_copyFrom_28 (rng_lit rfl) ?_
  refine r_aload_n (pc := 29) hC 0 dX2_copyFrom_29 rfl rfl ?_
  refine r_getr (r := 19) (pc := 30) hC dX2_copyFrom_30 fl_RX2_9 lX_18 rfl ?_
  refine r_iconst (pc := 33) hC dX2_copyFrom_33 (rng_lit rfl) ?_
  refine r_bipush (pc := 34) hC dX2_copyFrom_34 ⟨rfl, rng_lit rfl⟩ ?_
  refine r_copy (pc := 36) hC dX2_copyFrom_36 ml_RX2_40 ks_acn ks_acs ks_aci lX_24 lX_19 h.1 ⟨Nat.le_of_ble_eq_true rfl, by decide⟩ (Nat.le_of_ble_eq_true rfl) ?_
  have h := h.2
  refine r_aload_n (pc := 39) hC 1 dX2_copyFrom_39 rfl rfl ?_
  refine r_getr (r := 25) (pc := 40) hC dX2_copyFrom_40 fl_RX2_15 lX_23 rfl ?_
  refine r_iconst (pc := 43) hC dX2_copyFrom_43 (rng_lit rfl) ?_
  refine r_aload_n (pc := 44) hC 0 dX2_copyFrom_44 rfl rfl ?_
  refine r_getr (r := 20) (pc := 45) hC dX2_copyFrom_45 fl_RX2_15 lX_18 rfl ?_
  refine r_iconst (pc := 48) hC dX2_copyFrom_48 (rng_lit rfl) ?_
  refine r_bipush (pc := 49) hC dX2_copyFrom_49 ⟨rfl, rng_lit rfl⟩ ?_
  refine r_copy (pc := 51) hC dX2_copyFrom_51 ml_RX2_40 ks_acn ks_acs ks_aci lX_25 lX_20 h.1 ⟨Nat.le_of_ble_eq_true rfl, by decide⟩ (Nat.le_of_ble_eq_true rfl) ?_
  have h := h.2
  refine r_aload_n (pc := 54) hC 1 dX2_copyFrom_54 rfl rfl ?_
  refine r_getr (r := 26) (pc := 55) hC dX2_copyFrom_55 fl_RX2_18 lX_23 rfl ?_
  refine r_iconst (pc := 58) hC dX2_copyFrom_58 (rng_lit rfl) ?_
  refine r_aload_n (pc := 59) hC 0 dX2_copyFrom_59 rfl rfl ?_
  refine r_getr (r := 21) (pc := 60) hC dX2_copyFrom_60 fl_RX2_18 lX_18 rfl ?_
  refine r_iconst (pc := 63) hC dX2_copyFrom_63 (rng_lit rfl) ?_
  refine r_bipush (pc := 64) hC dX2_copyFrom_64 ⟨rfl, rng_lit rfl⟩ ?_
  refine r_copy (pc := 66) hC dX2_copyFrom_66 ml_RX2_40 ks_acn ks_acs ks_aci lX_26 lX_21 h.1 ⟨Nat.le_of_ble_eq_true rfl, by decide⟩ (Nat.le_of_ble_eq_true rfl) ?_
  have h := h.2
  refine r_aload_n (pc := 69) hC 1 dX2_copyFrom_69 rfl rfl ?_
  refine r_getr (r := 27) (pc := 70) hC dX2_copyFrom_70 fl_RX2_21 lX_23 rfl ?_
  refine r_iconst (pc := 73) hC dX2_copyFrom_73 (rng_lit rfl) ?_
  refine r_aload_n (pc := 74) hC 0 dX2_copyFrom_74 rfl rfl ?_
  refine r_getr (r := 22) (pc := 75) hC dX2_copyFrom_75 fl_RX2_21 lX_18 rfl ?_
  refine r_iconst (pc := 78) hC dX2_copyFrom_78 (rng_lit rfl) ?_
  refine r_sipush (pc := 79) hC dX2_copyFrom_79 ⟨rfl, rng_lit rfl⟩ ?_
  refine r_copy (pc := 82) hC dX2_copyFrom_82 ml_RX2_40 ks_acn ks_acs ks_aci lX_27 lX_22 h.1 ⟨Nat.le_of_ble_eq_true rfl, by decide⟩ (Nat.le_of_ble_eq_true rfl) ?_
  have h := h.2
  refine r_conv (w2 := (wI (wI (wI (wA (wA (wA (wA w 19 (cpI (w.1 24) (w.1 19) 0 0 8)) 20 (cpI (w.1 25) (w.1 20) 0 0 8)) 21 (cpI (w.1 26) (w.1 21) 0 0 32)) 22 (cpI (w.1 27) (w.1 22) 0 0 384)) 18 4 (w.1 23 4)) 18 5 (w.1 23 5)) 18 6 (w.1 23 6))) rfl ?_
  exact r_retv (pc := 85) hC hQ dX2_copyFrom_85 hr hk ⟨(cpI (w.1 24) (w.1 19) 0 0 8), (cpI (w.1 25) (w.1 20) 0 0 8), (cpI (w.1 26) (w.1 21) 0 0 32), (cpI (w.1 27) (w.1 22) 0 0 384), (w.1 23 4), (w.1 23 5), (w.1 23 6), rfl, h⟩
def wp_Query_isStrong (qy_softItems : Int) (a1 : Int) (Q : Int → Prop) : Prop := wp_Picker_has qy_softItems a1 (fun (r1 : Int) => (¬ r1 = 0 → Q 0) ∧ (r1 = 0 → Q 1))
set_option maxHeartbeats 4000000 in
set_option maxRecDepth 20000 in
theorem s_Query_isStrong (l : Launch) (w : St) (a1 : Int) (P : Int → Prop) (h : wp_Query_isStrong (w.1 18 5) a1 P) : Cn l yX2_isStrong cX2_isStrong 2 (some .boolean) 1 LX w [aR 18, aI a1] (okI (fun r w1 => w1 = w ∧ P r)) := by
  unfold wp_Query_isStrong at h
  refine Cn.of2 [some (aR 18), some (aI a1)] (by decide) (Nat.le_of_ble_eq_true rfl) rfl (fun p e s m args below meth c D cA ad A Q hQ hC hr hk => ?_)
  refine r_aload_n (pc := 0) hC 0 dX2_isStrong_0 rfl rfl ?_
  refine r_get (kd := 0) (v := (w.1 18 5)) (pc := 1) hC dX2_isStrong_1 fl_RX2_28 lX_18 rfl rfl ?_
  refine r_iload_n (pc := 4) hC 1 dX2_isStrong_4 rfl rfl ?_
  refine r_callSNi (pc := 5) hC [aI (w.1 18 5), aI a1] [] dX2_isStrong_5 nl_RX2_46 my_X9_has ms_X9_has rfl ⟨Nat.le_of_ble_eq_true rfl, Nat.le_of_ble_eq_true rfl⟩ ⟨Nat.le_of_ble_eq_true rfl, Nat.le_of_ble_eq_true rfl⟩ (Nat.le_of_ble_eq_true rfl) rfl (s_Picker_has l _ _ _ _ h) (fun r1 w1 hq => ?_)
  obtain ⟨e9, h⟩ := hq
  rw [e9]
  refine r_if_ne (pc := 8) (tgt := 15) hC dX2_isStrong_8 rfl (fun hc1 => ?_) (fun hc1 => ?_)
  · have h := h.1 hc1
    refine r_iconst (pc := 15) hC dX2_isStrong_15 (rng_lit rfl) ?_
    exact r_reti (pc := 16) (kd := 1) hC hQ dX2_isStrong_16 hr hk (by decide) (Or.inr okK1_0) ⟨rfl, h⟩
  have h := h.2 hc1
  refine r_iconst (pc := 11) hC dX2_isStrong_11 (rng_lit rfl) ?_
  refine r_goto (tgt := 16) (pc := 12) hC dX2_isStrong_12 rfl ?_
  exact r_reti (pc := 16) (kd := 1) hC hQ dX2_isStrong_16 hr hk (by decide) (Or.inr okK1_1) ⟨rfl, h⟩
def wp_Query_worthOf (qy_weights : (Nat → Int)) (qy_items : Int) (a1 : Int64) (Q : Int → Prop) : Prop := lpw2 (fun (x1 : Int) (x2 : Int) (k1 : Int → Int → Prop) => (qy_items ≤ x2 → Q x1) ∧ (¬ qy_items ≤ x2 → (0 ≤ x2 ∧ x2 < 8) ∧ (wp_Query_countIn a1 x2 (fun (r3 : Int) => (rng (4 - 1)) ∧ ((0 ≤ (min r3 (4 - 1)) ∧ (min r3 (4 - 1)) < 4) ∧ ((rng ((qy_weights (Int.toNat x2)) * (tmv (Int.toNat (min r3 (4 - 1)))))) ∧ ((rng (x1 + ((qy_weights (Int.toNat x2)) * (tmv (Int.toNat (min r3 (4 - 1))))))) ∧ ((rng (x2 + 1)) ∧ (k1 (x1 + ((qy_weights (Int.toNat x2)) * (tmv (Int.toNat (min r3 (4 - 1)))))) (x2 + 1)))))))))) 0 0
set_option maxHeartbeats 4000000 in
set_option maxRecDepth 20000 in
theorem s_Query_worthOf (l : Launch) (w : St) (a1 : Int64) (P : Int → Prop) (h : wp_Query_worthOf (w.1 19) (w.1 18 6) a1 P) : Cn l yX2_worthOf cX2_worthOf 5 (some .int) 1 LX w [aR 18, aL a1] (okI (fun r w1 => w1 = w ∧ P r)) := by
  unfold wp_Query_worthOf at h
  refine Cn.of2 [some (aR 18), some (aL a1), none, none, none] (by decide) (Nat.le_of_ble_eq_true rfl) rfl (fun p e s m args below meth c D cA ad A Q hQ hC hr hk => ?_)
  refine r_iconst (pc := 0) hC dX2_worthOf_0 (rng_lit rfl) ?_
  refine r_istore_n (ls2 := [some (aR 18), some (aL a1), none, some (aI 0), none]) (pc := 1) hC 3 dX2_worthOf_1 rfl (by decide) rfl rfl ?_
  refine r_iconst (pc := 2) hC dX2_worthOf_2 (rng_lit rfl) ?_
  refine r_istore (ls2 := [some (aR 18), some (aL a1), none, some (aI 0), some (aI 0)]) (pc := 3) hC dX2_worthOf_3 (by decide) rfl rfl ?_
  obtain ⟨I1, μ1, hI1, hB1⟩ := h
  have S1 : ∀ (nn : Nat) (x1 : Int) (x2 : Int), μ1 x1 x2 < nn → I1 x1 x2 → Wd p l e (rmD 1) s m args below meth c Q 0 0 5 D cA ad A LX w 5 [some (aR 18), some (aL a1), none, some (aI x1), some (aI x2)] [] := by
    intro nn
    induction nn with
    | zero => intro x1 x2 hn; exact absurd hn (Nat.not_lt_zero _)
    | succ nn ih1 =>
      intro x1 x2 hn1 hi
      have h := hB1 x1 x2 hi
      refine r_iload (pc := 5) hC dX2_worthOf_5 rfl ?_
      refine r_aload_n (pc := 7) hC 0 dX2_worthOf_7 rfl rfl ?_
      refine r_get (kd := 0) (v := (w.1 18 6)) (pc := 8) hC dX2_worthOf_8 fl_RX2_24 lX_18 rfl rfl ?_
      refine r_ic_ge (pc := 11) (tgt := 51) hC dX2_worthOf_11 rfl (fun hc1 => ?_) (fun hc1 => ?_)
      · have h := h.1 hc1
        refine r_iload_n (pc := 51) hC 3 dX2_worthOf_51 rfl rfl ?_
        exact r_reti (pc := 52) (kd := 0) hC hQ dX2_worthOf_52 hr hk (by decide) (Or.inl rfl) ⟨rfl, h⟩
      have h := h.2 hc1
      refine r_iload_n (pc := 14) hC 3 dX2_worthOf_14 rfl rfl ?_
      refine r_aload_n (pc := 15) hC 0 dX2_worthOf_15 rfl rfl ?_
      refine r_getr (r := 19) (pc := 16) hC dX2_worthOf_16 fl_RX2_9 lX_18 rfl ?_
      refine r_iload (pc := 19) hC dX2_worthOf_19 rfl ?_
      refine r_iald (v := ((w.1 19) (Int.toNat x2))) (pc := 21) hC dX2_worthOf_21 lX_19 h.1.1 h.1.2 rfl ?_
      have h := h.2
      refine r_gets (pc := 22) hC dX2_worthOf_22 nl_RX2_52 ?_
      refine r_aload_n (pc := 25) hC 0 dX2_worthOf_25 rfl rfl ?_
      refine r_lload_n (pc := 26) hC 1 dX2_worthOf_26 rfl rfl ?_
      refine r_iload (pc := 27) hC dX2_worthOf_27 rfl ?_
      refine r_callVi (pc := 29) hC [aL a1, aI x2] [aR 9000, aI ((w.1 19) (Int.toNat x2)), aI x1] dX2_worthOf_29 ml_RX2_55 my_X2_countIn mi_X2_countIn lX_18 rfl rfl ⟨Nat.le_of_ble_eq_true rfl, Nat.le_of_ble_eq_true rfl⟩ ⟨Nat.le_of_ble_eq_true rfl, Nat.le_of_ble_eq_true rfl⟩ (Nat.le_of_ble_eq_true rfl) rfl (s_Query_countIn l _ _ _ _ h) (fun r3 w1 hq => ?_)
      obtain ⟨e9, h⟩ := hq
      rw [e9]
      refine r_gets (pc := 32) hC dX2_worthOf_32 nl_RX2_52 ?_
      refine r_tlen (pc := 35) hC dX2_worthOf_35 ?_
      refine r_iconst (pc := 36) hC dX2_worthOf_36 (rng_lit rfl) ?_
      refine r_isub (pc := 37) hC dX2_worthOf_37 h.1 ?_
      have h := h.2
      refine r_min (pc := 38) hC dX2_worthOf_38 ml_RX2_59 ks_min ks_Math kd_min ⟨Nat.le_of_ble_eq_true rfl, Nat.le_of_ble_eq_true rfl⟩ ⟨Nat.le_of_ble_eq_true rfl, Nat.le_of_ble_eq_true rfl⟩ (Nat.le_of_ble_eq_true rfl) ?_
      refine r_tld (pc := 41) hC dX2_worthOf_41 h.1.1 h.1.2 ?_
      have h := h.2
      refine r_imul (pc := 42) hC dX2_worthOf_42 h.1 ?_
      have h := h.2
      refine r_iadd (pc := 43) hC dX2_worthOf_43 h.1 ?_
      have h := h.2
      refine r_istore_n (ls2 := [some (aR 18), some (aL a1), none, some (aI (x1 + (((w.1 19) (Int.toNat x2)) * (tmv (Int.toNat (min r3 (4 - 1))))))), some (aI x2)]) (pc := 44) hC 3 dX2_worthOf_44 rfl (by decide) rfl rfl ?_
      refine r_iinc (ls2 := [some (aR 18), some (aL a1), none, some (aI (x1 + (((w.1 19) (Int.toNat x2)) * (tmv (Int.toNat (min r3 (4 - 1))))))), some (aI (x2 + 1))]) (pc := 45) hC dX2_worthOf_45 rfl (by decide) rfl h.1 rfl ?_
      have h := h.2
      refine r_goto (tgt := 5) (pc := 48) hC dX2_worthOf_48 rfl ?_
      exact r_to [true, true, false, true, true] rfl rfl (ih1 (x1 + (((w.1 19) (Int.toNat x2)) * (tmv (Int.toNat (min r3 (4 - 1)))))) (x2 + 1) (Nat.lt_of_lt_of_le h.2 (Nat.le_of_lt_succ hn1)) h.1)
  exact r_to [true, true, false, true, true] rfl rfl (S1 _ 0 0 (Nat.lt_succ_self _) hI1)
def wp_Query_itemsOf (qy_items : Int) (a1 : Int64) (Q : Int → Prop) : Prop := lpw2 (fun (x1 : Int) (x2 : Int) (k1 : Int → Int → Prop) => (qy_items ≤ x2 → Q x1) ∧ (¬ qy_items ≤ x2 → wp_Query_countIn a1 x2 (fun (r3 : Int) => jn1 (fun (J2 : Int → Prop) => (r3 ≤ 0 → J2 0) ∧ (¬ r3 ≤ 0 → J2 (iShl 1 x2))) (fun (y4 : Int) => (rng (x2 + 1)) ∧ (k1 (iOr x1 y4) (x2 + 1)))))) 0 0
set_option maxHeartbeats 4000000 in
set_option maxRecDepth 20000 in
theorem s_Query_itemsOf (l : Launch) (w : St) (a1 : Int64) (P : Int → Prop) (h : wp_Query_itemsOf (w.1 18 6) a1 P) : Cn l yX2_itemsOf cX2_itemsOf 5 (some .int) 1 LX w [aR 18, aL a1] (okI (fun r w1 => w1 = w ∧ P r)) := by
  unfold wp_Query_itemsOf at h
  refine Cn.of2 [some (aR 18), some (aL a1), none, none, none] (by decide) (Nat.le_of_ble_eq_true rfl) rfl (fun p e s m args below meth c D cA ad A Q hQ hC hr hk => ?_)
  refine r_iconst (pc := 0) hC dX2_itemsOf_0 (rng_lit rfl) ?_
  refine r_istore_n (ls2 := [some (aR 18), some (aL a1), none, some (aI 0), none]) (pc := 1) hC 3 dX2_itemsOf_1 rfl (by decide) rfl rfl ?_
  refine r_iconst (pc := 2) hC dX2_itemsOf_2 (rng_lit rfl) ?_
  refine r_istore (ls2 := [some (aR 18), some (aL a1), none, some (aI 0), some (aI 0)]) (pc := 3) hC dX2_itemsOf_3 (by decide) rfl rfl ?_
  obtain ⟨I1, μ1, hI1, hB1⟩ := h
  have S1 : ∀ (nn : Nat) (x1 : Int) (x2 : Int), μ1 x1 x2 < nn → I1 x1 x2 → Wd p l e (rmD 1) s m args below meth c Q 0 0 5 D cA ad A LX w 5 [some (aR 18), some (aL a1), none, some (aI x1), some (aI x2)] [] := by
    intro nn
    induction nn with
    | zero => intro x1 x2 hn; exact absurd hn (Nat.not_lt_zero _)
    | succ nn ih1 =>
      intro x1 x2 hn1 hi
      have h := hB1 x1 x2 hi
      refine r_iload (pc := 5) hC dX2_itemsOf_5 rfl ?_
      refine r_aload_n (pc := 7) hC 0 dX2_itemsOf_7 rfl rfl ?_
      refine r_get (kd := 0) (v := (w.1 18 6)) (pc := 8) hC dX2_itemsOf_8 fl_RX2_24 lX_18 rfl rfl ?_
      refine r_ic_ge (pc := 11) (tgt := 41) hC dX2_itemsOf_11 rfl (fun hc2 => ?_) (fun hc2 => ?_)
      · have h := h.1 hc2
        refine r_iload_n (pc := 41) hC 3 dX2_itemsOf_41 rfl rfl ?_
        exact r_reti (pc := 42) (kd := 0) hC hQ dX2_itemsOf_42 hr hk (by decide) (Or.inl rfl) ⟨rfl, h⟩
      have h := h.2 hc2
      refine r_iload_n (pc := 14) hC 3 dX2_itemsOf_14 rfl rfl ?_
      refine r_aload_n (pc := 15) hC 0 dX2_itemsOf_15 rfl rfl ?_
      refine r_lload_n (pc := 16) hC 1 dX2_itemsOf_16 rfl rfl ?_
      refine r_iload (pc := 17) hC dX2_itemsOf_17 rfl ?_
      refine r_callVi (pc := 19) hC [aL a1, aI x2] [aI x1] dX2_itemsOf_19 ml_RX2_55 my_X2_countIn mi_X2_countIn lX_18 rfl rfl ⟨Nat.le_of_ble_eq_true rfl, Nat.le_of_ble_eq_true rfl⟩ ⟨Nat.le_of_ble_eq_true rfl, Nat.le_of_ble_eq_true rfl⟩ (Nat.le_of_ble_eq_true rfl) rfl (s_Query_countIn l _ _ _ _ h) (fun r3 w1 hq => ?_)
      obtain ⟨e9, h⟩ := hq
      rw [e9]
      obtain ⟨J2, hJ2, h⟩ := h
      have S2 : ∀ (y4 : Int), J2 y4 → Wd p l e (rmD 1) s m args below meth c Q 0 0 5 D cA ad A LX w 33 [some (aR 18), some (aL a1), none, none, some (aI x2)] [aI y4, aI x1] := by
        intro y4 hj
        have h := hJ2 y4 hj
        refine r_ior (pc := 33) hC dX2_itemsOf_33 ?_
        refine r_istore_n (ls2 := [some (aR 18), some (aL a1), none, some (aI (iOr x1 y4)), some (aI x2)]) (pc := 34) hC 3 dX2_itemsOf_34 rfl (by decide) rfl rfl ?_
        refine r_iinc (ls2 := [some (aR 18), some (aL a1), none, some (aI (iOr x1 y4)), some (aI (x2 + 1))]) (pc := 35) hC dX2_itemsOf_35 rfl (by decide) rfl h.1 rfl ?_
        have h := h.2
        refine r_goto (tgt := 5) (pc := 38) hC dX2_itemsOf_38 rfl ?_
        exact r_to [true, true, false, true, true] rfl rfl (ih1 (iOr x1 y4) (x2 + 1) (Nat.lt_of_lt_of_le h.2 (Nat.le_of_lt_succ hn1)) h.1)
      refine r_if_le (pc := 22) (tgt := 32) hC dX2_itemsOf_22 rfl (fun hc1 => ?_) (fun hc1 => ?_)
      · have h := h.1 hc1
        refine r_iconst (pc := 32) hC dX2_itemsOf_32 (rng_lit rfl) ?_
        exact r_to [true, true, false, false, true] rfl rfl (S2 0 h)
      have h := h.2 hc1
      refine r_iconst (pc := 25) hC dX2_itemsOf_25 (rng_lit rfl) ?_
      refine r_iload (pc := 26) hC dX2_itemsOf_26 rfl ?_
      refine r_ishl (pc := 28) hC dX2_itemsOf_28 ?_
      refine r_goto (tgt := 33) (pc := 29) hC dX2_itemsOf_29 rfl ?_
      exact r_to [true, true, false, false, true] rfl rfl (S2 (iShl 1 x2) h)
  exact r_to [true, true, false, true, true] rfl rfl (S1 _ 0 0 (Nat.lt_succ_self _) hI1)
def wp_Reader_skipBlanks (tp_bytes : (Nat → Int)) (tp_length : Int) (rd_at : Int) (Q : Int → Prop) : Prop := lpw1 (fun (rd_at_1 : Int) (k1 : Int → Prop) => (tp_length ≤ rd_at_1 → Q rd_at_1) ∧ (¬ tp_length ≤ rd_at_1 → wp_Tape_at tp_bytes tp_length rd_at_1 (fun (r2 : Int) => wp_Picker_isBlank r2 (fun (r3 : Int) => (r3 = 0 → Q rd_at_1) ∧ (¬ r3 = 0 → (rng (rd_at_1 + 1)) ∧ (k1 (rd_at_1 + 1))))))) rd_at
set_option maxHeartbeats 4000000 in
set_option maxRecDepth 20000 in
theorem s_Reader_skipBlanks (l : Launch) (w : St) (P : Int → Prop) (h : wp_Reader_skipBlanks (w.1 2) (w.1 1 1) (w.1 28 2) P) : Cn l yX3_skipBlanks cX3_skipBlanks 1 none 1 LX w [aR 28] (okV (fun w1 => ∃ (o0 : Int), w1 = (wI w 28 2 o0) ∧ P o0)) := by
  unfold wp_Reader_skipBlanks at h
  refine Cn.of2 [some (aR 28)] (by decide) (Nat.le_of_ble_eq_true rfl) rfl (fun p e s m args below meth c D cA ad A Q hQ hC hr hk => ?_)
  obtain ⟨I1, μ1, hI1, hB1⟩ := h
  have S1 : ∀ (nn : Nat) (rd_at_1 : Int), μ1 rd_at_1 < nn → I1 rd_at_1 → Wd p l e (rmD 1) s m args below meth c Q 0 0 1 D cA ad A LX (wI w 28 2 rd_at_1) 0 [some (aR 28)] [] := by
    intro nn
    induction nn with
    | zero => intro rd_at_1 hn; exact absurd hn (Nat.not_lt_zero _)
    | succ nn ih1 =>
      intro rd_at_1 hn1 hi
      have h := hB1 rd_at_1 hi
      refine r_aload_n (pc := 0) hC 0 dX3_skipBlanks_0 rfl rfl ?_
      refine r_get (kd := 0) (v := rd_at_1) (pc := 1) hC dX3_skipBlanks_1 fl_RX3_19 lX_28 rfl rfl ?_
      refine r_aload_n (pc := 4) hC 0 dX3_skipBlanks_4 rfl rfl ?_
      refine r_getr (r := 1) (pc := 5) hC dX3_skipBlanks_5 fl_RX3_9 lX_28 rfl ?_
      refine r_get (kd := 0) (v := (w.1 1 1)) (pc := 8) hC dX3_skipBlanks_8 fl_RX3_34 lX_1 rfl rfl ?_
      refine r_ic_ge (pc := 11) (tgt := 44) hC dX3_skipBlanks_11 rfl (fun hc2 => ?_) (fun hc2 => ?_)
      · have h := h.1 hc2
        refine r_conv (w2 := (wI w 28 2 rd_at_1)) rfl ?_
        exact r_retv (pc := 44) hC hQ dX3_skipBlanks_44 hr hk ⟨rd_at_1, rfl, h⟩
      have h := h.2 hc2
      refine r_aload_n (pc := 14) hC 0 dX3_skipBlanks_14 rfl rfl ?_
      refine r_getr (r := 1) (pc := 15) hC dX3_skipBlanks_15 fl_RX3_9 lX_28 rfl ?_
      refine r_aload_n (pc := 18) hC 0 dX3_skipBlanks_18 rfl rfl ?_
      refine r_get (kd := 0) (v := rd_at_1) (pc := 19) hC dX3_skipBlanks_19 fl_RX3_19 lX_28 rfl rfl ?_
      refine r_callVi (pc := 22) hC [aI rd_at_1] [] dX3_skipBlanks_22 ml_RX3_55 my_X6_at mi_X6_at lX_1 rfl rfl ⟨Nat.le_of_ble_eq_true rfl, Nat.le_of_ble_eq_true rfl⟩ ⟨Nat.le_of_ble_eq_true rfl, Nat.le_of_ble_eq_true rfl⟩ (Nat.le_of_ble_eq_true rfl) rfl (s_Tape_at l _ _ _ h) (fun r2 w1 hq => ?_)
      obtain ⟨e9, h⟩ := hq
      rw [e9]
      refine r_callSNi (pc := 25) hC [aI r2] [] dX3_skipBlanks_25 nl_RX3_75 my_X9_isBlank ms_X9_isBlank rfl ⟨Nat.le_of_ble_eq_true rfl, Nat.le_of_ble_eq_true rfl⟩ ⟨Nat.le_of_ble_eq_true rfl, Nat.le_of_ble_eq_true rfl⟩ (Nat.le_of_ble_eq_true rfl) rfl (s_Picker_isBlank l _ _ _ h) (fun r3 w1 hq => ?_)
      obtain ⟨e9, h⟩ := hq
      rw [e9]
      refine r_if_eq (pc := 28) (tgt := 44) hC dX3_skipBlanks_28 rfl (fun hc1 => ?_) (fun hc1 => ?_)
      · have h := h.1 hc1
        refine r_conv (w2 := (wI w 28 2 rd_at_1)) rfl ?_
        exact r_retv (pc := 44) hC hQ dX3_skipBlanks_44 hr hk ⟨rd_at_1, rfl, h⟩
      have h := h.2 hc1
      refine r_aload_n (pc := 31) hC 0 dX3_skipBlanks_31 rfl rfl ?_
      refine r_dup (pc := 32) hC dX3_skipBlanks_32 rfl ?_
      refine r_get (kd := 0) (v := rd_at_1) (pc := 33) hC dX3_skipBlanks_33 fl_RX3_19 lX_28 rfl rfl ?_
      refine r_iconst (pc := 36) hC dX3_skipBlanks_36 (rng_lit rfl) ?_
      refine r_iadd (pc := 37) hC dX3_skipBlanks_37 h.1 ?_
      have h := h.2
      refine r_put (kd := 0) (pc := 38) hC dX3_skipBlanks_38 pl_RX3_19 lX_28 rfl (by decide) (Or.inl rfl) ?_
      refine r_goto (tgt := 0) (pc := 41) hC dX3_skipBlanks_41 rfl ?_
      exact r_to [true] rfl rfl (ih1 (rd_at_1 + 1) (Nat.lt_of_lt_of_le h.2 (Nat.le_of_lt_succ hn1)) h.1)
  exact r_to [true] rfl rfl (S1 _ (w.1 28 2) (Nat.lt_succ_self _) hI1)
def wp_Reader_lettersHere (tp_bytes : (Nat → Int)) (tp_length : Int) (rd_at : Int) (Q : Int → Prop) : Prop := lpw1 (fun (x1 : Int) (k1 : Int → Prop) => (rng (rd_at + x1)) ∧ ((tp_length ≤ (rd_at + x1) → Q x1) ∧ (¬ tp_length ≤ (rd_at + x1) → (rng (rd_at + x1)) ∧ (wp_Tape_at tp_bytes tp_length (rd_at + x1) (fun (r2 : Int) => wp_Picker_isSmallLetter r2 (fun (r3 : Int) => (r3 = 0 → Q x1) ∧ (¬ r3 = 0 → (rng (x1 + 1)) ∧ (k1 (x1 + 1))))))))) 0
set_option maxHeartbeats 4000000 in
set_option maxRecDepth 20000 in
theorem s_Reader_lettersHere (l : Launch) (w : St) (P : Int → Prop) (h : wp_Reader_lettersHere (w.1 2) (w.1 1 1) (w.1 28 2) P) : Cn l yX3_lettersHere cX3_lettersHere 2 (some .int) 1 LX w [aR 28] (okI (fun r w1 => w1 = w ∧ P r)) := by
  unfold wp_Reader_lettersHere at h
  refine Cn.of2 [some (aR 28), none] (by decide) (Nat.le_of_ble_eq_true rfl) rfl (fun p e s m args below meth c D cA ad A Q hQ hC hr hk => ?_)
  refine r_iconst (pc := 0) hC dX3_lettersHere_0 (rng_lit rfl) ?_
  refine r_istore_n (ls2 := [some (aR 28), some (aI 0)]) (pc := 1) hC 1 dX3_lettersHere_1 rfl (by decide) rfl rfl ?_
  obtain ⟨I1, μ1, hI1, hB1⟩ := h
  have S1 : ∀ (nn : Nat) (x1 : Int), μ1 x1 < nn → I1 x1 → Wd p l e (rmD 1) s m args below meth c Q 0 0 2 D cA ad A LX w 2 [some (aR 28), some (aI x1)] [] := by
    intro nn
    induction nn with
    | zero => intro x1 hn; exact absurd hn (Nat.not_lt_zero _)
    | succ nn ih1 =>
      intro x1 hn1 hi
      have h := hB1 x1 hi
      refine r_aload_n (pc := 2) hC 0 dX3_lettersHere_2 rfl rfl ?_
      refine r_get (kd := 0) (v := (w.1 28 2)) (pc := 3) hC dX3_lettersHere_3 fl_RX3_19 lX_28 rfl rfl ?_
      refine r_iload_n (pc := 6) hC 1 dX3_lettersHere_6 rfl rfl ?_
      refine r_iadd (pc := 7) hC dX3_lettersHere_7 h.1 ?_
      have h := h.2
      refine r_aload_n (pc := 8) hC 0 dX3_lettersHere_8 rfl rfl ?_
      refine r_getr (r := 1) (pc := 9) hC dX3_lettersHere_9 fl_RX3_9 lX_28 rfl ?_
      refine r_get (kd := 0) (v := (w.1 1 1)) (pc := 12) hC dX3_lettersHere_12 fl_RX3_34 lX_1 rfl rfl ?_
      refine r_ic_ge (pc := 15) (tgt := 43) hC dX3_lettersHere_15 rfl (fun hc2 => ?_) (fun hc2 => ?_)
      · have h := h.1 hc2
        refine r_iload_n (pc := 43) hC 1 dX3_lettersHere_43 rfl rfl ?_
        exact r_reti (pc := 44) (kd := 0) hC hQ dX3_lettersHere_44 hr hk (by decide) (Or.inl rfl) ⟨rfl, h⟩
      have h := h.2 hc2
      refine r_aload_n (pc := 18) hC 0 dX3_lettersHere_18 rfl rfl ?_
      refine r_getr (r := 1) (pc := 19) hC dX3_lettersHere_19 fl_RX3_9 lX_28 rfl ?_
      refine r_aload_n (pc := 22) hC 0 dX3_lettersHere_22 rfl rfl ?_
      refine r_get (kd := 0) (v := (w.1 28 2)) (pc := 23) hC dX3_lettersHere_23 fl_RX3_19 lX_28 rfl rfl ?_
      refine r_iload_n (pc := 26) hC 1 dX3_lettersHere_26 rfl rfl ?_
      refine r_iadd (pc := 27) hC dX3_lettersHere_27 h.1 ?_
      have h := h.2
      refine r_callVi (pc := 28) hC [aI ((w.1 28 2) + x1)] [] dX3_lettersHere_28 ml_RX3_55 my_X6_at mi_X6_at lX_1 rfl rfl ⟨Nat.le_of_ble_eq_true rfl, Nat.le_of_ble_eq_true rfl⟩ ⟨Nat.le_of_ble_eq_true rfl, Nat.le_of_ble_eq_true rfl⟩ (Nat.le_of_ble_eq_true rfl) rfl (s_Tape_at l _ _ _ h) (fun r2 w1 hq => ?_)
      obtain ⟨e9, h⟩ := hq
      rw [e9]
      refine r_callSNi (pc := 31) hC [aI r2] [] dX3_lettersHere_31 nl_RX3_78 my_X9_isSmallLetter ms_X9_isSmallLetter rfl ⟨Nat.le_of_ble_eq_true rfl, Nat.le_of_ble_eq_true rfl⟩ ⟨Nat.le_of_ble_eq_true rfl, Nat.le_of_ble_eq_true rfl⟩ (Nat.le_of_ble_eq_true rfl) rfl (s_Picker_isSmallLetter l _ _ _ h) (fun r3 w1 hq => ?_)
      obtain ⟨e9, h⟩ := hq
      rw [e9]
      refine r_if_eq (pc := 34) (tgt := 43) hC dX3_lettersHere_34 rfl (fun hc1 => ?_) (fun hc1 => ?_)
      · have h := h.1 hc1
        refine r_iload_n (pc := 43) hC 1 dX3_lettersHere_43 rfl rfl ?_
        exact r_reti (pc := 44) (kd := 0) hC hQ dX3_lettersHere_44 hr hk (by decide) (Or.inl rfl) ⟨rfl, h⟩
      have h := h.2 hc1
      refine r_iinc (ls2 := [some (aR 28), some (aI (x1 + 1))]) (pc := 37) hC dX3_lettersHere_37 rfl (by decide) rfl h.1 rfl ?_
      have h := h.2
      refine r_goto (tgt := 2) (pc := 40) hC dX3_lettersHere_40 rfl ?_
      exact r_to [true, true] rfl rfl (ih1 (x1 + 1) (Nat.lt_of_lt_of_le h.2 (Nat.le_of_lt_succ hn1)) h.1)
  exact r_to [true, true] rfl rfl (S1 _ 0 (Nat.lt_succ_self _) hI1)
def wp_Reader_isWordHere (tp_bytes : (Nat → Int)) (tp_length : Int) (rd_at : Int) (a1 : Nat) (Q : Int → Prop) : Prop := (a1 < 37) ∧ (wp_Reader_lettersHere tp_bytes tp_length rd_at (fun (r1 : Int) => (r1 = (sLen a1) → lpw1 (fun (x2 : Int) (k1 : Int → Prop) => ((sLen a1) ≤ x2 → Q 1) ∧ (¬ (sLen a1) ≤ x2 → (rng (rd_at + x2)) ∧ (wp_Tape_at tp_bytes tp_length (rd_at + x2) (fun (r3 : Int) => (a1 < 37 ∧ 0 ≤ x2 ∧ x2 < sLen a1) ∧ ((r3 = (sAt a1 x2) → (rng (x2 + 1)) ∧ (k1 (x2 + 1))) ∧ (¬ r3 = (sAt a1 x2) → Q 0)))))) 0) ∧ (¬ r1 = (sLen a1) → Q 0)))
set_option maxHeartbeats 4000000 in
set_option maxRecDepth 20000 in
theorem s_Reader_isWordHere (l : Launch) (w : St) (a1 : Nat) (P : Int → Prop) (h : wp_Reader_isWordHere (w.1 2) (w.1 1 1) (w.1 28 2) a1 P) : Cn l yX3_isWordHere cX3_isWordHere 4 (some .boolean) 4 LX w [aR 28, aR (10000 + a1)] (okI (fun r w1 => w1 = w ∧ P r)) := by
  unfold wp_Reader_isWordHere at h
  refine Cn.of2 [some (aR 28), some (aR (10000 + a1)), none, none] (by decide) (Nat.le_of_ble_eq_true rfl) rfl (fun p e s m args below meth c D cA ad A Q hQ hC hr hk => ?_)
  refine r_aload_n (pc := 0) hC 1 dX3_isWordHere_0 rfl rfl ?_
  refine r_slen (pc := 1) hC dX3_isWordHere_1 ml_RX3_81 h.1 ⟨Nat.le_of_ble_eq_true rfl, Nat.le_of_ble_eq_true rfl⟩ ⟨Nat.le_of_ble_eq_true rfl, Nat.le_of_ble_eq_true rfl⟩ (Nat.le_of_ble_eq_true rfl) ?_
  have h := h.2
  refine r_istore_n (ls2 := [some (aR 28), some (aR (10000 + a1)), some (aI (sLen a1)), none]) (pc := 4) hC 2 dX3_isWordHere_4 rfl (by decide) rfl rfl ?_
  refine r_aload_n (pc := 5) hC 0 dX3_isWordHere_5 rfl rfl ?_
  refine r_callVi (pc := 6) hC [] [] dX3_isWordHere_6 ml_RX3_51 my_X3_lettersHere mi_X3_lettersHere lX_28 rfl rfl ⟨Nat.le_of_ble_eq_true rfl, Nat.le_of_ble_eq_true rfl⟩ ⟨Nat.le_of_ble_eq_true rfl, Nat.le_of_ble_eq_true rfl⟩ (Nat.le_of_ble_eq_true rfl) rfl (s_Reader_lettersHere l _ _ h) (fun r1 w1 hq => ?_)
  obtain ⟨e9, h⟩ := hq
  rw [e9]
  refine r_iload_n (pc := 9) hC 2 dX3_isWordHere_9 rfl rfl ?_
  refine r_ic_eq (pc := 10) (tgt := 15) hC dX3_isWordHere_10 rfl (fun hc3 => ?_) (fun hc3 => ?_)
  · have h := h.1 hc3
    refine r_iconst (pc := 15) hC dX3_isWordHere_15 (rng_lit rfl) ?_
    refine r_istore_n (ls2 := [some (aR 28), some (aR (10000 + a1)), some (aI (sLen a1)), some (aI 0)]) (pc := 16) hC 3 dX3_isWordHere_16 rfl (by decide) rfl rfl ?_
    obtain ⟨I1, μ1, hI1, hB1⟩ := h
    have S1 : ∀ (nn : Nat) (x2 : Int), μ1 x2 < nn → I1 x2 → Wd p l e (rmD 4) s m args below meth c Q 0 0 4 D cA ad A LX w 17 [some (aR 28), some (aR (10000 + a1)), some (aI (sLen a1)), some (aI x2)] [] := by
      intro nn
      induction nn with
      | zero => intro x2 hn; exact absurd hn (Nat.not_lt_zero _)
      | succ nn ih1 =>
        intro x2 hn1 hi
        have h := hB1 x2 hi
        refine r_iload_n (pc := 17) hC 3 dX3_isWordHere_17 rfl rfl ?_
        refine r_iload_n (pc := 18) hC 2 dX3_isWordHere_18 rfl rfl ?_
        refine r_ic_ge (pc := 19) (tgt := 51) hC dX3_isWordHere_19 rfl (fun hc2 => ?_) (fun hc2 => ?_)
        · have h := h.1 hc2
          refine r_iconst (pc := 51) hC dX3_isWordHere_51 (rng_lit rfl) ?_
          exact r_reti (pc := 52) (kd := 1) hC hQ dX3_isWordHere_52 hr hk (by decide) (Or.inr okK1_1) ⟨rfl, h⟩
        have h := h.2 hc2
        refine r_aload_n (pc := 22) hC 0 dX3_isWordHere_22 rfl rfl ?_
        refine r_getr (r := 1) (pc := 23) hC dX3_isWordHere_23 fl_RX3_9 lX_28 rfl ?_
        refine r_aload_n (pc := 26) hC 0 dX3_isWordHere_26 rfl rfl ?_
        refine r_get (kd := 0) (v := (w.1 28 2)) (pc := 27) hC dX3_isWordHere_27 fl_RX3_19 lX_28 rfl rfl ?_
        refine r_iload_n (pc := 30) hC 3 dX3_isWordHere_30 rfl rfl ?_
        refine r_iadd (pc := 31) hC dX3_isWordHere_31 h.1 ?_
        have h := h.2
        refine r_callVi (pc := 32) hC [aI ((w.1 28 2) + x2)] [] dX3_isWordHere_32 ml_RX3_55 my_X6_at mi_X6_at lX_1 rfl rfl ⟨Nat.le_of_ble_eq_true rfl, Nat.le_of_ble_eq_true rfl⟩ ⟨Nat.le_of_ble_eq_true rfl, Nat.le_of_ble_eq_true rfl⟩ (Nat.le_of_ble_eq_true rfl) rfl (s_Tape_at l _ _ _ h) (fun r3 w1 hq => ?_)
        obtain ⟨e9, h⟩ := hq
        rw [e9]
        refine r_aload_n (pc := 35) hC 1 dX3_isWordHere_35 rfl rfl ?_
        refine r_iload_n (pc := 36) hC 3 dX3_isWordHere_36 rfl rfl ?_
        refine r_sat (pc := 37) hC dX3_isWordHere_37 ml_RX3_85 h.1.1 h.1.2.1 h.1.2.2 ⟨Nat.le_of_ble_eq_true rfl, Nat.le_of_ble_eq_true rfl⟩ ⟨Nat.le_of_ble_eq_true rfl, Nat.le_of_ble_eq_true rfl⟩ (Nat.le_of_ble_eq_true rfl) ?_
        have h := h.2
        refine r_ic_eq (pc := 40) (tgt := 45) hC dX3_isWordHere_40 rfl (fun hc1 => ?_) (fun hc1 => ?_)
        · have h := h.1 hc1
          refine r_iinc (ls2 := [some (aR 28), some (aR (10000 + a1)), some (aI (sLen a1)), some (aI (x2 + 1))]) (pc := 45) hC dX3_isWordHere_45 rfl (by decide) rfl h.1 rfl ?_
          have h := h.2
          refine r_goto (tgt := 17) (pc := 48) hC dX3_isWordHere_48 rfl ?_
          exact r_to [true, true, true, true] rfl rfl (ih1 (x2 + 1) (Nat.lt_of_lt_of_le h.2 (Nat.le_of_lt_succ hn1)) h.1)
        have h := h.2 hc1
        refine r_iconst (pc := 43) hC dX3_isWordHere_43 (rng_lit rfl) ?_
        exact r_reti (pc := 44) (kd := 1) hC hQ dX3_isWordHere_44 hr hk (by decide) (Or.inr okK1_0) ⟨rfl, h⟩
    exact r_to [true, true, true, true] rfl rfl (S1 _ 0 (Nat.lt_succ_self _) hI1)
  have h := h.2 hc3
  refine r_iconst (pc := 13) hC dX3_isWordHere_13 (rng_lit rfl) ?_
  exact r_reti (pc := 14) (kd := 1) hC hQ dX3_isWordHere_14 hr hk (by decide) (Or.inr okK1_0) ⟨rfl, h⟩
def wp_Picker_isDigit (a0 : Int) (Q : Int → Prop) : Prop := (a0 < 48 → Q 0) ∧ (¬ a0 < 48 → (57 < a0 → Q 0) ∧ (¬ 57 < a0 → Q 1))
set_option maxHeartbeats 4000000 in
set_option maxRecDepth 20000 in
theorem s_Picker_isDigit (l : Launch) (w : St) (a0 : Int) (P : Int → Prop) (h : wp_Picker_isDigit a0 P) : Cn l yX9_isDigit cX9_isDigit 1 (some .boolean) 0 LX w [aI a0] (okI (fun r w1 => w1 = w ∧ P r)) := by
  unfold wp_Picker_isDigit at h
  refine Cn.of2 [some (aI a0)] (by decide) (Nat.le_of_ble_eq_true rfl) rfl (fun p e s m args below meth c D cA ad A Q hQ hC hr hk => ?_)
  refine r_iload_n (pc := 0) hC 0 dX9_isDigit_0 rfl rfl ?_
  refine r_bipush (pc := 1) hC dX9_isDigit_1 ⟨rfl, rng_lit rfl⟩ ?_
  refine r_ic_lt (pc := 3) (tgt := 16) hC dX9_isDigit_3 rfl (fun hc2 => ?_) (fun hc2 => ?_)
  · have h := h.1 hc2
    refine r_iconst (pc := 16) hC dX9_isDigit_16 (rng_lit rfl) ?_
    exact r_reti (pc := 17) (kd := 1) hC hQ dX9_isDigit_17 hr hk (by decide) (Or.inr okK1_0) ⟨rfl, h⟩
  have h := h.2 hc2
  refine r_iload_n (pc := 6) hC 0 dX9_isDigit_6 rfl rfl ?_
  refine r_bipush (pc := 7) hC dX9_isDigit_7 ⟨rfl, rng_lit rfl⟩ ?_
  refine r_ic_gt (pc := 9) (tgt := 16) hC dX9_isDigit_9 rfl (fun hc1 => ?_) (fun hc1 => ?_)
  · have h := h.1 hc1
    refine r_iconst (pc := 16) hC dX9_isDigit_16 (rng_lit rfl) ?_
    exact r_reti (pc := 17) (kd := 1) hC hQ dX9_isDigit_17 hr hk (by decide) (Or.inr okK1_0) ⟨rfl, h⟩
  have h := h.2 hc1
  refine r_iconst (pc := 12) hC dX9_isDigit_12 (rng_lit rfl) ?_
  refine r_goto (tgt := 17) (pc := 13) hC dX9_isDigit_13 rfl ?_
  exact r_reti (pc := 17) (kd := 1) hC hQ dX9_isDigit_17 hr hk (by decide) (Or.inr okK1_1) ⟨rfl, h⟩
def wp_Reader_readTerms (tp_bytes : (Nat → Int)) (dr_termCounts : (Nat → Int)) (dr_termSizes : (Nat → Int)) (dr_letters : (Nat → Int)) (tp_length : Int) (dr_starredTerms : Int) (dr_items : Int) (rd_at : Int) (rd_fault : Int) (Q : (Nat → Int) → (Nat → Int) → (Nat → Int) → Int → Int → Int → Prop) : Prop := lpw6 (fun (dr_termCounts_1 : (Nat → Int)) (dr_termSizes_2 : (Nat → Int)) (dr_letters_3 : (Nat → Int)) (dr_starredTerms_4 : Int) (rd_at_5 : Int) (x6 : Int) (k1 : (Nat → Int) → (Nat → Int) → (Nat → Int) → Int → Int → Int → Prop) => (4 < x6 → Q dr_termCounts_1 dr_termSizes_2 dr_letters_3 dr_starredTerms_4 rd_at_5 rd_fault) ∧ (¬ 4 < x6 → wp_Reader_skipBlanks tp_bytes tp_length rd_at_5 (fun (rd_at_7 : Int) => jn0 (fun (J2 : Prop) => (x6 ≤ 0 → J2) ∧ (¬ x6 ≤ 0 → wp_Tape_at tp_bytes tp_length rd_at_7 (fun (r16 : Int) => (¬ r16 = 59 → J2) ∧ (r16 = 59 → (rng (rd_at_7 + 1)) ∧ (Q dr_termCounts_1 dr_termSizes_2 dr_letters_3 dr_starredTerms_4 (rd_at_7 + 1) rd_fault))))) (wp_Reader_lettersHere tp_bytes tp_length rd_at_7 (fun (r8 : Int) => jn0 (fun (J3 : Prop) => (r8 = 0 → J3) ∧ (¬ r8 = 0 → (12 < r8 → J3) ∧ (¬ 12 < r8 → (¬ x6 = 4 → (rng (rd_at_7 + r8)) ∧ (wp_Tape_at tp_bytes tp_length (rd_at_7 + r8) (fun (r9 : Int) => jn1 (fun (J4 : Int → Prop) => (¬ r9 = 42 → J4 0) ∧ (r9 = 42 → J4 1)) (fun (y10 : Int) => wp_Query_addTerm tp_bytes dr_termCounts_1 dr_termSizes_2 dr_letters_3 tp_length dr_starredTerms_4 dr_items rd_at_7 r8 y10 (fun (dr_termCounts_11 : (Nat → Int)) (dr_termSizes_12 : (Nat → Int)) (dr_letters_13 : (Nat → Int)) (dr_starredTerms_14 : Int) => jn1 (fun (J5 : Int → Prop) => (y10 = 0 → J5 r8) ∧ (¬ y10 = 0 → (rng (r8 + 1)) ∧ (J5 (r8 + 1)))) (fun (y15 : Int) => (rng (rd_at_7 + y15)) ∧ ((rng (x6 + 1)) ∧ (k1 dr_termCounts_11 dr_termSizes_12 dr_letters_13 dr_starredTerms_14 (rd_at_7 + y15) (x6 + 1))))))))) ∧ (x6 = 4 → J3)))) (Q dr_termCounts_1 dr_termSizes_2 dr_letters_3 dr_starredTerms_4 rd_at_7 rd_at_7)))))) dr_termCounts dr_termSizes dr_letters dr_starredTerms rd_at 0
set_option maxHeartbeats 4000000 in
set_option maxRecDepth 20000 in
theorem s_Reader_readTerms (l : Launch) (w : St) (P : (Nat → Int) → (Nat → Int) → (Nat → Int) → Int → Int → Int → Prop) (h : wp_Reader_readTerms (w.1 2) (w.1 25) (w.1 26) (w.1 27) (w.1 1 1) (w.1 23 4) (w.1 23 6) (w.1 28 2) (w.1 28 3) P) : Cn l yX3_readTerms cX3_readTerms 4 none 2 LX w [aR 28] (okV (fun w1 => ∃ (o0 : (Nat → Int)) (o1 : (Nat → Int)) (o2 : (Nat → Int)) (o3 : Int) (o4 : Int) (o5 : Int), w1 = (wI (wI (wI (wA (wA (wA w 25 o0) 26 o1) 27 o2) 23 4 o3) 28 2 o4) 28 3 o5) ∧ P o0 o1 o2 o3 o4 o5)) := by
  unfold wp_Reader_readTerms at h
  refine Cn.of2 [some (aR 28), none, none, none] (by decide) (Nat.le_of_ble_eq_true rfl) rfl (fun p e s m args below meth c D cA ad A Q hQ hC hr hk => ?_)
  refine r_iconst (pc := 0) hC dX3_readTerms_0 (rng_lit rfl) ?_
  refine r_istore_n (ls2 := [some (aR 28), some (aI 0), none, none]) (pc := 1) hC 1 dX3_readTerms_1 rfl (by decide) rfl rfl ?_
  obtain ⟨I1, μ1, hI1, hB1⟩ := h
  have S1 : ∀ (nn : Nat) (dr_termCounts_1 : (Nat → Int)) (dr_termSizes_2 : (Nat → Int)) (dr_letters_3 : (Nat → Int)) (dr_starredTerms_4 : Int) (rd_at_5 : Int) (x6 : Int), μ1 dr_termCounts_1 dr_termSizes_2 dr_letters_3 dr_starredTerms_4 rd_at_5 x6 < nn → I1 dr_termCounts_1 dr_termSizes_2 dr_letters_3 dr_starredTerms_4 rd_at_5 x6 → Wd p l e (rmD 2) s m args below meth c Q 0 0 4 D cA ad A LX (wI (wI (wA (wA (wA w 25 dr_termCounts_1) 26 dr_termSizes_2) 27 dr_letters_3) 23 4 dr_starredTerms_4) 28 2 rd_at_5) 2 [some (aR 28), some (aI x6), none, none] [] := by
    intro nn
    induction nn with
    | zero => intro dr_termCounts_1 dr_termSizes_2 dr_letters_3 dr_starredTerms_4 rd_at_5 x6 hn; exact absurd hn (Nat.not_lt_zero _)
    | succ nn ih1 =>
      intro dr_termCounts_1 dr_termSizes_2 dr_letters_3 dr_starredTerms_4 rd_at_5 x6 hn1 hi
      have h := hB1 dr_termCounts_1 dr_termSizes_2 dr_letters_3 dr_starredTerms_4 rd_at_5 x6 hi
      refine r_iload_n (pc := 2) hC 1 dX3_readTerms_2 rfl rfl ?_
      refine r_iconst (pc := 3) hC dX3_readTerms_3 (rng_lit rfl) ?_
      refine r_ic_gt (pc := 4) (tgt := 138) hC dX3_readTerms_4 rfl (fun hc8 => ?_) (fun hc8 => ?_)
      · have h := h.1 hc8
        refine r_conv (w2 := (wI (wI (wI (wA (wA (wA w 25 dr_termCounts_1) 26 dr_termSizes_2) 27 dr_letters_3) 23 4 dr_starredTerms_4) 28 2 rd_at_5) 28 3 (w.1 28 3))) rfl ?_
        exact r_retv (pc := 138) hC hQ dX3_readTerms_138 hr hk ⟨dr_termCounts_1, dr_termSizes_2, dr_letters_3, dr_starredTerms_4, rd_at_5, (w.1 28 3), rfl, h⟩
      have h := h.2 hc8
      refine r_aload_n (pc := 7) hC 0 dX3_readTerms_7 rfl rfl ?_
      refine r_callVv (pc := 8) hC [] [] dX3_readTerms_8 ml_RX3_31 my_X3_skipBlanks mi_X3_skipBlanks lX_28 rfl rfl ⟨Nat.le_of_ble_eq_true rfl, Nat.le_of_ble_eq_true rfl⟩ ⟨Nat.le_of_ble_eq_true rfl, Nat.le_of_ble_eq_true rfl⟩ (Nat.le_of_ble_eq_true rfl) rfl (s_Reader_skipBlanks l _ _ h) (fun w1 hq => ?_)
      obtain ⟨rd_at_7, e9, h⟩ := hq
      rw [e9]
      refine r_iload_n (pc := 11) hC 1 dX3_readTerms_11 rfl rfl ?_
      obtain ⟨J2, hJ2, h⟩ := h
      have S2 : J2 → Wd p l e (rmD 2) s m args below meth c Q 0 0 4 D cA ad A LX (wI (wI (wA (wA (wA w 25 dr_termCounts_1) 26 dr_termSizes_2) 27 dr_letters_3) 23 4 dr_starredTerms_4) 28 2 rd_at_7) 42 [some (aR 28), some (aI x6), none, none] [] := by
        intro hj
        have h := hJ2 hj
        refine r_aload_n (pc := 42) hC 0 dX3_readTerms_42 rfl rfl ?_
        refine r_callVi (pc := 43) hC [] [] dX3_readTerms_43 ml_RX3_51 my_X3_lettersHere mi_X3_lettersHere lX_28 rfl rfl ⟨Nat.le_of_ble_eq_true rfl, Nat.le_of_ble_eq_true rfl⟩ ⟨Nat.le_of_ble_eq_true rfl, Nat.le_of_ble_eq_true rfl⟩ (Nat.le_of_ble_eq_true rfl) rfl (s_Reader_lettersHere l _ _ h) (fun r8 w1 hq => ?_)
        obtain ⟨e9, h⟩ := hq
        rw [e9]
        refine r_istore_n (ls2 := [some (aR 28), some (aI x6), some (aI r8), none]) (pc := 46) hC 2 dX3_readTerms_46 rfl (by decide) rfl rfl ?_
        refine r_iload_n (pc := 47) hC 2 dX3_readTerms_47 rfl rfl ?_
        obtain ⟨J3, hJ3, h⟩ := h
        have S3 : J3 → Wd p l e (rmD 2) s m args below meth c Q 0 0 4 D cA ad A LX (wI (wI (wA (wA (wA w 25 dr_termCounts_1) 26 dr_termSizes_2) 27 dr_letters_3) 23 4 dr_starredTerms_4) 28 2 rd_at_7) 62 [some (aR 28), none, none, none] [] := by
          intro hj
          have h := hJ3 hj
          refine r_aload_n (pc := 62) hC 0 dX3_readTerms_62 rfl rfl ?_
          refine r_aload_n (pc := 63) hC 0 dX3_readTerms_63 rfl rfl ?_
          refine r_get (kd := 0) (v := rd_at_7) (pc := 64) hC dX3_readTerms_64 fl_RX3_19 lX_28 rfl rfl ?_
          refine r_put (kd := 0) (pc := 67) hC dX3_readTerms_67 pl_RX3_23 lX_28 rfl (by decide) (Or.inl rfl) ?_
          refine r_conv (w2 := (wI (wI (wI (wA (wA (wA w 25 dr_termCounts_1) 26 dr_termSizes_2) 27 dr_letters_3) 23 4 dr_starredTerms_4) 28 2 rd_at_7) 28 3 rd_at_7)) rfl ?_
          exact r_retv (pc := 70) hC hQ dX3_readTerms_70 hr hk ⟨dr_termCounts_1, dr_termSizes_2, dr_letters_3, dr_starredTerms_4, rd_at_7, rd_at_7, rfl, h⟩
        refine r_if_eq (pc := 48) (tgt := 62) hC dX3_readTerms_48 rfl (fun hc5 => ?_) (fun hc5 => ?_)
        · have h := h.1 hc5
          exact r_to [true, false, false, false] rfl rfl (S3 h)
        have h := h.2 hc5
        refine r_iload_n (pc := 51) hC 2 dX3_readTerms_51 rfl rfl ?_
        refine r_bipush (pc := 52) hC dX3_readTerms_52 ⟨rfl, rng_lit rfl⟩ ?_
        refine r_ic_gt (pc := 54) (tgt := 62) hC dX3_readTerms_54 rfl (fun hc4 => ?_) (fun hc4 => ?_)
        · have h := h.1 hc4
          exact r_to [true, false, false, false] rfl rfl (S3 h)
        have h := h.2 hc4
        refine r_iload_n (pc := 57) hC 1 dX3_readTerms_57 rfl rfl ?_
        refine r_iconst (pc := 58) hC dX3_readTerms_58 (rng_lit rfl) ?_
        refine r_ic_ne (pc := 59) (tgt := 71) hC dX3_readTerms_59 rfl (fun hc3 => ?_) (fun hc3 => ?_)
        · have h := h.1 hc3
          refine r_aload_n (pc := 71) hC 0 dX3_readTerms_71 rfl rfl ?_
          refine r_getr (r := 1) (pc := 72) hC dX3_readTerms_72 fl_RX3_9 lX_28 rfl ?_
          refine r_aload_n (pc := 75) hC 0 dX3_readTerms_75 rfl rfl ?_
          refine r_get (kd := 0) (v := rd_at_7) (pc := 76) hC dX3_readTerms_76 fl_RX3_19 lX_28 rfl rfl ?_
          refine r_iload_n (pc := 79) hC 2 dX3_readTerms_79 rfl rfl ?_
          refine r_iadd (pc := 80) hC dX3_readTerms_80 h.1 ?_
          have h := h.2
          refine r_callVi (pc := 81) hC [aI (rd_at_7 + r8)] [] dX3_readTerms_81 ml_RX3_55 my_X6_at mi_X6_at lX_1 rfl rfl ⟨Nat.le_of_ble_eq_true rfl, Nat.le_of_ble_eq_true rfl⟩ ⟨Nat.le_of_ble_eq_true rfl, Nat.le_of_ble_eq_true rfl⟩ (Nat.le_of_ble_eq_true rfl) rfl (s_Tape_at l _ _ _ h) (fun r9 w1 hq => ?_)
          obtain ⟨e9, h⟩ := hq
          rw [e9]
          refine r_bipush (pc := 84) hC dX3_readTerms_84 ⟨rfl, rng_lit rfl⟩ ?_
          obtain ⟨J4, hJ4, h⟩ := h
          have S4 : ∀ (y10 : Int), J4 y10 → Wd p l e (rmD 2) s m args below meth c Q 0 0 4 D cA ad A LX (wI (wI (wA (wA (wA w 25 dr_termCounts_1) 26 dr_termSizes_2) 27 dr_letters_3) 23 4 dr_starredTerms_4) 28 2 rd_at_7) 94 [some (aR 28), some (aI x6), some (aI r8), none] [aI y10] := by
            intro y10 hj
            have h := hJ4 y10 hj
            refine r_istore_n (ls2 := [some (aR 28), some (aI x6), some (aI r8), some (aI y10)]) (pc := 94) hC 3 dX3_readTerms_94 rfl (by decide) rfl rfl ?_
            refine r_aload_n (pc := 95) hC 0 dX3_readTerms_95 rfl rfl ?_
            refine r_getr (r := 23) (pc := 96) hC dX3_readTerms_96 fl_RX3_15 lX_28 rfl ?_
            refine r_aload_n (pc := 99) hC 0 dX3_readTerms_99 rfl rfl ?_
            refine r_getr (r := 1) (pc := 100) hC dX3_readTerms_100 fl_RX3_9 lX_28 rfl ?_
            refine r_aload_n (pc := 103) hC 0 dX3_readTerms_103 rfl rfl ?_
            refine r_get (kd := 0) (v := rd_at_7) (pc := 104) hC dX3_readTerms_104 fl_RX3_19 lX_28 rfl rfl ?_
            refine r_iload_n (pc := 107) hC 2 dX3_readTerms_107 rfl rfl ?_
            refine r_iload_n (pc := 108) hC 3 dX3_readTerms_108 rfl rfl ?_
            refine r_callVv (pc := 109) hC [aR 1, aI rd_at_7, aI r8, aI y10] [] dX3_readTerms_109 ml_RX3_71 my_X2_addTerm mi_X2_addTerm lX_23 rfl rfl ⟨Nat.le_of_ble_eq_true rfl, Nat.le_of_ble_eq_true rfl⟩ ⟨Nat.le_of_ble_eq_true rfl, Nat.le_of_ble_eq_true rfl⟩ (Nat.le_of_ble_eq_true rfl) rfl (s_Query_addTerm l _ _ _ _ _ h) (fun w1 hq => ?_)
            obtain ⟨dr_termCounts_11, dr_termSizes_12, dr_letters_13, dr_starredTerms_14, e9, h⟩ := hq
            rw [e9]
            refine r_aload_n (pc := 112) hC 0 dX3_readTerms_112 rfl rfl ?_
            refine r_dup (pc := 113) hC dX3_readTerms_113 rfl ?_
            refine r_get (kd := 0) (v := rd_at_7) (pc := 114) hC dX3_readTerms_114 fl_RX3_19 lX_28 rfl rfl ?_
            refine r_iload_n (pc := 117) hC 3 dX3_readTerms_117 rfl rfl ?_
            obtain ⟨J5, hJ5, h⟩ := h
            have S5 : ∀ (y15 : Int), J5 y15 → Wd p l e (rmD 2) s m args below meth c Q 0 0 4 D cA ad A LX (wI (wI (wA (wA (wA w 25 dr_termCounts_11) 26 dr_termSizes_12) 27 dr_letters_13) 23 4 dr_starredTerms_14) 28 2 rd_at_7) 128 [some (aR 28), some (aI x6), none, none] [aI y15, aI rd_at_7, aR 28] := by
              intro y15 hj
              have h := hJ5 y15 hj
              refine r_iadd (pc := 128) hC dX3_readTerms_128 h.1 ?_
              have h := h.2
              refine r_put (kd := 0) (pc := 129) hC dX3_readTerms_129 pl_RX3_19 lX_28 rfl (by decide) (Or.inl rfl) ?_
              refine r_iinc (ls2 := [some (aR 28), some (aI (x6 + 1)), none, none]) (pc := 132) hC dX3_readTerms_132 rfl (by decide) rfl h.1 rfl ?_
              have h := h.2
              refine r_goto (tgt := 2) (pc := 135) hC dX3_readTerms_135 rfl ?_
              exact r_to [true, true, false, false] rfl rfl (ih1 dr_termCounts_11 dr_termSizes_12 dr_letters_13 dr_starredTerms_14 (rd_at_7 + y15) (x6 + 1) (Nat.lt_of_lt_of_le h.2 (Nat.le_of_lt_succ hn1)) h.1)
            refine r_if_eq (pc := 118) (tgt := 127) hC dX3_readTerms_118 rfl (fun hc1 => ?_) (fun hc1 => ?_)
            · have h := h.1 hc1
              refine r_iload_n (pc := 127) hC 2 dX3_readTerms_127 rfl rfl ?_
              exact r_to [true, true, false, false] rfl rfl (S5 r8 h)
            have h := h.2 hc1
            refine r_iload_n (pc := 121) hC 2 dX3_readTerms_121 rfl rfl ?_
            refine r_iconst (pc := 122) hC dX3_readTerms_122 (rng_lit rfl) ?_
            refine r_iadd (pc := 123) hC dX3_readTerms_123 h.1 ?_
            have h := h.2
            refine r_goto (tgt := 128) (pc := 124) hC dX3_readTerms_124 rfl ?_
            exact r_to [true, true, false, false] rfl rfl (S5 (r8 + 1) h)
          refine r_ic_ne (pc := 86) (tgt := 93) hC dX3_readTerms_86 rfl (fun hc2 => ?_) (fun hc2 => ?_)
          · have h := h.1 hc2
            refine r_iconst (pc := 93) hC dX3_readTerms_93 (rng_lit rfl) ?_
            exact r_to [true, true, true, false] rfl rfl (S4 0 h)
          have h := h.2 hc2
          refine r_iconst (pc := 89) hC dX3_readTerms_89 (rng_lit rfl) ?_
          refine r_goto (tgt := 94) (pc := 90) hC dX3_readTerms_90 rfl ?_
          exact r_to [true, true, true, false] rfl rfl (S4 1 h)
        have h := h.2 hc3
        exact r_to [true, false, false, false] rfl rfl (S3 h)
      refine r_if_le (pc := 12) (tgt := 42) hC dX3_readTerms_12 rfl (fun hc7 => ?_) (fun hc7 => ?_)
      · have h := h.1 hc7
        exact r_to [true, true, false, false] rfl rfl (S2 h)
      have h := h.2 hc7
      refine r_aload_n (pc := 15) hC 0 dX3_readTerms_15 rfl rfl ?_
      refine r_getr (r := 1) (pc := 16) hC dX3_readTerms_16 fl_RX3_9 lX_28 rfl ?_
      refine r_aload_n (pc := 19) hC 0 dX3_readTerms_19 rfl rfl ?_
      refine r_get (kd := 0) (v := rd_at_7) (pc := 20) hC dX3_readTerms_20 fl_RX3_19 lX_28 rfl rfl ?_
      refine r_callVi (pc := 23) hC [aI rd_at_7] [] dX3_readTerms_23 ml_RX3_55 my_X6_at mi_X6_at lX_1 rfl rfl ⟨Nat.le_of_ble_eq_true rfl, Nat.le_of_ble_eq_true rfl⟩ ⟨Nat.le_of_ble_eq_true rfl, Nat.le_of_ble_eq_true rfl⟩ (Nat.le_of_ble_eq_true rfl) rfl (s_Tape_at l _ _ _ h) (fun r16 w1 hq => ?_)
      obtain ⟨e9, h⟩ := hq
      rw [e9]
      refine r_bipush (pc := 26) hC dX3_readTerms_26 ⟨rfl, rng_lit rfl⟩ ?_
      refine r_ic_ne (pc := 28) (tgt := 42) hC dX3_readTerms_28 rfl (fun hc6 => ?_) (fun hc6 => ?_)
      · have h := h.1 hc6
        exact r_to [true, true, false, false] rfl rfl (S2 h)
      have h := h.2 hc6
      refine r_aload_n (pc := 31) hC 0 dX3_readTerms_31 rfl rfl ?_
      refine r_dup (pc := 32) hC dX3_readTerms_32 rfl ?_
      refine r_get (kd := 0) (v := rd_at_7) (pc := 33) hC dX3_readTerms_33 fl_RX3_19 lX_28 rfl rfl ?_
      refine r_iconst (pc := 36) hC dX3_readTerms_36 (rng_lit rfl) ?_
      refine r_iadd (pc := 37) hC dX3_readTerms_37 h.1 ?_
      have h := h.2
      refine r_put (kd := 0) (pc := 38) hC dX3_readTerms_38 pl_RX3_19 lX_28 rfl (by decide) (Or.inl rfl) ?_
      refine r_conv (w2 := (wI (wI (wI (wA (wA (wA w 25 dr_termCounts_1) 26 dr_termSizes_2) 27 dr_letters_3) 23 4 dr_starredTerms_4) 28 2 (rd_at_7 + 1)) 28 3 (w.1 28 3))) rfl ?_
      exact r_retv (pc := 41) hC hQ dX3_readTerms_41 hr hk ⟨dr_termCounts_1, dr_termSizes_2, dr_letters_3, dr_starredTerms_4, (rd_at_7 + 1), (w.1 28 3), rfl, h⟩
  exact r_to [true, true, false, false] rfl rfl (S1 _ (w.1 25) (w.1 26) (w.1 27) (w.1 23 4) (w.1 28 2) 0 (Nat.lt_succ_self _) hI1)
def wp_Reader_readItem (tp_bytes : (Nat → Int)) (dr_weights : (Nat → Int)) (dr_termCounts : (Nat → Int)) (dr_termSizes : (Nat → Int)) (dr_letters : (Nat → Int)) (tp_length : Int) (dr_starredTerms : Int) (dr_softItems : Int) (dr_items : Int) (rd_at : Int) (rd_fault : Int) (Q : (Nat → Int) → (Nat → Int) → (Nat → Int) → (Nat → Int) → Int → Int → Int → Int → Int → Prop) : Prop := jn0 (fun (J1 : Prop) => (dr_items = 8 → J1) ∧ (¬ dr_items = 8 → wp_Reader_isWordHere tp_bytes tp_length rd_at 0 (fun (r1 : Int) => (¬ r1 = 0 → wp_Reader_lettersHere tp_bytes tp_length rd_at (fun (r2 : Int) => (rng (rd_at + r2)) ∧ (wp_Reader_skipBlanks tp_bytes tp_length (rd_at + r2) (fun (rd_at_3 : Int) => wp_Tape_at tp_bytes tp_length rd_at_3 (fun (r4 : Int) => jn0 (fun (J2 : Prop) => (r4 ≤ 48 → J2) ∧ (¬ r4 ≤ 48 → (57 < r4 → J2) ∧ (¬ 57 < r4 → (rng (rd_at_3 + 1)) ∧ (wp_Tape_at tp_bytes tp_length (rd_at_3 + 1) (fun (r5 : Int) => wp_Picker_isDigit r5 (fun (r6 : Int) => (r6 = 0 → (rng (rd_at_3 + 1)) ∧ (wp_Reader_skipBlanks tp_bytes tp_length (rd_at_3 + 1) (fun (rd_at_7 : Int) => wp_Reader_isWordHere tp_bytes tp_length rd_at_7 1 (fun (r8 : Int) => jn1 (fun (J3 : Int → Prop) => (r8 = 0 → J3 rd_at_7) ∧ (¬ r8 = 0 → wp_Reader_lettersHere tp_bytes tp_length rd_at_7 (fun (r20 : Int) => (rng (rd_at_7 + r20)) ∧ (J3 (rd_at_7 + r20))))) (fun (rd_at_9 : Int) => (rng (r4 - 48)) ∧ (wp_Query_addItem dr_weights dr_termCounts dr_softItems dr_items (r4 - 48) r8 (fun (dr_weights_10 : (Nat → Int)) (dr_termCounts_11 : (Nat → Int)) (dr_softItems_12 : Int) (dr_items_13 : Int) => wp_Reader_readTerms tp_bytes dr_termCounts_11 dr_termSizes dr_letters tp_length dr_starredTerms dr_items_13 rd_at_9 rd_fault (fun (dr_termCounts_14 : (Nat → Int)) (dr_termSizes_15 : (Nat → Int)) (dr_letters_16 : (Nat → Int)) (dr_starredTerms_17 : Int) (rd_at_18 : Int) (rd_fault_19 : Int) => Q dr_weights_10 dr_termCounts_14 dr_termSizes_15 dr_letters_16 dr_starredTerms_17 dr_softItems_12 dr_items_13 rd_at_18 rd_fault_19)))))))) ∧ (¬ r6 = 0 → J2))))))) (Q dr_weights dr_termCounts dr_termSizes dr_letters dr_starredTerms dr_softItems dr_items rd_at_3 rd_at_3)))))) ∧ (r1 = 0 → J1)))) (Q dr_weights dr_termCounts dr_termSizes dr_letters dr_starredTerms dr_softItems dr_items rd_at rd_at)
set_option maxHeartbeats 4000000 in
set_option maxRecDepth 20000 in
theorem s_Reader_readItem (l : Launch) (w : St) (P : (Nat → Int) → (Nat → Int) → (Nat → Int) → (Nat → Int) → Int → Int → Int → Int → Int → Prop) (h : wp_Reader_readItem (w.1 2) (w.1 24) (w.1 25) (w.1 26) (w.1 27) (w.1 1 1) (w.1 23 4) (w.1 23 5) (w.1 23 6) (w.1 28 2) (w.1 28 3) P) : Cn l yX3_readItem cX3_readItem 3 none 5 LX w [aR 28] (okV (fun w1 => ∃ (o0 : (Nat → Int)) (o1 : (Nat → Int)) (o2 : (Nat → Int)) (o3 : (Nat → Int)) (o4 : Int) (o5 : Int) (o6 : Int) (o7 : Int) (o8 : Int), w1 = (wI (wI (wI (wI (wI (wA (wA (wA (wA w 24 o0) 25 o1) 26 o2) 27 o3) 23 4 o4) 23 5 o5) 23 6 o6) 28 2 o7) 28 3 o8) ∧ P o0 o1 o2 o3 o4 o5 o6 o7 o8)) := by
  unfold wp_Reader_readItem at h
  refine Cn.of2 [some (aR 28), none, none] (by decide) (Nat.le_of_ble_eq_true rfl) rfl (fun p e s m args below meth c D cA ad A Q hQ hC hr hk => ?_)
  refine r_aload_n (pc := 0) hC 0 dX3_readItem_0 rfl rfl ?_
  refine r_getr (r := 23) (pc := 1) hC dX3_readItem_1 fl_RX3_15 lX_28 rfl ?_
  refine r_get (kd := 0) (v := (w.1 23 6)) (pc := 4) hC dX3_readItem_4 fl_RX3_42 lX_23 rfl rfl ?_
  refine r_bipush (pc := 7) hC dX3_readItem_7 ⟨rfl, rng_lit rfl⟩ ?_
  obtain ⟨J1, hJ1, h⟩ := h
  have S1 : J1 → Wd p l e (rmD 5) s m args below meth c Q 0 0 3 D cA ad A LX w 21 [some (aR 28), none, none] [] := by
    intro hj
    have h := hJ1 hj
    refine r_aload_n (pc := 21) hC 0 dX3_readItem_21 rfl rfl ?_
    refine r_aload_n (pc := 22) hC 0 dX3_readItem_22 rfl rfl ?_
    refine r_get (kd := 0) (v := (w.1 28 2)) (pc := 23) hC dX3_readItem_23 fl_RX3_19 lX_28 rfl rfl ?_
    refine r_put (kd := 0) (pc := 26) hC dX3_readItem_26 pl_RX3_23 lX_28 rfl (by decide) (Or.inl rfl) ?_
    refine r_conv (w2 := (wI (wI (wI (wI (wI (wA (wA (wA (wA w 24 (w.1 24)) 25 (w.1 25)) 26 (w.1 26)) 27 (w.1 27)) 23 4 (w.1 23 4)) 23 5 (w.1 23 5)) 23 6 (w.1 23 6)) 28 2 (w.1 28 2)) 28 3 (w.1 28 2))) rfl ?_
    exact r_retv (pc := 29) hC hQ dX3_readItem_29 hr hk ⟨(w.1 24), (w.1 25), (w.1 26), (w.1 27), (w.1 23 4), (w.1 23 5), (w.1 23 6), (w.1 28 2), (w.1 28 2), rfl, h⟩
  refine r_ic_eq (pc := 9) (tgt := 21) hC dX3_readItem_9 rfl (fun hc6 => ?_) (fun hc6 => ?_)
  · have h := h.1 hc6
    exact r_to [true, false, false] rfl rfl (S1 h)
  have h := h.2 hc6
  refine r_aload_n (pc := 12) hC 0 dX3_readItem_12 rfl rfl ?_
  refine r_ldcs (j := 0) (pc := 13) hC dX3_readItem_13 rfl ⟨rfl, rfl⟩ ?_
  refine r_callVi (pc := 15) hC [aR (10000 + 0)] [] dX3_readItem_15 ml_RX3_47 my_X3_isWordHere mi_X3_isWordHere lX_28 rfl rfl ⟨Nat.le_of_ble_eq_true rfl, Nat.le_of_ble_eq_true rfl⟩ ⟨Nat.le_of_ble_eq_true rfl, Nat.le_of_ble_eq_true rfl⟩ (Nat.le_of_ble_eq_true rfl) rfl (s_Reader_isWordHere l _ _ _ h) (fun r1 w1 hq => ?_)
  obtain ⟨e9, h⟩ := hq
  rw [e9]
  refine r_if_ne (pc := 18) (tgt := 30) hC dX3_readItem_18 rfl (fun hc5 => ?_) (fun hc5 => ?_)
  · have h := h.1 hc5
    refine r_aload_n (pc := 30) hC 0 dX3_readItem_30 rfl rfl ?_
    refine r_dup (pc := 31) hC dX3_readItem_31 rfl ?_
    refine r_get (kd := 0) (v := (w.1 28 2)) (pc := 32) hC dX3_readItem_32 fl_RX3_19 lX_28 rfl rfl ?_
    refine r_aload_n (pc := 35) hC 0 dX3_readItem_35 rfl rfl ?_
    refine r_callVi (pc := 36) hC [] [aI (w.1 28 2), aR 28] dX3_readItem_36 ml_RX3_51 my_X3_lettersHere mi_X3_lettersHere lX_28 rfl rfl ⟨Nat.le_of_ble_eq_true rfl, Nat.le_of_ble_eq_true rfl⟩ ⟨Nat.le_of_ble_eq_true rfl, Nat.le_of_ble_eq_true rfl⟩ (Nat.le_of_ble_eq_true rfl) rfl (s_Reader_lettersHere l _ _ h) (fun r2 w1 hq => ?_)
    obtain ⟨e9, h⟩ := hq
    rw [e9]
    refine r_iadd (pc := 39) hC dX3_readItem_39 h.1 ?_
    have h := h.2
    refine r_put (kd := 0) (pc := 40) hC dX3_readItem_40 pl_RX3_19 lX_28 rfl (by decide) (Or.inl rfl) ?_
    refine r_aload_n (pc := 43) hC 0 dX3_readItem_43 rfl rfl ?_
    refine r_callVv (pc := 44) hC [] [] dX3_readItem_44 ml_RX3_31 my_X3_skipBlanks mi_X3_skipBlanks lX_28 rfl rfl ⟨Nat.le_of_ble_eq_true rfl, Nat.le_of_ble_eq_true rfl⟩ ⟨Nat.le_of_ble_eq_true rfl, Nat.le_of_ble_eq_true rfl⟩ (Nat.le_of_ble_eq_true rfl) rfl (s_Reader_skipBlanks l _ _ h) (fun w1 hq => ?_)
    obtain ⟨rd_at_3, e9, h⟩ := hq
    rw [e9]
    refine r_aload_n (pc := 47) hC 0 dX3_readItem_47 rfl rfl ?_
    refine r_getr (r := 1) (pc := 48) hC dX3_readItem_48 fl_RX3_9 lX_28 rfl ?_
    refine r_aload_n (pc := 51) hC 0 dX3_readItem_51 rfl rfl ?_
    refine r_get (kd := 0) (v := rd_at_3) (pc := 52) hC dX3_readItem_52 fl_RX3_19 lX_28 rfl rfl ?_
    refine r_callVi (pc := 55) hC [aI rd_at_3] [] dX3_readItem_55 ml_RX3_55 my_X6_at mi_X6_at lX_1 rfl rfl ⟨Nat.le_of_ble_eq_true rfl, Nat.le_of_ble_eq_true rfl⟩ ⟨Nat.le_of_ble_eq_true rfl, Nat.le_of_ble_eq_true rfl⟩ (Nat.le_of_ble_eq_true rfl) rfl (s_Tape_at l _ _ _ h) (fun r4 w1 hq => ?_)
    obtain ⟨e9, h⟩ := hq
    rw [e9]
    refine r_istore_n (ls2 := [some (aR 28), some (aI r4), none]) (pc := 58) hC 1 dX3_readItem_58 rfl (by decide) rfl rfl ?_
    refine r_iload_n (pc := 59) hC 1 dX3_readItem_59 rfl rfl ?_
    refine r_bipush (pc := 60) hC dX3_readItem_60 ⟨rfl, rng_lit rfl⟩ ?_
    obtain ⟨J2, hJ2, h⟩ := h
    have S2 : J2 → Wd p l e (rmD 5) s m args below meth c Q 0 0 3 D cA ad A LX (wI w 28 2 rd_at_3) 90 [some (aR 28), none, none] [] := by
      intro hj
      have h := hJ2 hj
      refine r_aload_n (pc := 90) hC 0 dX3_readItem_90 rfl rfl ?_
      refine r_aload_n (pc := 91) hC 0 dX3_readItem_91 rfl rfl ?_
      refine r_get (kd := 0) (v := rd_at_3) (pc := 92) hC dX3_readItem_92 fl_RX3_19 lX_28 rfl rfl ?_
      refine r_put (kd := 0) (pc := 95) hC dX3_readItem_95 pl_RX3_23 lX_28 rfl (by decide) (Or.inl rfl) ?_
      refine r_conv (w2 := (wI (wI (wI (wI (wI (wA (wA (wA (wA w 24 (w.1 24)) 25 (w.1 25)) 26 (w.1 26)) 27 (w.1 27)) 23 4 (w.1 23 4)) 23 5 (w.1 23 5)) 23 6 (w.1 23 6)) 28 2 rd_at_3) 28 3 rd_at_3)) rfl ?_
      exact r_retv (pc := 98) hC hQ dX3_readItem_98 hr hk ⟨(w.1 24), (w.1 25), (w.1 26), (w.1 27), (w.1 23 4), (w.1 23 5), (w.1 23 6), rd_at_3, rd_at_3, rfl, h⟩
    refine r_ic_le (pc := 62) (tgt := 90) hC dX3_readItem_62 rfl (fun hc4 => ?_) (fun hc4 => ?_)
    · have h := h.1 hc4
      exact r_to [true, false, false] rfl rfl (S2 h)
    have h := h.2 hc4
    refine r_iload_n (pc := 65) hC 1 dX3_readItem_65 rfl rfl ?_
    refine r_bipush (pc := 66) hC dX3_readItem_66 ⟨rfl, rng_lit rfl⟩ ?_
    refine r_ic_gt (pc := 68) (tgt := 90) hC dX3_readItem_68 rfl (fun hc3 => ?_) (fun hc3 => ?_)
    · have h := h.1 hc3
      exact r_to [true, false, false] rfl rfl (S2 h)
    have h := h.2 hc3
    refine r_aload_n (pc := 71) hC 0 dX3_readItem_71 rfl rfl ?_
    refine r_getr (r := 1) (pc := 72) hC dX3_readItem_72 fl_RX3_9 lX_28 rfl ?_
    refine r_aload_n (pc := 75) hC 0 dX3_readItem_75 rfl rfl ?_
    refine r_get (kd := 0) (v := rd_at_3) (pc := 76) hC dX3_readItem_76 fl_RX3_19 lX_28 rfl rfl ?_
    refine r_iconst (pc := 79) hC dX3_readItem_79 (rng_lit rfl) ?_
    refine r_iadd (pc := 80) hC dX3_readItem_80 h.1 ?_
    have h := h.2
    refine r_callVi (pc := 81) hC [aI (rd_at_3 + 1)] [] dX3_readItem_81 ml_RX3_55 my_X6_at mi_X6_at lX_1 rfl rfl ⟨Nat.le_of_ble_eq_true rfl, Nat.le_of_ble_eq_true rfl⟩ ⟨Nat.le_of_ble_eq_true rfl, Nat.le_of_ble_eq_true rfl⟩ (Nat.le_of_ble_eq_true rfl) rfl (s_Tape_at l _ _ _ h) (fun r5 w1 hq => ?_)
    obtain ⟨e9, h⟩ := hq
    rw [e9]
    refine r_callSNi (pc := 84) hC [aI r5] [] dX3_readItem_84 nl_RX3_58 my_X9_isDigit ms_X9_isDigit rfl ⟨Nat.le_of_ble_eq_true rfl, Nat.le_of_ble_eq_true rfl⟩ ⟨Nat.le_of_ble_eq_true rfl, Nat.le_of_ble_eq_true rfl⟩ (Nat.le_of_ble_eq_true rfl) rfl (s_Picker_isDigit l _ _ _ h) (fun r6 w1 hq => ?_)
    obtain ⟨e9, h⟩ := hq
    rw [e9]
    refine r_if_eq (pc := 87) (tgt := 99) hC dX3_readItem_87 rfl (fun hc2 => ?_) (fun hc2 => ?_)
    · have h := h.1 hc2
      refine r_aload_n (pc := 99) hC 0 dX3_readItem_99 rfl rfl ?_
      refine r_dup (pc := 100) hC dX3_readItem_100 rfl ?_
      refine r_get (kd := 0) (v := rd_at_3) (pc := 101) hC dX3_readItem_101 fl_RX3_19 lX_28 rfl rfl ?_
      refine r_iconst (pc := 104) hC dX3_readItem_104 (rng_lit rfl) ?_
      refine r_iadd (pc := 105) hC dX3_readItem_105 h.1 ?_
      have h := h.2
      refine r_put (kd := 0) (pc := 106) hC dX3_readItem_106 pl_RX3_19 lX_28 rfl (by decide) (Or.inl rfl) ?_
      refine r_aload_n (pc := 109) hC 0 dX3_readItem_109 rfl rfl ?_
      refine r_callVv (pc := 110) hC [] [] dX3_readItem_110 ml_RX3_31 my_X3_skipBlanks mi_X3_skipBlanks lX_28 rfl rfl ⟨Nat.le_of_ble_eq_true rfl, Nat.le_of_ble_eq_true rfl⟩ ⟨Nat.le_of_ble_eq_true rfl, Nat.le_of_ble_eq_true rfl⟩ (Nat.le_of_ble_eq_true rfl) rfl (s_Reader_skipBlanks l _ _ h) (fun w1 hq => ?_)
      obtain ⟨rd_at_7, e9, h⟩ := hq
      rw [e9]
      refine r_aload_n (pc := 113) hC 0 dX3_readItem_113 rfl rfl ?_
      refine r_ldcs (j := 1) (pc := 114) hC dX3_readItem_114 rfl ⟨rfl, rfl⟩ ?_
      refine r_callVi (pc := 116) hC [aR (10000 + 1)] [] dX3_readItem_116 ml_RX3_47 my_X3_isWordHere mi_X3_isWordHere lX_28 rfl rfl ⟨Nat.le_of_ble_eq_true rfl, Nat.le_of_ble_eq_true rfl⟩ ⟨Nat.le_of_ble_eq_true rfl, Nat.le_of_ble_eq_true rfl⟩ (Nat.le_of_ble_eq_true rfl) rfl (s_Reader_isWordHere l _ _ _ h) (fun r8 w1 hq => ?_)
      obtain ⟨e9, h⟩ := hq
      rw [e9]
      refine r_istore_n (ls2 := [some (aR 28), some (aI r4), some (aI r8)]) (pc := 119) hC 2 dX3_readItem_119 rfl (by decide) rfl rfl ?_
      refine r_iload_n (pc := 120) hC 2 dX3_readItem_120 rfl rfl ?_
      obtain ⟨J3, hJ3, h⟩ := h
      have S3 : ∀ (rd_at_9 : Int), J3 rd_at_9 → Wd p l e (rmD 5) s m args below meth c Q 0 0 3 D cA ad A LX (wI w 28 2 rd_at_9) 137 [some (aR 28), some (aI r4), some (aI r8)] [] := by
        intro rd_at_9 hj
        have h := hJ3 rd_at_9 hj
        refine r_aload_n (pc := 137) hC 0 dX3_readItem_137 rfl rfl ?_
        refine r_getr (r := 23) (pc := 138) hC dX3_readItem_138 fl_RX3_15 lX_28 rfl ?_
        refine r_iload_n (pc := 141) hC 1 dX3_readItem_141 rfl rfl ?_
        refine r_bipush (pc := 142) hC dX3_readItem_142 ⟨rfl, rng_lit rfl⟩ ?_
        refine r_isub (pc := 144) hC dX3_readItem_144 h.1 ?_
        have h := h.2
        refine r_iload_n (pc := 145) hC 2 dX3_readItem_145 rfl rfl ?_
        refine r_callVv (pc := 146) hC [aI (r4 - 48), aI r8] [] dX3_readItem_146 ml_RX3_64 my_X2_addItem mi_X2_addItem lX_23 rfl rfl ⟨Nat.le_of_ble_eq_true rfl, Nat.le_of_ble_eq_true rfl⟩ ⟨Nat.le_of_ble_eq_true rfl, Nat.le_of_ble_eq_true rfl⟩ (Nat.le_of_ble_eq_true rfl) rfl (s_Query_addItem l _ _ _ _ h) (fun w1 hq => ?_)
        obtain ⟨dr_weights_10, dr_termCounts_11, dr_softItems_12, dr_items_13, e9, h⟩ := hq
        rw [e9]
        refine r_aload_n (pc := 149) hC 0 dX3_readItem_149 rfl rfl ?_
        refine r_callVv (pc := 150) hC [] [] dX3_readItem_150 ml_RX3_68 my_X3_readTerms mi_X3_readTerms lX_28 rfl rfl ⟨Nat.le_of_ble_eq_true rfl, Nat.le_of_ble_eq_true rfl⟩ ⟨Nat.le_of_ble_eq_true rfl, Nat.le_of_ble_eq_true rfl⟩ (Nat.le_of_ble_eq_true rfl) rfl (s_Reader_readTerms l _ _ h) (fun w1 hq => ?_)
        obtain ⟨dr_termCounts_14, dr_termSizes_15, dr_letters_16, dr_starredTerms_17, rd_at_18, rd_fault_19, e9, h⟩ := hq
        rw [e9]
        refine r_conv (w2 := (wI (wI (wI (wI (wI (wA (wA (wA (wA w 24 dr_weights_10) 25 dr_termCounts_14) 26 dr_termSizes_15) 27 dr_letters_16) 23 4 dr_starredTerms_17) 23 5 dr_softItems_12) 23 6 dr_items_13) 28 2 rd_at_18) 28 3 rd_fault_19)) rfl ?_
        exact r_retv (pc := 153) hC hQ dX3_readItem_153 hr hk ⟨dr_weights_10, dr_termCounts_14, dr_termSizes_15, dr_letters_16, dr_starredTerms_17, dr_softItems_12, dr_items_13, rd_at_18, rd_fault_19, rfl, h⟩
      refine r_if_eq (pc := 121) (tgt := 137) hC dX3_readItem_121 rfl (fun hc1 => ?_) (fun hc1 => ?_)
      · have h := h.1 hc1
        exact r_to [true, true, true] rfl rfl (S3 rd_at_7 h)
      have h := h.2 hc1
      refine r_aload_n (pc := 124) hC 0 dX3_readItem_124 rfl rfl ?_
      refine r_dup (pc := 125) hC dX3_readItem_125 rfl ?_
      refine r_get (kd := 0) (v := rd_at_7) (pc := 126) hC dX3_readItem_126 fl_RX3_19 lX_28 rfl rfl ?_
      refine r_aload_n (pc := 129) hC 0 dX3_readItem_129 rfl rfl ?_
      refine r_callVi (pc := 130) hC [] [aI rd_at_7, aR 28] dX3_readItem_130 ml_RX3_51 my_X3_lettersHere mi_X3_lettersHere lX_28 rfl rfl ⟨Nat.le_of_ble_eq_true rfl, Nat.le_of_ble_eq_true rfl⟩ ⟨Nat.le_of_ble_eq_true rfl, Nat.le_of_ble_eq_true rfl⟩ (Nat.le_of_ble_eq_true rfl) rfl (s_Reader_lettersHere l _ _ h) (fun r20 w1 hq => ?_)
      obtain ⟨e9, h⟩ := hq
      rw [e9]
      refine r_iadd (pc := 133) hC dX3_readItem_133 h.1 ?_
      have h := h.2
      refine r_put (kd := 0) (pc := 134) hC dX3_readItem_134 pl_RX3_19 lX_28 rfl (by decide) (Or.inl rfl) ?_
      exact r_to [true, true, true] rfl rfl (S3 (rd_at_7 + r20) h)
    have h := h.2 hc2
    exact r_to [true, false, false] rfl rfl (S2 h)
  have h := h.2 hc5
  exact r_to [true, false, false] rfl rfl (S1 h)
def wp_Reader_readAll (tp_bytes : (Nat → Int)) (dr_weights : (Nat → Int)) (dr_termCounts : (Nat → Int)) (dr_termSizes : (Nat → Int)) (dr_letters : (Nat → Int)) (tp_length : Int) (dr_starredTerms : Int) (dr_softItems : Int) (dr_items : Int) (rd_at : Int) (rd_fault : Int) (Q : Int → (Nat → Int) → (Nat → Int) → (Nat → Int) → (Nat → Int) → Int → Int → Int → Int → Int → Prop) : Prop := wp_Query_clear dr_starredTerms dr_softItems dr_items (fun (dr_starredTerms_1 : Int) (dr_softItems_2 : Int) (dr_items_3 : Int) => wp_Reader_skipBlanks tp_bytes tp_length 0 (fun (rd_at_4 : Int) => lpw10 (fun (dr_weights_5 : (Nat → Int)) (dr_termCounts_6 : (Nat → Int)) (dr_termSizes_7 : (Nat → Int)) (dr_letters_8 : (Nat → Int)) (dr_starredTerms_9 : Int) (dr_softItems_10 : Int) (dr_items_11 : Int) (rd_at_12 : Int) (rd_fault_13 : Int) (x14 : Int) (k1 : (Nat → Int) → (Nat → Int) → (Nat → Int) → (Nat → Int) → Int → Int → Int → Int → Int → Int → Prop) => (8 < x14 → Q rd_fault_13 dr_weights_5 dr_termCounts_6 dr_termSizes_7 dr_letters_8 dr_starredTerms_9 dr_softItems_10 dr_items_11 rd_at_12 rd_fault_13) ∧ (¬ 8 < x14 → (tp_length ≤ rd_at_12 → Q rd_fault_13 dr_weights_5 dr_termCounts_6 dr_termSizes_7 dr_letters_8 dr_starredTerms_9 dr_softItems_10 dr_items_11 rd_at_12 rd_fault_13) ∧ (¬ tp_length ≤ rd_at_12 → (¬ rd_fault_13 = (-1) → Q rd_fault_13 dr_weights_5 dr_termCounts_6 dr_termSizes_7 dr_letters_8 dr_starredTerms_9 dr_softItems_10 dr_items_11 rd_at_12 rd_fault_13) ∧ (rd_fault_13 = (-1) → wp_Reader_readItem tp_bytes dr_weights_5 dr_termCounts_6 dr_termSizes_7 dr_letters_8 tp_length dr_starredTerms_9 dr_softItems_10 dr_items_11 rd_at_12 rd_fault_13 (fun (dr_weights_15 : (Nat → Int)) (dr_termCounts_16 : (Nat → Int)) (dr_termSizes_17 : (Nat → Int)) (dr_letters_18 : (Nat → Int)) (dr_starredTerms_19 : Int) (dr_softItems_20 : Int) (dr_items_21 : Int) (rd_at_22 : Int) (rd_fault_23 : Int) => wp_Reader_skipBlanks tp_bytes tp_length rd_at_22 (fun (rd_at_24 : Int) => (rng (x14 + 1)) ∧ (k1 dr_weights_15 dr_termCounts_16 dr_termSizes_17 dr_letters_18 dr_starredTerms_19 dr_softItems_20 dr_items_21 rd_at_24 rd_fault_23 (x14 + 1)))))))) dr_weights dr_termCounts dr_termSizes dr_letters dr_starredTerms_1 dr_softItems_2 dr_items_3 rd_at_4 (-1) 0))
set_option maxHeartbeats 4000000 in
set_option maxRecDepth 20000 in
theorem s_Reader_readAll (l : Launch) (w : St) (P : Int → (Nat → Int) → (Nat → Int) → (Nat → Int) → (Nat → Int) → Int → Int → Int → Int → Int → Prop) (h : wp_Reader_readAll (w.1 2) (w.1 24) (w.1 25) (w.1 26) (w.1 27) (w.1 1 1) (w.1 23 4) (w.1 23 5) (w.1 23 6) (w.1 28 2) (w.1 28 3) P) : Cn l yX3_readAll cX3_readAll 2 (some .int) 6 LX w [aR 28] (okI (fun r w1 => ∃ (o0 : (Nat → Int)) (o1 : (Nat → Int)) (o2 : (Nat → Int)) (o3 : (Nat → Int)) (o4 : Int) (o5 : Int) (o6 : Int) (o7 : Int) (o8 : Int), w1 = (wI (wI (wI (wI (wI (wA (wA (wA (wA w 24 o0) 25 o1) 26 o2) 27 o3) 23 4 o4) 23 5 o5) 23 6 o6) 28 2 o7) 28 3 o8) ∧ P r o0 o1 o2 o3 o4 o5 o6 o7 o8)) := by
  unfold wp_Reader_readAll at h
  refine Cn.of2 [some (aR 28), none] (by decide) (Nat.le_of_ble_eq_true rfl) rfl (fun p e s m args below meth c D cA ad A Q hQ hC hr hk => ?_)
  refine r_aload_n (pc := 0) hC 0 dX3_readAll_0 rfl rfl ?_
  refine r_iconst (pc := 1) hC dX3_readAll_1 (rng_lit rfl) ?_
  refine r_put (kd := 0) (pc := 2) hC dX3_readAll_2 pl_RX3_19 lX_28 rfl (by decide) (Or.inl rfl) ?_
  refine r_aload_n (pc := 5) hC 0 dX3_readAll_5 rfl rfl ?_
  refine r_iconst (pc := 6) hC dX3_readAll_6 (rng_lit rfl) ?_
  refine r_put (kd := 0) (pc := 7) hC dX3_readAll_7 pl_RX3_23 lX_28 rfl (by decide) (Or.inl rfl) ?_
  refine r_aload_n (pc := 10) hC 0 dX3_readAll_10 rfl rfl ?_
  refine r_getr (r := 23) (pc := 11) hC dX3_readAll_11 fl_RX3_15 lX_28 rfl ?_
  refine r_callVv (pc := 14) hC [] [] dX3_readAll_14 ml_RX3_26 my_X2_clear mi_X2_clear lX_23 rfl rfl ⟨Nat.le_of_ble_eq_true rfl, Nat.le_of_ble_eq_true rfl⟩ ⟨Nat.le_of_ble_eq_true rfl, Nat.le_of_ble_eq_true rfl⟩ (Nat.le_of_ble_eq_true rfl) rfl (s_Query_clear l _ _ h) (fun w1 hq => ?_)
  obtain ⟨dr_starredTerms_1, dr_softItems_2, dr_items_3, e9, h⟩ := hq
  rw [e9]
  refine r_aload_n (pc := 17) hC 0 dX3_readAll_17 rfl rfl ?_
  refine r_callVv (pc := 18) hC [] [] dX3_readAll_18 ml_RX3_31 my_X3_skipBlanks mi_X3_skipBlanks lX_28 rfl rfl ⟨Nat.le_of_ble_eq_true rfl, Nat.le_of_ble_eq_true rfl⟩ ⟨Nat.le_of_ble_eq_true rfl, Nat.le_of_ble_eq_true rfl⟩ (Nat.le_of_ble_eq_true rfl) rfl (s_Reader_skipBlanks l _ _ h) (fun w1 hq => ?_)
  obtain ⟨rd_at_4, e9, h⟩ := hq
  rw [e9]
  refine r_iconst (pc := 21) hC dX3_readAll_21 (rng_lit rfl) ?_
  refine r_istore_n (ls2 := [some (aR 28), some (aI 0)]) (pc := 22) hC 1 dX3_readAll_22 rfl (by decide) rfl rfl ?_
  obtain ⟨I1, μ1, hI1, hB1⟩ := h
  have S1 : ∀ (nn : Nat) (dr_weights_5 : (Nat → Int)) (dr_termCounts_6 : (Nat → Int)) (dr_termSizes_7 : (Nat → Int)) (dr_letters_8 : (Nat → Int)) (dr_starredTerms_9 : Int) (dr_softItems_10 : Int) (dr_items_11 : Int) (rd_at_12 : Int) (rd_fault_13 : Int) (x14 : Int), μ1 dr_weights_5 dr_termCounts_6 dr_termSizes_7 dr_letters_8 dr_starredTerms_9 dr_softItems_10 dr_items_11 rd_at_12 rd_fault_13 x14 < nn → I1 dr_weights_5 dr_termCounts_6 dr_termSizes_7 dr_letters_8 dr_starredTerms_9 dr_softItems_10 dr_items_11 rd_at_12 rd_fault_13 x14 → Wd p l e (rmD 6) s m args below meth c Q 0 0 2 D cA ad A LX (wI (wI (wI (wI (wI (wA (wA (wA (wA w 24 dr_weights_5) 25 dr_termCounts_6) 26 dr_termSizes_7) 27 dr_letters_8) 23 4 dr_starredTerms_9) 23 5 dr_softItems_10) 23 6 dr_items_11) 28 2 rd_at_12) 28 3 rd_fault_13) 23 [some (aR 28), some (aI x14)] [] := by
    intro nn
    induction nn with
    | zero => intro dr_weights_5 dr_termCounts_6 dr_termSizes_7 dr_letters_8 dr_starredTerms_9 dr_softItems_10 dr_items_11 rd_at_12 rd_fault_13 x14 hn; exact absurd hn (Nat.not_lt_zero _)
    | succ nn ih1 =>
      intro dr_weights_5 dr_termCounts_6 dr_termSizes_7 dr_letters_8 dr_starredTerms_9 dr_softItems_10 dr_items_11 rd_at_12 rd_fault_13 x14 hn1 hi
      have h := hB1 dr_weights_5 dr_termCounts_6 dr_termSizes_7 dr_letters_8 dr_starredTerms_9 dr_softItems_10 dr_items_11 rd_at_12 rd_fault_13 x14 hi
      refine r_iload_n (pc := 23) hC 1 dX3_readAll_23 rfl rfl ?_
      refine r_bipush (pc := 24) hC dX3_readAll_24 ⟨rfl, rng_lit rfl⟩ ?_
      refine r_ic_gt (pc := 26) (tgt := 65) hC dX3_readAll_26 rfl (fun hc3 => ?_) (fun hc3 => ?_)
      · have h := h.1 hc3
        refine r_aload_n (pc := 65) hC 0 dX3_readAll_65 rfl rfl ?_
        refine r_get (kd := 0) (v := rd_fault_13) (pc := 66) hC dX3_readAll_66 fl_RX3_23 lX_28 rfl rfl ?_
        refine r_conv (w2 := (wI (wI (wI (wI (wI (wA (wA (wA (wA w 24 dr_weights_5) 25 dr_termCounts_6) 26 dr_termSizes_7) 27 dr_letters_8) 23 4 dr_starredTerms_9) 23 5 dr_softItems_10) 23 6 dr_items_11) 28 2 rd_at_12) 28 3 rd_fault_13)) rfl ?_
        exact r_reti (pc := 69) (kd := 0) hC hQ dX3_readAll_69 hr hk (by decide) (Or.inl rfl) ⟨dr_weights_5, dr_termCounts_6, dr_termSizes_7, dr_letters_8, dr_starredTerms_9, dr_softItems_10, dr_items_11, rd_at_12, rd_fault_13, rfl, h⟩
      have h := h.2 hc3
      refine r_aload_n (pc := 29) hC 0 dX3_readAll_29 rfl rfl ?_
      refine r_get (kd := 0) (v := rd_at_12) (pc := 30) hC dX3_readAll_30 fl_RX3_19 lX_28 rfl rfl ?_
      refine r_aload_n (pc := 33) hC 0 dX3_readAll_33 rfl rfl ?_
      refine r_getr (r := 1) (pc := 34) hC dX3_readAll_34 fl_RX3_9 lX_28 rfl ?_
      refine r_get (kd := 0) (v := (w.1 1 1)) (pc := 37) hC dX3_readAll_37 fl_RX3_34 lX_1 rfl rfl ?_
      refine r_ic_ge (pc := 40) (tgt := 65) hC dX3_readAll_40 rfl (fun hc2 => ?_) (fun hc2 => ?_)
      · have h := h.1 hc2
        refine r_aload_n (pc := 65) hC 0 dX3_readAll_65 rfl rfl ?_
        refine r_get (kd := 0) (v := rd_fault_13) (pc := 66) hC dX3_readAll_66 fl_RX3_23 lX_28 rfl rfl ?_
        refine r_conv (w2 := (wI (wI (wI (wI (wI (wA (wA (wA (wA w 24 dr_weights_5) 25 dr_termCounts_6) 26 dr_termSizes_7) 27 dr_letters_8) 23 4 dr_starredTerms_9) 23 5 dr_softItems_10) 23 6 dr_items_11) 28 2 rd_at_12) 28 3 rd_fault_13)) rfl ?_
        exact r_reti (pc := 69) (kd := 0) hC hQ dX3_readAll_69 hr hk (by decide) (Or.inl rfl) ⟨dr_weights_5, dr_termCounts_6, dr_termSizes_7, dr_letters_8, dr_starredTerms_9, dr_softItems_10, dr_items_11, rd_at_12, rd_fault_13, rfl, h⟩
      have h := h.2 hc2
      refine r_aload_n (pc := 43) hC 0 dX3_readAll_43 rfl rfl ?_
      refine r_get (kd := 0) (v := rd_fault_13) (pc := 44) hC dX3_readAll_44 fl_RX3_23 lX_28 rfl rfl ?_
      refine r_iconst (pc := 47) hC dX3_readAll_47 (rng_lit rfl) ?_
      refine r_ic_ne (pc := 48) (tgt := 65) hC dX3_readAll_48 rfl (fun hc1 => ?_) (fun hc1 => ?_)
      · have h := h.1 hc1
        refine r_aload_n (pc := 65) hC 0 dX3_readAll_65 rfl rfl ?_
        refine r_get (kd := 0) (v := rd_fault_13) (pc := 66) hC dX3_readAll_66 fl_RX3_23 lX_28 rfl rfl ?_
        refine r_conv (w2 := (wI (wI (wI (wI (wI (wA (wA (wA (wA w 24 dr_weights_5) 25 dr_termCounts_6) 26 dr_termSizes_7) 27 dr_letters_8) 23 4 dr_starredTerms_9) 23 5 dr_softItems_10) 23 6 dr_items_11) 28 2 rd_at_12) 28 3 rd_fault_13)) rfl ?_
        exact r_reti (pc := 69) (kd := 0) hC hQ dX3_readAll_69 hr hk (by decide) (Or.inl rfl) ⟨dr_weights_5, dr_termCounts_6, dr_termSizes_7, dr_letters_8, dr_starredTerms_9, dr_softItems_10, dr_items_11, rd_at_12, rd_fault_13, rfl, h⟩
      have h := h.2 hc1
      refine r_aload_n (pc := 51) hC 0 dX3_readAll_51 rfl rfl ?_
      refine r_callVv (pc := 52) hC [] [] dX3_readAll_52 ml_RX3_39 my_X3_readItem mi_X3_readItem lX_28 rfl rfl ⟨Nat.le_of_ble_eq_true rfl, Nat.le_of_ble_eq_true rfl⟩ ⟨Nat.le_of_ble_eq_true rfl, Nat.le_of_ble_eq_true rfl⟩ (Nat.le_of_ble_eq_true rfl) rfl (s_Reader_readItem l _ _ h) (fun w1 hq => ?_)
      obtain ⟨dr_weights_15, dr_termCounts_16, dr_termSizes_17, dr_letters_18, dr_starredTerms_19, dr_softItems_20, dr_items_21, rd_at_22, rd_fault_23, e9, h⟩ := hq
      rw [e9]
      refine r_aload_n (pc := 55) hC 0 dX3_readAll_55 rfl rfl ?_
      refine r_callVv (pc := 56) hC [] [] dX3_readAll_56 ml_RX3_31 my_X3_skipBlanks mi_X3_skipBlanks lX_28 rfl rfl ⟨Nat.le_of_ble_eq_true rfl, Nat.le_of_ble_eq_true rfl⟩ ⟨Nat.le_of_ble_eq_true rfl, Nat.le_of_ble_eq_true rfl⟩ (Nat.le_of_ble_eq_true rfl) rfl (s_Reader_skipBlanks l _ _ h) (fun w1 hq => ?_)
      obtain ⟨rd_at_24, e9, h⟩ := hq
      rw [e9]
      refine r_iinc (ls2 := [some (aR 28), some (aI (x14 + 1))]) (pc := 59) hC dX3_readAll_59 rfl (by decide) rfl h.1 rfl ?_
      have h := h.2
      refine r_goto (tgt := 23) (pc := 62) hC dX3_readAll_62 rfl ?_
      exact r_to [true, true] rfl rfl (ih1 dr_weights_15 dr_termCounts_16 dr_termSizes_17 dr_letters_18 dr_starredTerms_19 dr_softItems_20 dr_items_21 rd_at_24 rd_fault_23 (x14 + 1) (Nat.lt_of_lt_of_le h.2 (Nat.le_of_lt_succ hn1)) h.1)
  exact r_to [true, true] rfl rfl (S1 _ (w.1 24) (w.1 25) (w.1 26) (w.1 27) dr_starredTerms_1 dr_softItems_2 dr_items_3 rd_at_4 (-1) 0 (Nat.lt_succ_self _) hI1)
