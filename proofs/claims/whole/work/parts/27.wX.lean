def wp_Writer_begin (wr_layers : (Nat → Int)) (wr_length : Int) (wr_strongBegun : Int) (wr_softBegun : Int) (Q : (Nat → Int) → Int → Int → Int → Prop) : Prop := wp_JA_fill_42 wr_layers 0 (fun (wr_layers_1 : (Nat → Int)) => Q wr_layers_1 0 0 0)
set_option maxHeartbeats 4000000 in
set_option maxRecDepth 20000 in
theorem s_Writer_begin (l : Launch) (w : St) (P : (Nat → Int) → Int → Int → Int → Prop) (h : wp_Writer_begin (w.1 42) (w.1 41 6) (w.1 41 7) (w.1 41 8) P) : Cn l yX8_begin cX8_begin 1 none 1 LX w [aR 41] (okV (fun w1 => ∃ (o0 : (Nat → Int)) (o1 : Int) (o2 : Int) (o3 : Int), w1 = (wI (wI (wI (wA w 42 o0) 41 6 o1) 41 7 o2) 41 8 o3) ∧ P o0 o1 o2 o3)) := by
  unfold wp_Writer_begin at h
  refine Cn.of2 [some (aR 41)] (by decide) (Nat.le_of_ble_eq_true rfl) rfl (fun p e s m args below meth c D cA ad A Q hQ hC hr hk => ?_)
  refine r_aload_n (pc := 0) hC 0 dX8_begin_0 rfl rfl ?_
  refine r_iconst (pc := 1) hC dX8_begin_1 (rng_lit rfl) ?_
  refine r_put (kd := 0) (pc := 2) hC dX8_begin_2 pl_RX8_34 lX_41 rfl (by decide) (Or.inl rfl) ?_
  refine r_aload_n (pc := 5) hC 0 dX8_begin_5 rfl rfl ?_
  refine r_iconst (pc := 6) hC dX8_begin_6 (rng_lit rfl) ?_
  refine r_put (kd := 0) (pc := 7) hC dX8_begin_7 pl_RX8_38 lX_41 rfl (by decide) (Or.inl rfl) ?_
  refine r_aload_n (pc := 10) hC 0 dX8_begin_10 rfl rfl ?_
  refine r_iconst (pc := 11) hC dX8_begin_11 (rng_lit rfl) ?_
  refine r_put (kd := 0) (pc := 12) hC dX8_begin_12 pl_RX8_41 lX_41 rfl (by decide) (Or.inl rfl) ?_
  refine r_aload_n (pc := 15) hC 0 dX8_begin_15 rfl rfl ?_
  refine r_getr (r := 42) (pc := 16) hC dX8_begin_16 fl_RX8_9 lX_41 rfl ?_
  refine r_iconst (pc := 19) hC dX8_begin_19 (rng_lit rfl) ?_
  refine r_callSv (pc := 20) hC [aR 42, aI 0] [] dX8_begin_20 ml_RX8_44 my_J7_fill_53178 ms_J7_fill_53178 rfl ⟨Nat.le_of_ble_eq_true rfl, Nat.le_of_ble_eq_true rfl⟩ ⟨Nat.le_of_ble_eq_true rfl, Nat.le_of_ble_eq_true rfl⟩ (Nat.le_of_ble_eq_true rfl) rfl (s_JA_fill_42 l _ _ _ h) (fun w1 hq => ?_)
  obtain ⟨wr_layers_1, e9, h⟩ := hq
  rw [e9]
  refine r_conv (w2 := (wI (wI (wI (wA w 42 wr_layers_1) 41 6 0) 41 7 0) 41 8 0)) rfl ?_
  exact r_retv (pc := 23) hC hQ dX8_begin_23 hr hk ⟨wr_layers_1, 0, 0, 0, rfl, h⟩
def wp_Writer_layOver (wr_layers : (Nat → Int)) (a1 : Int) (a2 : Int) (a3 : Int) (Q : (Nat → Int) → Prop) : Prop := lpw2 (fun (wr_layers_1 : (Nat → Int)) (x2 : Int) (k1 : (Nat → Int) → Int → Prop) => (a2 ≤ x2 → Q wr_layers_1) ∧ (¬ a2 ≤ x2 → (0 ≤ x2 ∧ x2 < 600) ∧ ((0 ≤ x2 ∧ x2 < 600) ∧ ((rng (x2 + 1)) ∧ (k1 (uI wr_layers_1 x2 (iOr (wr_layers_1 (Int.toNat x2)) a3)) (x2 + 1)))))) wr_layers a1
set_option maxHeartbeats 4000000 in
set_option maxRecDepth 20000 in
theorem s_Writer_layOver (l : Launch) (w : St) (a1 : Int) (a2 : Int) (a3 : Int) (P : (Nat → Int) → Prop) (h : wp_Writer_layOver (w.1 42) a1 a2 a3 P) : Cn l yX8_layOver cX8_layOver 5 none 0 LX w [aR 41, aI a1, aI a2, aI a3] (okV (fun w1 => ∃ (o0 : (Nat → Int)), w1 = (wA w 42 o0) ∧ P o0)) := by
  unfold wp_Writer_layOver at h
  refine Cn.of2 [some (aR 41), some (aI a1), some (aI a2), some (aI a3), none] (by decide) (Nat.le_of_ble_eq_true rfl) rfl (fun p e s m args below meth c D cA ad A Q hQ hC hr hk => ?_)
  refine r_iload_n (pc := 0) hC 1 dX8_layOver_0 rfl rfl ?_
  refine r_istore (ls2 := [some (aR 41), some (aI a1), some (aI a2), some (aI a3), some (aI a1)]) (pc := 1) hC dX8_layOver_1 (by decide) rfl rfl ?_
  obtain ⟨I1, μ1, hI1, hB1⟩ := h
  have S1 : ∀ (nn : Nat) (wr_layers_1 : (Nat → Int)) (x2 : Int), μ1 wr_layers_1 x2 < nn → I1 wr_layers_1 x2 → Wd p l e (rmD 0) s m args below meth c Q 0 0 5 D cA ad A LX (wA w 42 wr_layers_1) 3 [some (aR 41), none, some (aI a2), some (aI a3), some (aI x2)] [] := by
    intro nn
    induction nn with
    | zero => intro wr_layers_1 x2 hn; exact absurd hn (Nat.not_lt_zero _)
    | succ nn ih1 =>
      intro wr_layers_1 x2 hn1 hi
      have h := hB1 wr_layers_1 x2 hi
      refine r_iload (pc := 3) hC dX8_layOver_3 rfl ?_
      refine r_iload_n (pc := 5) hC 2 dX8_layOver_5 rfl rfl ?_
      refine r_ic_ge (pc := 6) (tgt := 26) hC dX8_layOver_6 rfl (fun hc1 => ?_) (fun hc1 => ?_)
      · have h := h.1 hc1
        refine r_conv (w2 := (wA w 42 wr_layers_1)) rfl ?_
        exact r_retv (pc := 26) hC hQ dX8_layOver_26 hr hk ⟨wr_layers_1, rfl, h⟩
      have h := h.2 hc1
      refine r_aload_n (pc := 9) hC 0 dX8_layOver_9 rfl rfl ?_
      refine r_getr (r := 42) (pc := 10) hC dX8_layOver_10 fl_RX8_9 lX_41 rfl ?_
      refine r_iload (pc := 13) hC dX8_layOver_13 rfl ?_
      refine r_dup2 (pc := 15) hC dX8_layOver_15 rfl rfl ?_
      refine r_iald (v := (wr_layers_1 (Int.toNat x2))) (pc := 16) hC dX8_layOver_16 lX_42 h.1.1 h.1.2 rfl ?_
      have h := h.2
      refine r_iload_n (pc := 17) hC 3 dX8_layOver_17 rfl rfl ?_
      refine r_ior (pc := 18) hC dX8_layOver_18 ?_
      refine r_iast (pc := 19) hC dX8_layOver_19 lX_42 h.1.1 h.1.2 ?_
      have h := h.2
      refine r_iinc (ls2 := [some (aR 41), none, some (aI a2), some (aI a3), some (aI (x2 + 1))]) (pc := 20) hC dX8_layOver_20 rfl (by decide) rfl h.1 rfl ?_
      have h := h.2
      refine r_goto (tgt := 3) (pc := 23) hC dX8_layOver_23 rfl ?_
      exact r_to [true, false, true, true, true] rfl rfl (ih1 (uI wr_layers_1 x2 (iOr (wr_layers_1 (Int.toNat x2)) a3)) (x2 + 1) (Nat.lt_of_lt_of_le h.2 (Nat.le_of_lt_succ hn1)) h.1)
  exact r_to [true, false, true, true, true] rfl rfl (S1 _ (w.1 42) a1 (Nat.lt_succ_self _) hI1)
def wp_Writer_layBetween (pg_bytes : (Nat → Int)) (pg_wordBegin : (Nat → Int)) (pg_wordEnd : (Nat → Int)) (pg_wordSentence : (Nat → Int)) (wr_layers : (Nat → Int)) (pg_length : Int) (a1 : Int) (Q : (Nat → Int) → Prop) : Prop := (0 ≤ a1 ∧ a1 < 100) ∧ ((rng (a1 + 1)) ∧ ((0 ≤ (a1 + 1) ∧ (a1 + 1) < 100) ∧ ((0 ≤ a1 ∧ a1 < 100) ∧ ((rng (a1 + 1)) ∧ ((0 ≤ (a1 + 1) ∧ (a1 + 1) < 100) ∧ ((¬ (pg_wordSentence (Int.toNat a1)) = (pg_wordSentence (Int.toNat (a1 + 1))) → Q wr_layers) ∧ ((pg_wordSentence (Int.toNat a1)) = (pg_wordSentence (Int.toNat (a1 + 1))) → wp_Page_firstNotBlank pg_bytes pg_length (pg_wordEnd (Int.toNat a1)) (fun (r1 : Int) => (¬ r1 = (pg_wordBegin (Int.toNat (a1 + 1))) → Q wr_layers) ∧ (r1 = (pg_wordBegin (Int.toNat (a1 + 1))) → (rng ((pg_wordEnd (Int.toNat a1)) - 1)) ∧ ((0 ≤ ((pg_wordEnd (Int.toNat a1)) - 1) ∧ ((pg_wordEnd (Int.toNat a1)) - 1) < 600) ∧ ((0 ≤ (pg_wordBegin (Int.toNat (a1 + 1))) ∧ (pg_wordBegin (Int.toNat (a1 + 1))) < 600) ∧ (wp_Writer_layOver wr_layers (pg_wordEnd (Int.toNat a1)) (pg_wordBegin (Int.toNat (a1 + 1))) (iAnd (wr_layers (Int.toNat ((pg_wordEnd (Int.toNat a1)) - 1))) (wr_layers (Int.toNat (pg_wordBegin (Int.toNat (a1 + 1)))))) (fun (wr_layers_2 : (Nat → Int)) => Q wr_layers_2)))))))))))))
set_option maxHeartbeats 4000000 in
set_option maxRecDepth 20000 in
theorem s_Writer_layBetween (l : Launch) (w : St) (a1 : Int) (P : (Nat → Int) → Prop) (h : wp_Writer_layBetween (w.1 4) (w.1 7) (w.1 8) (w.1 9) (w.1 42) (w.1 3 14) a1 P) : Cn l yX8_layBetween cX8_layBetween 4 none 2 LX w [aR 41, aI a1] (okV (fun w1 => ∃ (o0 : (Nat → Int)), w1 = (wA w 42 o0) ∧ P o0)) := by
  unfold wp_Writer_layBetween at h
  refine Cn.of2 [some (aR 41), some (aI a1), none, none] (by decide) (Nat.le_of_ble_eq_true rfl) rfl (fun p e s m args below meth c D cA ad A Q hQ hC hr hk => ?_)
  refine r_aload_n (pc := 0) hC 0 dX8_layBetween_0 rfl rfl ?_
  refine r_getr (r := 3) (pc := 1) hC dX8_layBetween_1 fl_RX8_18 lX_41 rfl ?_
  refine r_getr (r := 8) (pc := 4) hC dX8_layBetween_4 fl_RX8_83 lX_3 rfl ?_
  refine r_iload_n (pc := 7) hC 1 dX8_layBetween_7 rfl rfl ?_
  refine r_iald (v := ((w.1 8) (Int.toNat a1))) (pc := 8) hC dX8_layBetween_8 lX_8 h.1.1 h.1.2 rfl ?_
  have h := h.2
  refine r_istore_n (ls2 := [some (aR 41), some (aI a1), some (aI ((w.1 8) (Int.toNat a1))), none]) (pc := 9) hC 2 dX8_layBetween_9 rfl (by decide) rfl rfl ?_
  refine r_aload_n (pc := 10) hC 0 dX8_layBetween_10 rfl rfl ?_
  refine r_getr (r := 3) (pc := 11) hC dX8_layBetween_11 fl_RX8_18 lX_41 rfl ?_
  refine r_getr (r := 7) (pc := 14) hC dX8_layBetween_14 fl_RX8_80 lX_3 rfl ?_
  refine r_iload_n (pc := 17) hC 1 dX8_layBetween_17 rfl rfl ?_
  refine r_iconst (pc := 18) hC dX8_layBetween_18 (rng_lit rfl) ?_
  refine r_iadd (pc := 19) hC dX8_layBetween_19 h.1 ?_
  have h := h.2
  refine r_iald (v := ((w.1 7) (Int.toNat (a1 + 1)))) (pc := 20) hC dX8_layBetween_20 lX_7 h.1.1 h.1.2 rfl ?_
  have h := h.2
  refine r_istore_n (ls2 := [some (aR 41), some (aI a1), some (aI ((w.1 8) (Int.toNat a1))), some (aI ((w.1 7) (Int.toNat (a1 + 1))))]) (pc := 21) hC 3 dX8_layBetween_21 rfl (by decide) rfl rfl ?_
  refine r_aload_n (pc := 22) hC 0 dX8_layBetween_22 rfl rfl ?_
  refine r_getr (r := 3) (pc := 23) hC dX8_layBetween_23 fl_RX8_18 lX_41 rfl ?_
  refine r_getr (r := 9) (pc := 26) hC dX8_layBetween_26 fl_RX8_156 lX_3 rfl ?_
  refine r_iload_n (pc := 29) hC 1 dX8_layBetween_29 rfl rfl ?_
  refine r_iald (v := ((w.1 9) (Int.toNat a1))) (pc := 30) hC dX8_layBetween_30 lX_9 h.1.1 h.1.2 rfl ?_
  have h := h.2
  refine r_aload_n (pc := 31) hC 0 dX8_layBetween_31 rfl rfl ?_
  refine r_getr (r := 3) (pc := 32) hC dX8_layBetween_32 fl_RX8_18 lX_41 rfl ?_
  refine r_getr (r := 9) (pc := 35) hC dX8_layBetween_35 fl_RX8_156 lX_3 rfl ?_
  refine r_iload_n (pc := 38) hC 1 dX8_layBetween_38 rfl rfl ?_
  refine r_iconst (pc := 39) hC dX8_layBetween_39 (rng_lit rfl) ?_
  refine r_iadd (pc := 40) hC dX8_layBetween_40 h.1 ?_
  have h := h.2
  refine r_iald (v := ((w.1 9) (Int.toNat (a1 + 1)))) (pc := 41) hC dX8_layBetween_41 lX_9 h.1.1 h.1.2 rfl ?_
  have h := h.2
  refine r_ic_ne (pc := 42) (tgt := 78) hC dX8_layBetween_42 rfl (fun hc2 => ?_) (fun hc2 => ?_)
  · have h := h.1 hc2
    refine r_conv (w2 := (wA w 42 (w.1 42))) rfl ?_
    exact r_retv (pc := 78) hC hQ dX8_layBetween_78 hr hk ⟨(w.1 42), rfl, h⟩
  have h := h.2 hc2
  refine r_aload_n (pc := 45) hC 0 dX8_layBetween_45 rfl rfl ?_
  refine r_getr (r := 3) (pc := 46) hC dX8_layBetween_46 fl_RX8_18 lX_41 rfl ?_
  refine r_iload_n (pc := 49) hC 2 dX8_layBetween_49 rfl rfl ?_
  refine r_callVi (pc := 50) hC [aI ((w.1 8) (Int.toNat a1))] [] dX8_layBetween_50 ml_RX8_159 my_X1_firstNotBlank mi_X1_firstNotBlank lX_3 rfl rfl ⟨Nat.le_of_ble_eq_true rfl, Nat.le_of_ble_eq_true rfl⟩ ⟨Nat.le_of_ble_eq_true rfl, Nat.le_of_ble_eq_true rfl⟩ (Nat.le_of_ble_eq_true rfl) rfl (s_Page_firstNotBlank l _ _ _ h) (fun r1 w1 hq => ?_)
  obtain ⟨e9, h⟩ := hq
  rw [e9]
  refine r_iload_n (pc := 53) hC 3 dX8_layBetween_53 rfl rfl ?_
  refine r_ic_ne (pc := 54) (tgt := 78) hC dX8_layBetween_54 rfl (fun hc1 => ?_) (fun hc1 => ?_)
  · have h := h.1 hc1
    refine r_conv (w2 := (wA w 42 (w.1 42))) rfl ?_
    exact r_retv (pc := 78) hC hQ dX8_layBetween_78 hr hk ⟨(w.1 42), rfl, h⟩
  have h := h.2 hc1
  refine r_aload_n (pc := 57) hC 0 dX8_layBetween_57 rfl rfl ?_
  refine r_iload_n (pc := 58) hC 2 dX8_layBetween_58 rfl rfl ?_
  refine r_iload_n (pc := 59) hC 3 dX8_layBetween_59 rfl rfl ?_
  refine r_aload_n (pc := 60) hC 0 dX8_layBetween_60 rfl rfl ?_
  refine r_getr (r := 42) (pc := 61) hC dX8_layBetween_61 fl_RX8_9 lX_41 rfl ?_
  refine r_iload_n (pc := 64) hC 2 dX8_layBetween_64 rfl rfl ?_
  refine r_iconst (pc := 65) hC dX8_layBetween_65 (rng_lit rfl) ?_
  refine r_isub (pc := 66) hC dX8_layBetween_66 h.1 ?_
  have h := h.2
  refine r_iald (v := ((w.1 42) (Int.toNat (((w.1 8) (Int.toNat a1)) - 1)))) (pc := 67) hC dX8_layBetween_67 lX_42 h.1.1 h.1.2 rfl ?_
  have h := h.2
  refine r_aload_n (pc := 68) hC 0 dX8_layBetween_68 rfl rfl ?_
  refine r_getr (r := 42) (pc := 69) hC dX8_layBetween_69 fl_RX8_9 lX_41 rfl ?_
  refine r_iload_n (pc := 72) hC 3 dX8_layBetween_72 rfl rfl ?_
  refine r_iald (v := ((w.1 42) (Int.toNat ((w.1 7) (Int.toNat (a1 + 1)))))) (pc := 73) hC dX8_layBetween_73 lX_42 h.1.1 h.1.2 rfl ?_
  have h := h.2
  refine r_iand (pc := 74) hC dX8_layBetween_74 ?_
  refine r_callVv (pc := 75) hC [aI ((w.1 8) (Int.toNat a1)), aI ((w.1 7) (Int.toNat (a1 + 1))), aI (iAnd ((w.1 42) (Int.toNat (((w.1 8) (Int.toNat a1)) - 1))) ((w.1 42) (Int.toNat ((w.1 7) (Int.toNat (a1 + 1))))))] [] dX8_layBetween_75 ml_RX8_149 my_X8_layOver mi_X8_layOver lX_41 rfl rfl ⟨Nat.le_of_ble_eq_true rfl, Nat.le_of_ble_eq_true rfl⟩ ⟨Nat.le_of_ble_eq_true rfl, Nat.le_of_ble_eq_true rfl⟩ (Nat.le_of_ble_eq_true rfl) rfl (s_Writer_layOver l _ _ _ _ _ h) (fun w1 hq => ?_)
  obtain ⟨wr_layers_2, e9, h⟩ := hq
  rw [e9]
  refine r_conv (w2 := (wA w 42 wr_layers_2)) rfl ?_
  exact r_retv (pc := 78) hC hQ dX8_layBetween_78 hr hk ⟨wr_layers_2, rfl, h⟩
def wp_Writer_layMarks (pg_bytes : (Nat → Int)) (pg_wordBegin : (Nat → Int)) (pg_wordEnd : (Nat → Int)) (pg_wordSentence : (Nat → Int)) (qy_termCounts : (Nat → Int)) (mt_beginning : (Nat → Int)) (wr_layers : (Nat → Int)) (pg_length : Int) (qy_softItems : Int) (qy_items : Int) (a1 : Int) (a2 : Int) (Q : (Nat → Int) → Prop) : Prop := lpw2 (fun (wr_layers_1 : (Nat → Int)) (x2 : Int) (k1 : (Nat → Int) → Int → Prop) => (a2 < x2 → lpw2 (fun (wr_layers_3 : (Nat → Int)) (x4 : Int) (k2 : (Nat → Int) → Int → Prop) => (a2 ≤ x4 → Q wr_layers_3) ∧ (¬ a2 ≤ x4 → wp_Writer_layBetween pg_bytes pg_wordBegin pg_wordEnd pg_wordSentence wr_layers_3 pg_length x4 (fun (wr_layers_5 : (Nat → Int)) => (rng (x4 + 1)) ∧ (k2 wr_layers_5 (x4 + 1))))) wr_layers_1 (max a1 0)) ∧ (¬ a2 < x2 → lpw2 (fun (wr_layers_6 : (Nat → Int)) (x7 : Int) (k3 : (Nat → Int) → Int → Prop) => (qy_items ≤ x7 → (rng (x2 + 1)) ∧ (k1 wr_layers_6 (x2 + 1))) ∧ (¬ qy_items ≤ x7 → (0 ≤ x7 ∧ x7 < 8) ∧ ((rng (x2 + (qy_termCounts (Int.toNat x7)))) ∧ ((rng ((x2 + (qy_termCounts (Int.toNat x7))) - 1)) ∧ ((0 ≤ x2 ∧ x2 < 100) ∧ (wp_Picker_has (mt_beginning (Int.toNat x2)) x7 (fun (r8 : Int) => jn1 (fun (J4 : (Nat → Int) → Prop) => (r8 = 0 → J4 wr_layers_6) ∧ (¬ r8 = 0 → (a2 < ((x2 + (qy_termCounts (Int.toNat x7))) - 1) → J4 wr_layers_6) ∧ (¬ a2 < ((x2 + (qy_termCounts (Int.toNat x7))) - 1) → (0 ≤ x2 ∧ x2 < 100) ∧ ((0 ≤ ((x2 + (qy_termCounts (Int.toNat x7))) - 1) ∧ ((x2 + (qy_termCounts (Int.toNat x7))) - 1) < 100) ∧ (wp_Query_isStrong qy_softItems x7 (fun (r10 : Int) => jn1 (fun (J5 : Int → Prop) => (r10 = 0 → J5 2) ∧ (¬ r10 = 0 → J5 1)) (fun (y11 : Int) => wp_Writer_layOver wr_layers_6 (pg_wordBegin (Int.toNat x2)) (pg_wordEnd (Int.toNat ((x2 + (qy_termCounts (Int.toNat x7))) - 1))) y11 (fun (wr_layers_12 : (Nat → Int)) => J4 wr_layers_12)))))))) (fun (wr_layers_9 : (Nat → Int)) => (rng (x7 + 1)) ∧ (k3 wr_layers_9 (x7 + 1)))))))))) wr_layers_1 0)) wr_layers (max a1 0)
set_option maxHeartbeats 4000000 in
set_option maxRecDepth 20000 in
theorem s_Writer_layMarks (l : Launch) (w : St) (a1 : Int) (a2 : Int) (P : (Nat → Int) → Prop) (h : wp_Writer_layMarks (w.1 4) (w.1 7) (w.1 8) (w.1 9) (w.1 20) (w.1 30) (w.1 42) (w.1 3 14) (w.1 18 5) (w.1 18 6) a1 a2 P) : Cn l yX8_layMarks cX8_layMarks 6 none 3 LX w [aR 41, aI a1, aI a2] (okV (fun w1 => ∃ (o0 : (Nat → Int)), w1 = (wA w 42 o0) ∧ P o0)) := by
  unfold wp_Writer_layMarks at h
  refine Cn.of2 [some (aR 41), some (aI a1), some (aI a2), none, none, none] (by decide) (Nat.le_of_ble_eq_true rfl) rfl (fun p e s m args below meth c D cA ad A Q hQ hC hr hk => ?_)
  refine r_iload_n (pc := 0) hC 1 dX8_layMarks_0 rfl rfl ?_
  refine r_iconst (pc := 1) hC dX8_layMarks_1 (rng_lit rfl) ?_
  refine r_max (pc := 2) hC dX8_layMarks_2 ml_RX8_126 ks_max ks_Math kd_max ⟨Nat.le_of_ble_eq_true rfl, Nat.le_of_ble_eq_true rfl⟩ ⟨Nat.le_of_ble_eq_true rfl, Nat.le_of_ble_eq_true rfl⟩ (Nat.le_of_ble_eq_true rfl) ?_
  refine r_istore_n (ls2 := [some (aR 41), some (aI a1), some (aI a2), some (aI (max a1 0)), none, none]) (pc := 5) hC 3 dX8_layMarks_5 rfl (by decide) rfl rfl ?_
  obtain ⟨I1, μ1, hI1, hB1⟩ := h
  have S1 : ∀ (nn : Nat) (wr_layers_1 : (Nat → Int)) (x2 : Int), μ1 wr_layers_1 x2 < nn → I1 wr_layers_1 x2 → Wd p l e (rmD 3) s m args below meth c Q 0 0 6 D cA ad A LX (wA w 42 wr_layers_1) 6 [some (aR 41), some (aI a1), some (aI a2), some (aI x2), none, none] [] := by
    intro nn
    induction nn with
    | zero => intro wr_layers_1 x2 hn; exact absurd hn (Nat.not_lt_zero _)
    | succ nn ih1 =>
      intro wr_layers_1 x2 hn1 hi
      have h := hB1 wr_layers_1 x2 hi
      refine r_iload_n (pc := 6) hC 3 dX8_layMarks_6 rfl rfl ?_
      refine r_iload_n (pc := 7) hC 2 dX8_layMarks_7 rfl rfl ?_
      refine r_ic_gt (pc := 8) (tgt := 117) hC dX8_layMarks_8 rfl (fun hc6 => ?_) (fun hc6 => ?_)
      · have h := h.1 hc6
        refine r_iload_n (pc := 117) hC 1 dX8_layMarks_117 rfl rfl ?_
        refine r_iconst (pc := 118) hC dX8_layMarks_118 (rng_lit rfl) ?_
        refine r_max (pc := 119) hC dX8_layMarks_119 ml_RX8_126 ks_max ks_Math kd_max ⟨Nat.le_of_ble_eq_true rfl, Nat.le_of_ble_eq_true rfl⟩ ⟨Nat.le_of_ble_eq_true rfl, Nat.le_of_ble_eq_true rfl⟩ (Nat.le_of_ble_eq_true rfl) ?_
        refine r_istore_n (ls2 := [some (aR 41), some (aI a1), some (aI a2), some (aI (max a1 0)), none, none]) (pc := 122) hC 3 dX8_layMarks_122 rfl (by decide) rfl rfl ?_
        obtain ⟨I2, μ2, hI2, hB2⟩ := h
        have S2 : ∀ (nn : Nat) (wr_layers_3 : (Nat → Int)) (x4 : Int), μ2 wr_layers_3 x4 < nn → I2 wr_layers_3 x4 → Wd p l e (rmD 3) s m args below meth c Q 0 0 6 D cA ad A LX (wA w 42 wr_layers_3) 123 [some (aR 41), none, some (aI a2), some (aI x4), none, none] [] := by
          intro nn
          induction nn with
          | zero => intro wr_layers_3 x4 hn; exact absurd hn (Nat.not_lt_zero _)
          | succ nn ih2 =>
            intro wr_layers_3 x4 hn2 hi
            have h := hB2 wr_layers_3 x4 hi
            refine r_iload_n (pc := 123) hC 3 dX8_layMarks_123 rfl rfl ?_
            refine r_iload_n (pc := 124) hC 2 dX8_layMarks_124 rfl rfl ?_
            refine r_ic_ge (pc := 125) (tgt := 139) hC dX8_layMarks_125 rfl (fun hc1 => ?_) (fun hc1 => ?_)
            · have h := h.1 hc1
              refine r_conv (w2 := (wA w 42 wr_layers_3)) rfl ?_
              exact r_retv (pc := 139) hC hQ dX8_layMarks_139 hr hk ⟨wr_layers_3, rfl, h⟩
            have h := h.2 hc1
            refine r_aload_n (pc := 128) hC 0 dX8_layMarks_128 rfl rfl ?_
            refine r_iload_n (pc := 129) hC 3 dX8_layMarks_129 rfl rfl ?_
            refine r_callVv (pc := 130) hC [aI x4] [] dX8_layMarks_130 ml_RX8_152 my_X8_layBetween mi_X8_layBetween lX_41 rfl rfl ⟨Nat.le_of_ble_eq_true rfl, Nat.le_of_ble_eq_true rfl⟩ ⟨Nat.le_of_ble_eq_true rfl, Nat.le_of_ble_eq_true rfl⟩ (Nat.le_of_ble_eq_true rfl) rfl (s_Writer_layBetween l _ _ _ h) (fun w1 hq => ?_)
            obtain ⟨wr_layers_5, e9, h⟩ := hq
            rw [e9]
            refine r_iinc (ls2 := [some (aR 41), none, some (aI a2), some (aI (x4 + 1)), none, none]) (pc := 133) hC dX8_layMarks_133 rfl (by decide) rfl h.1 rfl ?_
            have h := h.2
            refine r_goto (tgt := 123) (pc := 136) hC dX8_layMarks_136 rfl ?_
            exact r_to [true, false, true, true, false, false] rfl rfl (ih2 wr_layers_5 (x4 + 1) (Nat.lt_of_lt_of_le h.2 (Nat.le_of_lt_succ hn2)) h.1)
        exact r_to [true, false, true, true, false, false] rfl rfl (S2 _ wr_layers_1 (max a1 0) (Nat.lt_succ_self _) hI2)
      have h := h.2 hc6
      refine r_iconst (pc := 11) hC dX8_layMarks_11 (rng_lit rfl) ?_
      refine r_istore (ls2 := [some (aR 41), some (aI a1), some (aI a2), some (aI x2), some (aI 0), none]) (pc := 12) hC dX8_layMarks_12 (by decide) rfl rfl ?_
      obtain ⟨I3, μ3, hI3, hB3⟩ := h
      have S3 : ∀ (nn : Nat) (wr_layers_6 : (Nat → Int)) (x7 : Int), μ3 wr_layers_6 x7 < nn → I3 wr_layers_6 x7 → Wd p l e (rmD 3) s m args below meth c Q 0 0 6 D cA ad A LX (wA w 42 wr_layers_6) 14 [some (aR 41), some (aI a1), some (aI a2), some (aI x2), some (aI x7), none] [] := by
        intro nn
        induction nn with
        | zero => intro wr_layers_6 x7 hn; exact absurd hn (Nat.not_lt_zero _)
        | succ nn ih3 =>
          intro wr_layers_6 x7 hn3 hi
          have h := hB3 wr_layers_6 x7 hi
          refine r_iload (pc := 14) hC dX8_layMarks_14 rfl ?_
          refine r_aload_n (pc := 16) hC 0 dX8_layMarks_16 rfl rfl ?_
          refine r_getr (r := 18) (pc := 17) hC dX8_layMarks_17 fl_RX8_22 lX_41 rfl ?_
          refine r_get (kd := 0) (v := (w.1 18 6)) (pc := 20) hC dX8_layMarks_20 fl_RX8_132 lX_18 rfl rfl ?_
          refine r_ic_ge (pc := 23) (tgt := 111) hC dX8_layMarks_23 rfl (fun hc5 => ?_) (fun hc5 => ?_)
          · have h := h.1 hc5
            refine r_iinc (ls2 := [some (aR 41), some (aI a1), some (aI a2), some (aI (x2 + 1)), some (aI x7), none]) (pc := 111) hC dX8_layMarks_111 rfl (by decide) rfl h.1 rfl ?_
            have h := h.2
            refine r_goto (tgt := 6) (pc := 114) hC dX8_layMarks_114 rfl ?_
            exact r_to [true, true, true, true, false, false] rfl rfl (ih1 wr_layers_6 (x2 + 1) (Nat.lt_of_lt_of_le h.2 (Nat.le_of_lt_succ hn1)) h.1)
          have h := h.2 hc5
          refine r_iload_n (pc := 26) hC 3 dX8_layMarks_26 rfl rfl ?_
          refine r_aload_n (pc := 27) hC 0 dX8_layMarks_27 rfl rfl ?_
          refine r_getr (r := 18) (pc := 28) hC dX8_layMarks_28 fl_RX8_22 lX_41 rfl ?_
          refine r_getr (r := 20) (pc := 31) hC dX8_layMarks_31 fl_RX8_137 lX_18 rfl ?_
          refine r_iload (pc := 34) hC dX8_layMarks_34 rfl ?_
          refine r_iald (v := ((w.1 20) (Int.toNat x7))) (pc := 36) hC dX8_layMarks_36 lX_20 h.1.1 h.1.2 rfl ?_
          have h := h.2
          refine r_iadd (pc := 37) hC dX8_layMarks_37 h.1 ?_
          have h := h.2
          refine r_iconst (pc := 38) hC dX8_layMarks_38 (rng_lit rfl) ?_
          refine r_isub (pc := 39) hC dX8_layMarks_39 h.1 ?_
          have h := h.2
          refine r_istore (ls2 := [some (aR 41), some (aI a1), some (aI a2), some (aI x2), some (aI x7), some (aI ((x2 + ((w.1 20) (Int.toNat x7))) - 1))]) (pc := 40) hC dX8_layMarks_40 (by decide) rfl rfl ?_
          refine r_aload_n (pc := 42) hC 0 dX8_layMarks_42 rfl rfl ?_
          refine r_getr (r := 29) (pc := 43) hC dX8_layMarks_43 fl_RX8_26 lX_41 rfl ?_
          refine r_getr (r := 30) (pc := 46) hC dX8_layMarks_46 fl_RX8_140 lX_29 rfl ?_
          refine r_iload_n (pc := 49) hC 3 dX8_layMarks_49 rfl rfl ?_
          refine r_iald (v := ((w.1 30) (Int.toNat x2))) (pc := 50) hC dX8_layMarks_50 lX_30 h.1.1 h.1.2 rfl ?_
          have h := h.2
          refine r_iload (pc := 51) hC dX8_layMarks_51 rfl ?_
          refine r_callSNi (pc := 53) hC [aI ((w.1 30) (Int.toNat x2)), aI x7] [] dX8_layMarks_53 nl_RX8_92 my_X9_has ms_X9_has rfl ⟨Nat.le_of_ble_eq_true rfl, Nat.le_of_ble_eq_true rfl⟩ ⟨Nat.le_of_ble_eq_true rfl, Nat.le_of_ble_eq_true rfl⟩ (Nat.le_of_ble_eq_true rfl) rfl (s_Picker_has l _ _ _ _ h) (fun r8 w1 hq => ?_)
          obtain ⟨e9, h⟩ := hq
          rw [e9]
          obtain ⟨J4, hJ4, h⟩ := h
          have S4 : ∀ (wr_layers_9 : (Nat → Int)), J4 wr_layers_9 → Wd p l e (rmD 3) s m args below meth c Q 0 0 6 D cA ad A LX (wA w 42 wr_layers_9) 105 [some (aR 41), some (aI a1), some (aI a2), some (aI x2), some (aI x7), none] [] := by
            intro wr_layers_9 hj
            have h := hJ4 wr_layers_9 hj
            refine r_iinc (ls2 := [some (aR 41), some (aI a1), some (aI a2), some (aI x2), some (aI (x7 + 1)), none]) (pc := 105) hC dX8_layMarks_105 rfl (by decide) rfl h.1 rfl ?_
            have h := h.2
            refine r_goto (tgt := 14) (pc := 108) hC dX8_layMarks_108 rfl ?_
            exact r_to [true, true, true, true, true, false] rfl rfl (ih3 wr_layers_9 (x7 + 1) (Nat.lt_of_lt_of_le h.2 (Nat.le_of_lt_succ hn3)) h.1)
          refine r_if_eq (pc := 56) (tgt := 105) hC dX8_layMarks_56 rfl (fun hc4 => ?_) (fun hc4 => ?_)
          · have h := h.1 hc4
            exact r_to [true, true, true, true, true, false] rfl rfl (S4 wr_layers_6 h)
          have h := h.2 hc4
          refine r_iload (pc := 59) hC dX8_layMarks_59 rfl ?_
          refine r_iload_n (pc := 61) hC 2 dX8_layMarks_61 rfl rfl ?_
          refine r_ic_gt (pc := 62) (tgt := 105) hC dX8_layMarks_62 rfl (fun hc3 => ?_) (fun hc3 => ?_)
          · have h := h.1 hc3
            exact r_to [true, true, true, true, true, false] rfl rfl (S4 wr_layers_6 h)
          have h := h.2 hc3
          refine r_aload_n (pc := 65) hC 0 dX8_layMarks_65 rfl rfl ?_
          refine r_aload_n (pc := 66) hC 0 dX8_layMarks_66 rfl rfl ?_
          refine r_getr (r := 3) (pc := 67) hC dX8_layMarks_67 fl_RX8_18 lX_41 rfl ?_
          refine r_getr (r := 7) (pc := 70) hC dX8_layMarks_70 fl_RX8_80 lX_3 rfl ?_
          refine r_iload_n (pc := 73) hC 3 dX8_layMarks_73 rfl rfl ?_
          refine r_iald (v := ((w.1 7) (Int.toNat x2))) (pc := 74) hC dX8_layMarks_74 lX_7 h.1.1 h.1.2 rfl ?_
          have h := h.2
          refine r_aload_n (pc := 75) hC 0 dX8_layMarks_75 rfl rfl ?_
          refine r_getr (r := 3) (pc := 76) hC dX8_layMarks_76 fl_RX8_18 lX_41 rfl ?_
          refine r_getr (r := 8) (pc := 79) hC dX8_layMarks_79 fl_RX8_83 lX_3 rfl ?_
          refine r_iload (pc := 82) hC dX8_layMarks_82 rfl ?_
          refine r_iald (v := ((w.1 8) (Int.toNat ((x2 + ((w.1 20) (Int.toNat x7))) - 1)))) (pc := 84) hC dX8_layMarks_84 lX_8 h.1.1 h.1.2 rfl ?_
          have h := h.2
          refine r_aload_n (pc := 85) hC 0 dX8_layMarks_85 rfl rfl ?_
          refine r_getr (r := 18) (pc := 86) hC dX8_layMarks_86 fl_RX8_22 lX_41 rfl ?_
          refine r_iload (pc := 89) hC dX8_layMarks_89 rfl ?_
          refine r_callVi (pc := 91) hC [aI x7] [aI ((w.1 8) (Int.toNat ((x2 + ((w.1 20) (Int.toNat x7))) - 1))), aI ((w.1 7) (Int.toNat x2)), aR 41] dX8_layMarks_91 ml_RX8_145 my_X2_isStrong mi_X2_isStrong lX_18 rfl rfl ⟨Nat.le_of_ble_eq_true rfl, Nat.le_of_ble_eq_true rfl⟩ ⟨Nat.le_of_ble_eq_true rfl, Nat.le_of_ble_eq_true rfl⟩ (Nat.le_of_ble_eq_true rfl) rfl (s_Query_isStrong l _ _ _ h) (fun r10 w1 hq => ?_)
          obtain ⟨e9, h⟩ := hq
          rw [e9]
          obtain ⟨J5, hJ5, h⟩ := h
          have S5 : ∀ (y11 : Int), J5 y11 → Wd p l e (rmD 3) s m args below meth c Q 0 0 6 D cA ad A LX (wA w 42 wr_layers_6) 102 [some (aR 41), some (aI a1), some (aI a2), some (aI x2), some (aI x7), none] [aI y11, aI ((w.1 8) (Int.toNat ((x2 + ((w.1 20) (Int.toNat x7))) - 1))), aI ((w.1 7) (Int.toNat x2)), aR 41] := by
            intro y11 hj
            have h := hJ5 y11 hj
            refine r_callVv (pc := 102) hC [aI ((w.1 7) (Int.toNat x2)), aI ((w.1 8) (Int.toNat ((x2 + ((w.1 20) (Int.toNat x7))) - 1))), aI y11] [] dX8_layMarks_102 ml_RX8_149 my_X8_layOver mi_X8_layOver lX_41 rfl rfl ⟨Nat.le_of_ble_eq_true rfl, Nat.le_of_ble_eq_true rfl⟩ ⟨Nat.le_of_ble_eq_true rfl, Nat.le_of_ble_eq_true rfl⟩ (Nat.le_of_ble_eq_true rfl) rfl (s_Writer_layOver l _ _ _ _ _ h) (fun w1 hq => ?_)
            obtain ⟨wr_layers_12, e9, h⟩ := hq
            rw [e9]
            exact r_to [true, true, true, true, true, false] rfl rfl (S4 wr_layers_12 h)
          refine r_if_eq (pc := 94) (tgt := 101) hC dX8_layMarks_94 rfl (fun hc2 => ?_) (fun hc2 => ?_)
          · have h := h.1 hc2
            refine r_iconst (pc := 101) hC dX8_layMarks_101 (rng_lit rfl) ?_
            exact r_to [true, true, true, true, true, false] rfl rfl (S5 2 h)
          have h := h.2 hc2
          refine r_iconst (pc := 97) hC dX8_layMarks_97 (rng_lit rfl) ?_
          refine r_goto (tgt := 102) (pc := 98) hC dX8_layMarks_98 rfl ?_
          exact r_to [true, true, true, true, true, false] rfl rfl (S5 1 h)
      exact r_to [true, true, true, true, true, false] rfl rfl (S3 _ wr_layers_1 0 (Nat.lt_succ_self _) hI3)
  exact r_to [true, true, true, true, false, false] rfl rfl (S1 _ (w.1 42) (max a1 0) (Nat.lt_succ_self _) hI1)
def wp_Writer_putByte (wr_bytes : (Nat → Int)) (wr_length : Int) (a1 : Int) (Q : (Nat → Int) → Int → Prop) : Prop := (5760 ≤ wr_length → Q wr_bytes wr_length) ∧ (¬ 5760 ≤ wr_length → (0 ≤ wr_length ∧ wr_length < 5760) ∧ ((rng (wr_length + 1)) ∧ (Q (uI wr_bytes wr_length a1) (wr_length + 1))))
set_option maxHeartbeats 4000000 in
set_option maxRecDepth 20000 in
theorem s_Writer_putByte (l : Launch) (w : St) (a1 : Int) (P : (Nat → Int) → Int → Prop) (h : wp_Writer_putByte (w.1 43) (w.1 41 6) a1 P) : Cn l yX8_putByte cX8_putByte 2 none 0 LX w [aR 41, aI a1] (okV (fun w1 => ∃ (o0 : (Nat → Int)) (o1 : Int), w1 = (wI (wA w 43 o0) 41 6 o1) ∧ P o0 o1)) := by
  unfold wp_Writer_putByte at h
  refine Cn.of2 [some (aR 41), some (aI a1)] (by decide) (Nat.le_of_ble_eq_true rfl) rfl (fun p e s m args below meth c D cA ad A Q hQ hC hr hk => ?_)
  refine r_aload_n (pc := 0) hC 0 dX8_putByte_0 rfl rfl ?_
  refine r_get (kd := 0) (v := (w.1 41 6)) (pc := 1) hC dX8_putByte_1 fl_RX8_34 lX_41 rfl rfl ?_
  refine r_sipush (pc := 4) hC dX8_putByte_4 ⟨rfl, rng_lit rfl⟩ ?_
  refine r_ic_ge (pc := 7) (tgt := 30) hC dX8_putByte_7 rfl (fun hc1 => ?_) (fun hc1 => ?_)
  · have h := h.1 hc1
    refine r_conv (w2 := (wI (wA w 43 (w.1 43)) 41 6 (w.1 41 6))) rfl ?_
    exact r_retv (pc := 30) hC hQ dX8_putByte_30 hr hk ⟨(w.1 43), (w.1 41 6), rfl, h⟩
  have h := h.2 hc1
  refine r_aload_n (pc := 10) hC 0 dX8_putByte_10 rfl rfl ?_
  refine r_getr (r := 43) (pc := 11) hC dX8_putByte_11 fl_RX8_15 lX_41 rfl ?_
  refine r_aload_n (pc := 14) hC 0 dX8_putByte_14 rfl rfl ?_
  refine r_get (kd := 0) (v := (w.1 41 6)) (pc := 15) hC dX8_putByte_15 fl_RX8_34 lX_41 rfl rfl ?_
  refine r_iload_n (pc := 18) hC 1 dX8_putByte_18 rfl rfl ?_
  refine r_iast (pc := 19) hC dX8_putByte_19 lX_43 h.1.1 h.1.2 ?_
  have h := h.2
  refine r_aload_n (pc := 20) hC 0 dX8_putByte_20 rfl rfl ?_
  refine r_dup (pc := 21) hC dX8_putByte_21 rfl ?_
  refine r_get (kd := 0) (v := (w.1 41 6)) (pc := 22) hC dX8_putByte_22 fl_RX8_34 lX_41 rfl rfl ?_
  refine r_iconst (pc := 25) hC dX8_putByte_25 (rng_lit rfl) ?_
  refine r_iadd (pc := 26) hC dX8_putByte_26 h.1 ?_
  have h := h.2
  refine r_put (kd := 0) (pc := 27) hC dX8_putByte_27 pl_RX8_34 lX_41 rfl (by decide) (Or.inl rfl) ?_
  refine r_conv (w2 := (wI (wA w 43 (uI (w.1 43) (w.1 41 6) a1)) 41 6 ((w.1 41 6) + 1))) rfl ?_
  exact r_retv (pc := 30) hC hQ dX8_putByte_30 hr hk ⟨(uI (w.1 43) (w.1 41 6) a1), ((w.1 41 6) + 1), rfl, h⟩
def wp_Writer_put (wr_bytes : (Nat → Int)) (wr_length : Int) (a1 : Nat) (Q : (Nat → Int) → Int → Prop) : Prop := lpw3 (fun (wr_bytes_1 : (Nat → Int)) (wr_length_2 : Int) (x3 : Int) (k1 : (Nat → Int) → Int → Int → Prop) => (a1 < 37) ∧ (((sLen a1) ≤ x3 → Q wr_bytes_1 wr_length_2) ∧ (¬ (sLen a1) ≤ x3 → (a1 < 37 ∧ 0 ≤ x3 ∧ x3 < sLen a1) ∧ (wp_Writer_putByte wr_bytes_1 wr_length_2 (sAt a1 x3) (fun (wr_bytes_4 : (Nat → Int)) (wr_length_5 : Int) => (rng (x3 + 1)) ∧ (k1 wr_bytes_4 wr_length_5 (x3 + 1))))))) wr_bytes wr_length 0
set_option maxHeartbeats 4000000 in
set_option maxRecDepth 20000 in
theorem s_Writer_put (l : Launch) (w : St) (a1 : Nat) (P : (Nat → Int) → Int → Prop) (h : wp_Writer_put (w.1 43) (w.1 41 6) a1 P) : Cn l yX8_put cX8_put 3 none 4 LX w [aR 41, aR (10000 + a1)] (okV (fun w1 => ∃ (o0 : (Nat → Int)) (o1 : Int), w1 = (wI (wA w 43 o0) 41 6 o1) ∧ P o0 o1)) := by
  unfold wp_Writer_put at h
  refine Cn.of2 [some (aR 41), some (aR (10000 + a1)), none] (by decide) (Nat.le_of_ble_eq_true rfl) rfl (fun p e s m args below meth c D cA ad A Q hQ hC hr hk => ?_)
  refine r_iconst (pc := 0) hC dX8_put_0 (rng_lit rfl) ?_
  refine r_istore_n (ls2 := [some (aR 41), some (aR (10000 + a1)), some (aI 0)]) (pc := 1) hC 2 dX8_put_1 rfl (by decide) rfl rfl ?_
  obtain ⟨I1, μ1, hI1, hB1⟩ := h
  have S1 : ∀ (nn : Nat) (wr_bytes_1 : (Nat → Int)) (wr_length_2 : Int) (x3 : Int), μ1 wr_bytes_1 wr_length_2 x3 < nn → I1 wr_bytes_1 wr_length_2 x3 → Wd p l e (rmD 4) s m args below meth c Q 0 0 3 D cA ad A LX (wI (wA w 43 wr_bytes_1) 41 6 wr_length_2) 2 [some (aR 41), some (aR (10000 + a1)), some (aI x3)] [] := by
    intro nn
    induction nn with
    | zero => intro wr_bytes_1 wr_length_2 x3 hn; exact absurd hn (Nat.not_lt_zero _)
    | succ nn ih1 =>
      intro wr_bytes_1 wr_length_2 x3 hn1 hi
      have h := hB1 wr_bytes_1 wr_length_2 x3 hi
      refine r_iload_n (pc := 2) hC 2 dX8_put_2 rfl rfl ?_
      refine r_aload_n (pc := 3) hC 1 dX8_put_3 rfl rfl ?_
      refine r_slen (pc := 4) hC dX8_put_4 ml_RX8_194 h.1 ⟨Nat.le_of_ble_eq_true rfl, Nat.le_of_ble_eq_true rfl⟩ ⟨Nat.le_of_ble_eq_true rfl, Nat.le_of_ble_eq_true rfl⟩ (Nat.le_of_ble_eq_true rfl) ?_
      have h := h.2
      refine r_ic_ge (pc := 7) (tgt := 25) hC dX8_put_7 rfl (fun hc1 => ?_) (fun hc1 => ?_)
      · have h := h.1 hc1
        refine r_conv (w2 := (wI (wA w 43 wr_bytes_1) 41 6 wr_length_2)) rfl ?_
        exact r_retv (pc := 25) hC hQ dX8_put_25 hr hk ⟨wr_bytes_1, wr_length_2, rfl, h⟩
      have h := h.2 hc1
      refine r_aload_n (pc := 10) hC 0 dX8_put_10 rfl rfl ?_
      refine r_aload_n (pc := 11) hC 1 dX8_put_11 rfl rfl ?_
      refine r_iload_n (pc := 12) hC 2 dX8_put_12 rfl rfl ?_
      refine r_sat (pc := 13) hC dX8_put_13 ml_RX8_199 h.1.1 h.1.2.1 h.1.2.2 ⟨Nat.le_of_ble_eq_true rfl, Nat.le_of_ble_eq_true rfl⟩ ⟨Nat.le_of_ble_eq_true rfl, Nat.le_of_ble_eq_true rfl⟩ (Nat.le_of_ble_eq_true rfl) ?_
      have h := h.2
      refine r_callVv (pc := 16) hC [aI (sAt a1 x3)] [] dX8_put_16 ml_RX8_191 my_X8_putByte mi_X8_putByte lX_41 rfl rfl ⟨Nat.le_of_ble_eq_true rfl, Nat.le_of_ble_eq_true rfl⟩ ⟨Nat.le_of_ble_eq_true rfl, Nat.le_of_ble_eq_true rfl⟩ (Nat.le_of_ble_eq_true rfl) rfl (s_Writer_putByte l _ _ _ h) (fun w1 hq => ?_)
      obtain ⟨wr_bytes_4, wr_length_5, e9, h⟩ := hq
      rw [e9]
      refine r_iinc (ls2 := [some (aR 41), some (aR (10000 + a1)), some (aI (x3 + 1))]) (pc := 19) hC dX8_put_19 rfl (by decide) rfl h.1 rfl ?_
      have h := h.2
      refine r_goto (tgt := 2) (pc := 22) hC dX8_put_22 rfl ?_
      exact r_to [true, true, true] rfl rfl (ih1 wr_bytes_4 wr_length_5 (x3 + 1) (Nat.lt_of_lt_of_le h.2 (Nat.le_of_lt_succ hn1)) h.1)
  exact r_to [true, true, true] rfl rfl (S1 _ (w.1 43) (w.1 41 6) 0 (Nat.lt_succ_self _) hI1)
def wp_Writer_putStrong (wr_bytes : (Nat → Int)) (wr_length : Int) (wr_strongBegun : Int) (a1 : Int) (Q : (Nat → Int) → Int → Int → Prop) : Prop := jn1 (fun (J1 : Nat → Prop) => (a1 = 0 → J1 14) ∧ (¬ a1 = 0 → J1 13)) (fun (y1 : Nat) => wp_Writer_put wr_bytes wr_length y1 (fun (wr_bytes_2 : (Nat → Int)) (wr_length_3 : Int) => jn1 (fun (J2 : Int → Prop) => (a1 = 0 → J2 0) ∧ (¬ a1 = 0 → J2 1)) (fun (y4 : Int) => (rng (wr_strongBegun + y4)) ∧ (Q wr_bytes_2 wr_length_3 (wr_strongBegun + y4)))))
set_option maxHeartbeats 4000000 in
set_option maxRecDepth 20000 in
theorem s_Writer_putStrong (l : Launch) (w : St) (a1 : Int) (P : (Nat → Int) → Int → Int → Prop) (h : wp_Writer_putStrong (w.1 43) (w.1 41 6) (w.1 41 7) a1 P) : Cn l yX8_putStrong cX8_putStrong 2 none 5 LX w [aR 41, aI a1] (okV (fun w1 => ∃ (o0 : (Nat → Int)) (o1 : Int) (o2 : Int), w1 = (wI (wI (wA w 43 o0) 41 6 o1) 41 7 o2) ∧ P o0 o1 o2)) := by
  unfold wp_Writer_putStrong at h
  refine Cn.of2 [some (aR 41), some (aI a1)] (by decide) (Nat.le_of_ble_eq_true rfl) rfl (fun p e s m args below meth c D cA ad A Q hQ hC hr hk => ?_)
  refine r_aload_n (pc := 0) hC 0 dX8_putStrong_0 rfl rfl ?_
  refine r_iload_n (pc := 1) hC 1 dX8_putStrong_1 rfl rfl ?_
  obtain ⟨J1, hJ1, h⟩ := h
  have S1 : ∀ (y1 : Nat), J1 y1 → Wd p l e (rmD 5) s m args below meth c Q 0 0 2 D cA ad A LX w 12 [some (aR 41), some (aI a1)] [aR (10000 + y1), aR 41] := by
    intro y1 hj
    have h := hJ1 y1 hj
    refine r_callVv (pc := 12) hC [aR (10000 + y1)] [] dX8_putStrong_12 ml_RX8_76 my_X8_put mi_X8_put lX_41 rfl rfl ⟨Nat.le_of_ble_eq_true rfl, Nat.le_of_ble_eq_true rfl⟩ ⟨Nat.le_of_ble_eq_true rfl, Nat.le_of_ble_eq_true rfl⟩ (Nat.le_of_ble_eq_true rfl) rfl (s_Writer_put l _ _ _ h) (fun w1 hq => ?_)
    obtain ⟨wr_bytes_2, wr_length_3, e9, h⟩ := hq
    rw [e9]
    refine r_aload_n (pc := 15) hC 0 dX8_putStrong_15 rfl rfl ?_
    refine r_dup (pc := 16) hC dX8_putStrong_16 rfl ?_
    refine r_get (kd := 0) (v := (w.1 41 7)) (pc := 17) hC dX8_putStrong_17 fl_RX8_38 lX_41 rfl rfl ?_
    refine r_iload_n (pc := 20) hC 1 dX8_putStrong_20 rfl rfl ?_
    obtain ⟨J2, hJ2, h⟩ := h
    have S2 : ∀ (y4 : Int), J2 y4 → Wd p l e (rmD 5) s m args below meth c Q 0 0 2 D cA ad A LX (wI (wA w 43 wr_bytes_2) 41 6 wr_length_3) 29 [none, none] [aI y4, aI (w.1 41 7), aR 41] := by
      intro y4 hj
      have h := hJ2 y4 hj
      refine r_iadd (pc := 29) hC dX8_putStrong_29 h.1 ?_
      have h := h.2
      refine r_put (kd := 0) (pc := 30) hC dX8_putStrong_30 pl_RX8_38 lX_41 rfl (by decide) (Or.inl rfl) ?_
      refine r_conv (w2 := (wI (wI (wA w 43 wr_bytes_2) 41 6 wr_length_3) 41 7 ((w.1 41 7) + y4))) rfl ?_
      exact r_retv (pc := 33) hC hQ dX8_putStrong_33 hr hk ⟨wr_bytes_2, wr_length_3, ((w.1 41 7) + y4), rfl, h⟩
    refine r_if_eq (pc := 21) (tgt := 28) hC dX8_putStrong_21 rfl (fun hc1 => ?_) (fun hc1 => ?_)
    · have h := h.1 hc1
      refine r_iconst (pc := 28) hC dX8_putStrong_28 (rng_lit rfl) ?_
      exact r_to [false, false] rfl rfl (S2 0 h)
    have h := h.2 hc1
    refine r_iconst (pc := 24) hC dX8_putStrong_24 (rng_lit rfl) ?_
    refine r_goto (tgt := 29) (pc := 25) hC dX8_putStrong_25 rfl ?_
    exact r_to [false, false] rfl rfl (S2 1 h)
  refine r_if_eq (pc := 2) (tgt := 10) hC dX8_putStrong_2 rfl (fun hc2 => ?_) (fun hc2 => ?_)
  · have h := h.1 hc2
    refine r_ldcs (j := 14) (pc := 10) hC dX8_putStrong_10 rfl ⟨rfl, rfl⟩ ?_
    exact r_to [true, true] rfl rfl (S1 14 h)
  have h := h.2 hc2
  refine r_ldcs (j := 13) (pc := 5) hC dX8_putStrong_5 rfl ⟨rfl, rfl⟩ ?_
  refine r_goto (tgt := 12) (pc := 7) hC dX8_putStrong_7 rfl ?_
  exact r_to [true, true] rfl rfl (S1 13 h)
def wp_Writer_changeMarks (wr_bytes : (Nat → Int)) (wr_length : Int) (wr_strongBegun : Int) (wr_softBegun : Int) (a1 : Int) (a2 : Int) (Q : (Nat → Int) → Int → Int → Int → Prop) : Prop := jn1 (fun (J1 : Int → Prop) => ((iAnd (iXor a1 a2) 1) = 0 → J1 0) ∧ (¬ (iAnd (iXor a1 a2) 1) = 0 → J1 1)) (fun (y1 : Int) => jn1 (fun (J2 : Int → Prop) => ((iAnd a1 2) = 0 → J2 0) ∧ (¬ (iAnd a1 2) = 0 → J2 1)) (fun (y2 : Int) => jn1 (fun (J3 : Int → Prop) => ((iAnd a2 2) = 0 → J3 0) ∧ (¬ (iAnd a2 2) = 0 → J3 1)) (fun (y3 : Int) => jn2 (fun (J4 : (Nat → Int) → Int → Prop) => (y2 = 0 → J4 wr_bytes wr_length) ∧ (¬ y2 = 0 → jn0 (fun (J8 : Prop) => (¬ y1 = 0 → J8) ∧ (y1 = 0 → (¬ y3 = 0 → J4 wr_bytes wr_length) ∧ (y3 = 0 → J8))) (wp_Writer_put wr_bytes wr_length 12 (fun (wr_bytes_15 : (Nat → Int)) (wr_length_16 : Int) => J4 wr_bytes_15 wr_length_16)))) (fun (wr_bytes_4 : (Nat → Int)) (wr_length_5 : Int) => jn3 (fun (J5 : (Nat → Int) → Int → Int → Prop) => (y1 = 0 → J5 wr_bytes_4 wr_length_5 wr_strongBegun) ∧ (¬ y1 = 0 → jn1 (fun (J7 : Int → Prop) => ((iAnd a2 1) = 0 → J7 0) ∧ (¬ (iAnd a2 1) = 0 → J7 1)) (fun (y11 : Int) => wp_Writer_putStrong wr_bytes_4 wr_length_5 wr_strongBegun y11 (fun (wr_bytes_12 : (Nat → Int)) (wr_length_13 : Int) (wr_strongBegun_14 : Int) => J5 wr_bytes_12 wr_length_13 wr_strongBegun_14)))) (fun (wr_bytes_6 : (Nat → Int)) (wr_length_7 : Int) (wr_strongBegun_8 : Int) => (y3 = 0 → Q wr_bytes_6 wr_length_7 wr_strongBegun_8 wr_softBegun) ∧ (¬ y3 = 0 → jn0 (fun (J6 : Prop) => (¬ y1 = 0 → J6) ∧ (y1 = 0 → (¬ y2 = 0 → Q wr_bytes_6 wr_length_7 wr_strongBegun_8 wr_softBegun) ∧ (y2 = 0 → J6))) (wp_Writer_put wr_bytes_6 wr_length_7 15 (fun (wr_bytes_9 : (Nat → Int)) (wr_length_10 : Int) => (rng (wr_softBegun + 1)) ∧ (Q wr_bytes_9 wr_length_10 wr_strongBegun_8 (wr_softBegun + 1))))))))))
set_option maxHeartbeats 4000000 in
set_option maxRecDepth 20000 in
theorem s_Writer_changeMarks (l : Launch) (w : St) (a1 : Int) (a2 : Int) (P : (Nat → Int) → Int → Int → Int → Prop) (h : wp_Writer_changeMarks (w.1 43) (w.1 41 6) (w.1 41 7) (w.1 41 8) a1 a2 P) : Cn l yX8_changeMarks cX8_changeMarks 6 none 6 LX w [aR 41, aI a1, aI a2] (okV (fun w1 => ∃ (o0 : (Nat → Int)) (o1 : Int) (o2 : Int) (o3 : Int), w1 = (wI (wI (wI (wA w 43 o0) 41 6 o1) 41 7 o2) 41 8 o3) ∧ P o0 o1 o2 o3)) := by
  unfold wp_Writer_changeMarks at h
  refine Cn.of2 [some (aR 41), some (aI a1), some (aI a2), none, none, none] (by decide) (Nat.le_of_ble_eq_true rfl) rfl (fun p e s m args below meth c D cA ad A Q hQ hC hr hk => ?_)
  refine r_iload_n (pc := 0) hC 1 dX8_changeMarks_0 rfl rfl ?_
  refine r_iload_n (pc := 1) hC 2 dX8_changeMarks_1 rfl rfl ?_
  refine r_ixor (pc := 2) hC dX8_changeMarks_2 ?_
  refine r_iconst (pc := 3) hC dX8_changeMarks_3 (rng_lit rfl) ?_
  refine r_iand (pc := 4) hC dX8_changeMarks_4 ?_
  obtain ⟨J1, hJ1, h⟩ := h
  have S1 : ∀ (y1 : Int), J1 y1 → Wd p l e (rmD 6) s m args below meth c Q 0 0 6 D cA ad A LX w 13 [some (aR 41), some (aI a1), some (aI a2), none, none, none] [aI y1] := by
    intro y1 hj
    have h := hJ1 y1 hj
    refine r_istore_n (ls2 := [some (aR 41), some (aI a1), some (aI a2), some (aI y1), none, none]) (pc := 13) hC 3 dX8_changeMarks_13 rfl (by decide) rfl rfl ?_
    refine r_iload_n (pc := 14) hC 1 dX8_changeMarks_14 rfl rfl ?_
    refine r_iconst (pc := 15) hC dX8_changeMarks_15 (rng_lit rfl) ?_
    refine r_iand (pc := 16) hC dX8_changeMarks_16 ?_
    obtain ⟨J2, hJ2, h⟩ := h
    have S2 : ∀ (y2 : Int), J2 y2 → Wd p l e (rmD 6) s m args below meth c Q 0 0 6 D cA ad A LX w 25 [some (aR 41), none, some (aI a2), some (aI y1), none, none] [aI y2] := by
      intro y2 hj
      have h := hJ2 y2 hj
      refine r_istore (ls2 := [some (aR 41), none, some (aI a2), some (aI y1), some (aI y2), none]) (pc := 25) hC dX8_changeMarks_25 (by decide) rfl rfl ?_
      refine r_iload_n (pc := 27) hC 2 dX8_changeMarks_27 rfl rfl ?_
      refine r_iconst (pc := 28) hC dX8_changeMarks_28 (rng_lit rfl) ?_
      refine r_iand (pc := 29) hC dX8_changeMarks_29 ?_
      obtain ⟨J3, hJ3, h⟩ := h
      have S3 : ∀ (y3 : Int), J3 y3 → Wd p l e (rmD 6) s m args below meth c Q 0 0 6 D cA ad A LX w 38 [some (aR 41), none, some (aI a2), some (aI y1), some (aI y2), none] [aI y3] := by
        intro y3 hj
        have h := hJ3 y3 hj
        refine r_istore (ls2 := [some (aR 41), none, some (aI a2), some (aI y1), some (aI y2), some (aI y3)]) (pc := 38) hC dX8_changeMarks_38 (by decide) rfl rfl ?_
        refine r_iload (pc := 40) hC dX8_changeMarks_40 rfl ?_
        obtain ⟨J4, hJ4, h⟩ := h
        have S4 : ∀ (wr_bytes_4 : (Nat → Int)) (wr_length_5 : Int), J4 wr_bytes_4 wr_length_5 → Wd p l e (rmD 6) s m args below meth c Q 0 0 6 D cA ad A LX (wI (wA w 43 wr_bytes_4) 41 6 wr_length_5) 60 [some (aR 41), none, some (aI a2), some (aI y1), some (aI y2), some (aI y3)] [] := by
          intro wr_bytes_4 wr_length_5 hj
          have h := hJ4 wr_bytes_4 wr_length_5 hj
          refine r_iload_n (pc := 60) hC 3 dX8_changeMarks_60 rfl rfl ?_
          obtain ⟨J5, hJ5, h⟩ := h
          have S5 : ∀ (wr_bytes_6 : (Nat → Int)) (wr_length_7 : Int) (wr_strongBegun_8 : Int), J5 wr_bytes_6 wr_length_7 wr_strongBegun_8 → Wd p l e (rmD 6) s m args below meth c Q 0 0 6 D cA ad A LX (wI (wI (wA w 43 wr_bytes_6) 41 6 wr_length_7) 41 7 wr_strongBegun_8) 79 [some (aR 41), none, none, some (aI y1), some (aI y2), some (aI y3)] [] := by
            intro wr_bytes_6 wr_length_7 wr_strongBegun_8 hj
            have h := hJ5 wr_bytes_6 wr_length_7 wr_strongBegun_8 hj
            refine r_iload (pc := 79) hC dX8_changeMarks_79 rfl ?_
            refine r_if_eq (pc := 81) (tgt := 109) hC dX8_changeMarks_81 rfl (fun hc3 => ?_) (fun hc3 => ?_)
            · have h := h.1 hc3
              refine r_conv (w2 := (wI (wI (wI (wA w 43 wr_bytes_6) 41 6 wr_length_7) 41 7 wr_strongBegun_8) 41 8 (w.1 41 8))) rfl ?_
              exact r_retv (pc := 109) hC hQ dX8_changeMarks_109 hr hk ⟨wr_bytes_6, wr_length_7, wr_strongBegun_8, (w.1 41 8), rfl, h⟩
            have h := h.2 hc3
            refine r_iload_n (pc := 84) hC 3 dX8_changeMarks_84 rfl rfl ?_
            obtain ⟨J6, hJ6, h⟩ := h
            have S6 : J6 → Wd p l e (rmD 6) s m args below meth c Q 0 0 6 D cA ad A LX (wI (wI (wA w 43 wr_bytes_6) 41 6 wr_length_7) 41 7 wr_strongBegun_8) 93 [some (aR 41), none, none, none, none, none] [] := by
              intro hj
              have h := hJ6 hj
              refine r_aload_n (pc := 93) hC 0 dX8_changeMarks_93 rfl rfl ?_
              refine r_ldcs (j := 15) (pc := 94) hC dX8_changeMarks_94 rfl ⟨rfl, rfl⟩ ?_
              refine r_callVv (pc := 96) hC [aR (10000 + 15)] [] dX8_changeMarks_96 ml_RX8_76 my_X8_put mi_X8_put lX_41 rfl rfl ⟨Nat.le_of_ble_eq_true rfl, Nat.le_of_ble_eq_true rfl⟩ ⟨Nat.le_of_ble_eq_true rfl, Nat.le_of_ble_eq_true rfl⟩ (Nat.le_of_ble_eq_true rfl) rfl (s_Writer_put l _ _ _ h) (fun w1 hq => ?_)
              obtain ⟨wr_bytes_9, wr_length_10, e9, h⟩ := hq
              rw [e9]
              refine r_aload_n (pc := 99) hC 0 dX8_changeMarks_99 rfl rfl ?_
              refine r_dup (pc := 100) hC dX8_changeMarks_100 rfl ?_
              refine r_get (kd := 0) (v := (w.1 41 8)) (pc := 101) hC dX8_changeMarks_101 fl_RX8_41 lX_41 rfl rfl ?_
              refine r_iconst (pc := 104) hC dX8_changeMarks_104 (rng_lit rfl) ?_
              refine r_iadd (pc := 105) hC dX8_changeMarks_105 h.1 ?_
              have h := h.2
              refine r_put (kd := 0) (pc := 106) hC dX8_changeMarks_106 pl_RX8_41 lX_41 rfl (by decide) (Or.inl rfl) ?_
              refine r_conv (w2 := (wI (wI (wI (wA w 43 wr_bytes_9) 41 6 wr_length_10) 41 7 wr_strongBegun_8) 41 8 ((w.1 41 8) + 1))) rfl ?_
              exact r_retv (pc := 109) hC hQ dX8_changeMarks_109 hr hk ⟨wr_bytes_9, wr_length_10, wr_strongBegun_8, ((w.1 41 8) + 1), rfl, h⟩
            refine r_if_ne (pc := 85) (tgt := 93) hC dX8_changeMarks_85 rfl (fun hc2 => ?_) (fun hc2 => ?_)
            · have h := h.1 hc2
              exact r_to [true, false, false, false, false, false] rfl rfl (S6 h)
            have h := h.2 hc2
            refine r_iload (pc := 88) hC dX8_changeMarks_88 rfl ?_
            refine r_if_ne (pc := 90) (tgt := 109) hC dX8_changeMarks_90 rfl (fun hc1 => ?_) (fun hc1 => ?_)
            · have h := h.1 hc1
              refine r_conv (w2 := (wI (wI (wI (wA w 43 wr_bytes_6) 41 6 wr_length_7) 41 7 wr_strongBegun_8) 41 8 (w.1 41 8))) rfl ?_
              exact r_retv (pc := 109) hC hQ dX8_changeMarks_109 hr hk ⟨wr_bytes_6, wr_length_7, wr_strongBegun_8, (w.1 41 8), rfl, h⟩
            have h := h.2 hc1
            exact r_to [true, false, false, false, false, false] rfl rfl (S6 h)
          refine r_if_eq (pc := 61) (tgt := 79) hC dX8_changeMarks_61 rfl (fun hc5 => ?_) (fun hc5 => ?_)
          · have h := h.1 hc5
            exact r_to [true, false, false, true, true, true] rfl rfl (S5 wr_bytes_4 wr_length_5 (w.1 41 7) h)
          have h := h.2 hc5
          refine r_aload_n (pc := 64) hC 0 dX8_changeMarks_64 rfl rfl ?_
          refine r_iload_n (pc := 65) hC 2 dX8_changeMarks_65 rfl rfl ?_
          refine r_iconst (pc := 66) hC dX8_changeMarks_66 (rng_lit rfl) ?_
          refine r_iand (pc := 67) hC dX8_changeMarks_67 ?_
          obtain ⟨J7, hJ7, h⟩ := h
          have S7 : ∀ (y11 : Int), J7 y11 → Wd p l e (rmD 6) s m args below meth c Q 0 0 6 D cA ad A LX (wI (wA w 43 wr_bytes_4) 41 6 wr_length_5) 76 [some (aR 41), none, none, some (aI y1), some (aI y2), some (aI y3)] [aI y11, aR 41] := by
            intro y11 hj
            have h := hJ7 y11 hj
            refine r_callVv (pc := 76) hC [aI y11] [] dX8_changeMarks_76 ml_RX8_173 my_X8_putStrong mi_X8_putStrong lX_41 rfl rfl ⟨Nat.le_of_ble_eq_true rfl, Nat.le_of_ble_eq_true rfl⟩ ⟨Nat.le_of_ble_eq_true rfl, Nat.le_of_ble_eq_true rfl⟩ (Nat.le_of_ble_eq_true rfl) rfl (s_Writer_putStrong l _ _ _ h) (fun w1 hq => ?_)
            obtain ⟨wr_bytes_12, wr_length_13, wr_strongBegun_14, e9, h⟩ := hq
            rw [e9]
            exact r_to [true, false, false, true, true, true] rfl rfl (S5 wr_bytes_12 wr_length_13 wr_strongBegun_14 h)
          refine r_if_eq (pc := 68) (tgt := 75) hC dX8_changeMarks_68 rfl (fun hc4 => ?_) (fun hc4 => ?_)
          · have h := h.1 hc4
            refine r_iconst (pc := 75) hC dX8_changeMarks_75 (rng_lit rfl) ?_
            exact r_to [true, false, false, true, true, true] rfl rfl (S7 0 h)
          have h := h.2 hc4
          refine r_iconst (pc := 71) hC dX8_changeMarks_71 (rng_lit rfl) ?_
          refine r_goto (tgt := 76) (pc := 72) hC dX8_changeMarks_72 rfl ?_
          exact r_to [true, false, false, true, true, true] rfl rfl (S7 1 h)
        refine r_if_eq (pc := 42) (tgt := 60) hC dX8_changeMarks_42 rfl (fun hc8 => ?_) (fun hc8 => ?_)
        · have h := h.1 hc8
          exact r_to [true, false, true, true, true, true] rfl rfl (S4 (w.1 43) (w.1 41 6) h)
        have h := h.2 hc8
        refine r_iload_n (pc := 45) hC 3 dX8_changeMarks_45 rfl rfl ?_
        obtain ⟨J8, hJ8, h⟩ := h
        have S8 : J8 → Wd p l e (rmD 6) s m args below meth c Q 0 0 6 D cA ad A LX w 54 [some (aR 41), none, some (aI a2), some (aI y1), some (aI y2), some (aI y3)] [] := by
          intro hj
          have h := hJ8 hj
          refine r_aload_n (pc := 54) hC 0 dX8_changeMarks_54 rfl rfl ?_
          refine r_ldcs (j := 12) (pc := 55) hC dX8_changeMarks_55 rfl ⟨rfl, rfl⟩ ?_
          refine r_callVv (pc := 57) hC [aR (10000 + 12)] [] dX8_changeMarks_57 ml_RX8_76 my_X8_put mi_X8_put lX_41 rfl rfl ⟨Nat.le_of_ble_eq_true rfl, Nat.le_of_ble_eq_true rfl⟩ ⟨Nat.le_of_ble_eq_true rfl, Nat.le_of_ble_eq_true rfl⟩ (Nat.le_of_ble_eq_true rfl) rfl (s_Writer_put l _ _ _ h) (fun w1 hq => ?_)
          obtain ⟨wr_bytes_15, wr_length_16, e9, h⟩ := hq
          rw [e9]
          exact r_to [true, false, true, true, true, true] rfl rfl (S4 wr_bytes_15 wr_length_16 h)
        refine r_if_ne (pc := 46) (tgt := 54) hC dX8_changeMarks_46 rfl (fun hc7 => ?_) (fun hc7 => ?_)
        · have h := h.1 hc7
          exact r_to [true, false, true, true, true, true] rfl rfl (S8 h)
        have h := h.2 hc7
        refine r_iload (pc := 49) hC dX8_changeMarks_49 rfl ?_
        refine r_if_ne (pc := 51) (tgt := 60) hC dX8_changeMarks_51 rfl (fun hc6 => ?_) (fun hc6 => ?_)
        · have h := h.1 hc6
          exact r_to [true, false, true, true, true, true] rfl rfl (S4 (w.1 43) (w.1 41 6) h)
        have h := h.2 hc6
        exact r_to [true, false, true, true, true, true] rfl rfl (S8 h)
      refine r_if_eq (pc := 30) (tgt := 37) hC dX8_changeMarks_30 rfl (fun hc9 => ?_) (fun hc9 => ?_)
      · have h := h.1 hc9
        refine r_iconst (pc := 37) hC dX8_changeMarks_37 (rng_lit rfl) ?_
        exact r_to [true, false, true, true, true, false] rfl rfl (S3 0 h)
      have h := h.2 hc9
      refine r_iconst (pc := 33) hC dX8_changeMarks_33 (rng_lit rfl) ?_
      refine r_goto (tgt := 38) (pc := 34) hC dX8_changeMarks_34 rfl ?_
      exact r_to [true, false, true, true, true, false] rfl rfl (S3 1 h)
    refine r_if_eq (pc := 17) (tgt := 24) hC dX8_changeMarks_17 rfl (fun hc10 => ?_) (fun hc10 => ?_)
    · have h := h.1 hc10
      refine r_iconst (pc := 24) hC dX8_changeMarks_24 (rng_lit rfl) ?_
      exact r_to [true, false, true, true, false, false] rfl rfl (S2 0 h)
    have h := h.2 hc10
    refine r_iconst (pc := 20) hC dX8_changeMarks_20 (rng_lit rfl) ?_
    refine r_goto (tgt := 25) (pc := 21) hC dX8_changeMarks_21 rfl ?_
    exact r_to [true, false, true, true, false, false] rfl rfl (S2 1 h)
  refine r_if_eq (pc := 5) (tgt := 12) hC dX8_changeMarks_5 rfl (fun hc11 => ?_) (fun hc11 => ?_)
  · have h := h.1 hc11
    refine r_iconst (pc := 12) hC dX8_changeMarks_12 (rng_lit rfl) ?_
    exact r_to [true, true, true, false, false, false] rfl rfl (S1 0 h)
  have h := h.2 hc11
  refine r_iconst (pc := 8) hC dX8_changeMarks_8 (rng_lit rfl) ?_
  refine r_goto (tgt := 13) (pc := 9) hC dX8_changeMarks_9 rfl ?_
  exact r_to [true, true, true, false, false, false] rfl rfl (S1 1 h)
def wp_Writer_putEscaped (wr_bytes : (Nat → Int)) (wr_length : Int) (a1 : Int) (Q : (Nat → Int) → Int → Prop) : Prop := (a1 = 34 → wp_Writer_put wr_bytes wr_length 19 (fun (wr_bytes_1 : (Nat → Int)) (wr_length_2 : Int) => Q wr_bytes_1 wr_length_2)) ∧ (¬ a1 = 34 → (a1 = 38 → wp_Writer_put wr_bytes wr_length 18 (fun (wr_bytes_3 : (Nat → Int)) (wr_length_4 : Int) => Q wr_bytes_3 wr_length_4)) ∧ (¬ a1 = 38 → (a1 = 60 → wp_Writer_put wr_bytes wr_length 16 (fun (wr_bytes_5 : (Nat → Int)) (wr_length_6 : Int) => Q wr_bytes_5 wr_length_6)) ∧ (¬ a1 = 60 → (a1 = 62 → wp_Writer_put wr_bytes wr_length 17 (fun (wr_bytes_7 : (Nat → Int)) (wr_length_8 : Int) => Q wr_bytes_7 wr_length_8)) ∧ (¬ a1 = 62 → wp_Writer_putByte wr_bytes wr_length a1 (fun (wr_bytes_9 : (Nat → Int)) (wr_length_10 : Int) => Q wr_bytes_9 wr_length_10)))))
set_option maxHeartbeats 4000000 in
set_option maxRecDepth 20000 in
theorem s_Writer_putEscaped (l : Launch) (w : St) (a1 : Int) (P : (Nat → Int) → Int → Prop) (h : wp_Writer_putEscaped (w.1 43) (w.1 41 6) a1 P) : Cn l yX8_putEscaped cX8_putEscaped 2 none 5 LX w [aR 41, aI a1] (okV (fun w1 => ∃ (o0 : (Nat → Int)) (o1 : Int), w1 = (wI (wA w 43 o0) 41 6 o1) ∧ P o0 o1)) := by
  unfold wp_Writer_putEscaped at h
  refine Cn.of2 [some (aR 41), some (aI a1)] (by decide) (Nat.le_of_ble_eq_true rfl) rfl (fun p e s m args below meth c D cA ad A Q hQ hC hr hk => ?_)
  refine r_iload_n (pc := 0) hC 1 dX8_putEscaped_0 rfl rfl ?_
  by_cases hc1 : a1 = 34
  · refine r_lkp (pc := 1) (tgt := 71) hC dX8_putEscaped_1 (by decide) (by rw [hc1]; try rfl) rfl ?_
    have h := h.1 hc1
    refine r_aload_n (pc := 71) hC 0 dX8_putEscaped_71 rfl rfl ?_
    refine r_ldcs (j := 19) (pc := 72) hC dX8_putEscaped_72 rfl ⟨rfl, rfl⟩ ?_
    refine r_callVv (pc := 74) hC [aR (10000 + 19)] [] dX8_putEscaped_74 ml_RX8_76 my_X8_put mi_X8_put lX_41 rfl rfl ⟨Nat.le_of_ble_eq_true rfl, Nat.le_of_ble_eq_true rfl⟩ ⟨Nat.le_of_ble_eq_true rfl, Nat.le_of_ble_eq_true rfl⟩ (Nat.le_of_ble_eq_true rfl) rfl (s_Writer_put l _ _ _ h) (fun w1 hq => ?_)
    obtain ⟨wr_bytes_1, wr_length_2, e9, h⟩ := hq
    rw [e9]
    refine r_goto (tgt := 85) (pc := 77) hC dX8_putEscaped_77 rfl ?_
    refine r_conv (w2 := (wI (wA w 43 wr_bytes_1) 41 6 wr_length_2)) rfl ?_
    exact r_retv (pc := 85) hC hQ dX8_putEscaped_85 hr hk ⟨wr_bytes_1, wr_length_2, rfl, h⟩
  have h := h.2 hc1
  by_cases hc2 : a1 = 38
  · refine r_lkp (pc := 1) (tgt := 62) hC dX8_putEscaped_1 (by decide) (by rw [hc2]; try rfl) rfl ?_
    have h := h.1 hc2
    refine r_aload_n (pc := 62) hC 0 dX8_putEscaped_62 rfl rfl ?_
    refine r_ldcs (j := 18) (pc := 63) hC dX8_putEscaped_63 rfl ⟨rfl, rfl⟩ ?_
    refine r_callVv (pc := 65) hC [aR (10000 + 18)] [] dX8_putEscaped_65 ml_RX8_76 my_X8_put mi_X8_put lX_41 rfl rfl ⟨Nat.le_of_ble_eq_true rfl, Nat.le_of_ble_eq_true rfl⟩ ⟨Nat.le_of_ble_eq_true rfl, Nat.le_of_ble_eq_true rfl⟩ (Nat.le_of_ble_eq_true rfl) rfl (s_Writer_put l _ _ _ h) (fun w1 hq => ?_)
    obtain ⟨wr_bytes_3, wr_length_4, e9, h⟩ := hq
    rw [e9]
    refine r_goto (tgt := 85) (pc := 68) hC dX8_putEscaped_68 rfl ?_
    refine r_conv (w2 := (wI (wA w 43 wr_bytes_3) 41 6 wr_length_4)) rfl ?_
    exact r_retv (pc := 85) hC hQ dX8_putEscaped_85 hr hk ⟨wr_bytes_3, wr_length_4, rfl, h⟩
  have h := h.2 hc2
  by_cases hc3 : a1 = 60
  · refine r_lkp (pc := 1) (tgt := 44) hC dX8_putEscaped_1 (by decide) (by rw [hc3]; try rfl) rfl ?_
    have h := h.1 hc3
    refine r_aload_n (pc := 44) hC 0 dX8_putEscaped_44 rfl rfl ?_
    refine r_ldcs (j := 16) (pc := 45) hC dX8_putEscaped_45 rfl ⟨rfl, rfl⟩ ?_
    refine r_callVv (pc := 47) hC [aR (10000 + 16)] [] dX8_putEscaped_47 ml_RX8_76 my_X8_put mi_X8_put lX_41 rfl rfl ⟨Nat.le_of_ble_eq_true rfl, Nat.le_of_ble_eq_true rfl⟩ ⟨Nat.le_of_ble_eq_true rfl, Nat.le_of_ble_eq_true rfl⟩ (Nat.le_of_ble_eq_true rfl) rfl (s_Writer_put l _ _ _ h) (fun w1 hq => ?_)
    obtain ⟨wr_bytes_5, wr_length_6, e9, h⟩ := hq
    rw [e9]
    refine r_goto (tgt := 85) (pc := 50) hC dX8_putEscaped_50 rfl ?_
    refine r_conv (w2 := (wI (wA w 43 wr_bytes_5) 41 6 wr_length_6)) rfl ?_
    exact r_retv (pc := 85) hC hQ dX8_putEscaped_85 hr hk ⟨wr_bytes_5, wr_length_6, rfl, h⟩
  have h := h.2 hc3
  by_cases hc4 : a1 = 62
  · refine r_lkp (pc := 1) (tgt := 53) hC dX8_putEscaped_1 (by decide) (by rw [hc4]; try rfl) rfl ?_
    have h := h.1 hc4
    refine r_aload_n (pc := 53) hC 0 dX8_putEscaped_53 rfl rfl ?_
    refine r_ldcs (j := 17) (pc := 54) hC dX8_putEscaped_54 rfl ⟨rfl, rfl⟩ ?_
    refine r_callVv (pc := 56) hC [aR (10000 + 17)] [] dX8_putEscaped_56 ml_RX8_76 my_X8_put mi_X8_put lX_41 rfl rfl ⟨Nat.le_of_ble_eq_true rfl, Nat.le_of_ble_eq_true rfl⟩ ⟨Nat.le_of_ble_eq_true rfl, Nat.le_of_ble_eq_true rfl⟩ (Nat.le_of_ble_eq_true rfl) rfl (s_Writer_put l _ _ _ h) (fun w1 hq => ?_)
    obtain ⟨wr_bytes_7, wr_length_8, e9, h⟩ := hq
    rw [e9]
    refine r_goto (tgt := 85) (pc := 59) hC dX8_putEscaped_59 rfl ?_
    refine r_conv (w2 := (wI (wA w 43 wr_bytes_7) 41 6 wr_length_8)) rfl ?_
    exact r_retv (pc := 85) hC hQ dX8_putEscaped_85 hr hk ⟨wr_bytes_7, wr_length_8, rfl, h⟩
  have h := h.2 hc4
  refine r_lkp (pc := 1) (tgt := 80) hC dX8_putEscaped_1 (by decide) (by simp only [Array.toList]; rw [Op.lookupswitch.offset_cons, if_neg (fun q9 => hc1 q9.symm), Op.lookupswitch.offset_cons, if_neg (fun q9 => hc2 q9.symm), Op.lookupswitch.offset_cons, if_neg (fun q9 => hc3 q9.symm), Op.lookupswitch.offset_cons, if_neg (fun q9 => hc4 q9.symm)]; try rfl) rfl ?_
  refine r_aload_n (pc := 80) hC 0 dX8_putEscaped_80 rfl rfl ?_
  refine r_iload_n (pc := 81) hC 1 dX8_putEscaped_81 rfl rfl ?_
  refine r_callVv (pc := 82) hC [aI a1] [] dX8_putEscaped_82 ml_RX8_191 my_X8_putByte mi_X8_putByte lX_41 rfl rfl ⟨Nat.le_of_ble_eq_true rfl, Nat.le_of_ble_eq_true rfl⟩ ⟨Nat.le_of_ble_eq_true rfl, Nat.le_of_ble_eq_true rfl⟩ (Nat.le_of_ble_eq_true rfl) rfl (s_Writer_putByte l _ _ _ h) (fun w1 hq => ?_)
  obtain ⟨wr_bytes_9, wr_length_10, e9, h⟩ := hq
  rw [e9]
  refine r_conv (w2 := (wI (wA w 43 wr_bytes_9) 41 6 wr_length_10)) rfl ?_
  exact r_retv (pc := 85) hC hQ dX8_putEscaped_85 hr hk ⟨wr_bytes_9, wr_length_10, rfl, h⟩
def wp_Writer_putPassage (pg_bytes : (Nat → Int)) (wr_layers : (Nat → Int)) (wr_bytes : (Nat → Int)) (pg_length : Int) (wr_length : Int) (wr_strongBegun : Int) (wr_softBegun : Int) (a1 : Int) (a2 : Int) (Q : (Nat → Int) → Int → Int → Int → Prop) : Prop := lpw6 (fun (wr_bytes_1 : (Nat → Int)) (wr_length_2 : Int) (wr_strongBegun_3 : Int) (wr_softBegun_4 : Int) (x5 : Int) (x6 : Int) (k1 : (Nat → Int) → Int → Int → Int → Int → Int → Prop) => (a2 ≤ x6 → wp_Writer_changeMarks wr_bytes_1 wr_length_2 wr_strongBegun_3 wr_softBegun_4 x5 0 (fun (wr_bytes_7 : (Nat → Int)) (wr_length_8 : Int) (wr_strongBegun_9 : Int) (wr_softBegun_10 : Int) => Q wr_bytes_7 wr_length_8 wr_strongBegun_9 wr_softBegun_10)) ∧ (¬ a2 ≤ x6 → (0 ≤ x6 ∧ x6 < 600) ∧ (jn5 (fun (J2 : (Nat → Int) → Int → Int → Int → Int → Prop) => ((wr_layers (Int.toNat x6)) = x5 → J2 wr_bytes_1 wr_length_2 wr_strongBegun_3 wr_softBegun_4 x5) ∧ (¬ (wr_layers (Int.toNat x6)) = x5 → (0 ≤ x6 ∧ x6 < 600) ∧ (wp_Writer_changeMarks wr_bytes_1 wr_length_2 wr_strongBegun_3 wr_softBegun_4 x5 (wr_layers (Int.toNat x6)) (fun (wr_bytes_19 : (Nat → Int)) (wr_length_20 : Int) (wr_strongBegun_21 : Int) (wr_softBegun_22 : Int) => (0 ≤ x6 ∧ x6 < 600) ∧ (J2 wr_bytes_19 wr_length_20 wr_strongBegun_21 wr_softBegun_22 (wr_layers (Int.toNat x6))))))) (fun (wr_bytes_11 : (Nat → Int)) (wr_length_12 : Int) (wr_strongBegun_13 : Int) (wr_softBegun_14 : Int) (x15 : Int) => wp_Page_at pg_bytes pg_length x6 (fun (r16 : Int) => wp_Writer_putEscaped wr_bytes_11 wr_length_12 r16 (fun (wr_bytes_17 : (Nat → Int)) (wr_length_18 : Int) => (rng (x6 + 1)) ∧ (k1 wr_bytes_17 wr_length_18 wr_strongBegun_13 wr_softBegun_14 x15 (x6 + 1)))))))) wr_bytes wr_length wr_strongBegun wr_softBegun 0 a1
set_option maxHeartbeats 4000000 in
set_option maxRecDepth 20000 in
theorem s_Writer_putPassage (l : Launch) (w : St) (a1 : Int) (a2 : Int) (P : (Nat → Int) → Int → Int → Int → Prop) (h : wp_Writer_putPassage (w.1 4) (w.1 42) (w.1 43) (w.1 3 14) (w.1 41 6) (w.1 41 7) (w.1 41 8) a1 a2 P) : Cn l yX8_putPassage cX8_putPassage 5 none 7 LX w [aR 41, aI a1, aI a2] (okV (fun w1 => ∃ (o0 : (Nat → Int)) (o1 : Int) (o2 : Int) (o3 : Int), w1 = (wI (wI (wI (wA w 43 o0) 41 6 o1) 41 7 o2) 41 8 o3) ∧ P o0 o1 o2 o3)) := by
  unfold wp_Writer_putPassage at h
  refine Cn.of2 [some (aR 41), some (aI a1), some (aI a2), none, none] (by decide) (Nat.le_of_ble_eq_true rfl) rfl (fun p e s m args below meth c D cA ad A Q hQ hC hr hk => ?_)
  refine r_iconst (pc := 0) hC dX8_putPassage_0 (rng_lit rfl) ?_
  refine r_istore_n (ls2 := [some (aR 41), some (aI a1), some (aI a2), some (aI 0), none]) (pc := 1) hC 3 dX8_putPassage_1 rfl (by decide) rfl rfl ?_
  refine r_iload_n (pc := 2) hC 1 dX8_putPassage_2 rfl rfl ?_
  refine r_istore (ls2 := [some (aR 41), some (aI a1), some (aI a2), some (aI 0), some (aI a1)]) (pc := 3) hC dX8_putPassage_3 (by decide) rfl rfl ?_
  obtain ⟨I1, μ1, hI1, hB1⟩ := h
  have S1 : ∀ (nn : Nat) (wr_bytes_1 : (Nat → Int)) (wr_length_2 : Int) (wr_strongBegun_3 : Int) (wr_softBegun_4 : Int) (x5 : Int) (x6 : Int), μ1 wr_bytes_1 wr_length_2 wr_strongBegun_3 wr_softBegun_4 x5 x6 < nn → I1 wr_bytes_1 wr_length_2 wr_strongBegun_3 wr_softBegun_4 x5 x6 → Wd p l e (rmD 7) s m args below meth c Q 0 0 5 D cA ad A LX (wI (wI (wI (wA w 43 wr_bytes_1) 41 6 wr_length_2) 41 7 wr_strongBegun_3) 41 8 wr_softBegun_4) 5 [some (aR 41), none, some (aI a2), some (aI x5), some (aI x6)] [] := by
    intro nn
    induction nn with
    | zero => intro wr_bytes_1 wr_length_2 wr_strongBegun_3 wr_softBegun_4 x5 x6 hn; exact absurd hn (Nat.not_lt_zero _)
    | succ nn ih1 =>
      intro wr_bytes_1 wr_length_2 wr_strongBegun_3 wr_softBegun_4 x5 x6 hn1 hi
      have h := hB1 wr_bytes_1 wr_length_2 wr_strongBegun_3 wr_softBegun_4 x5 x6 hi
      refine r_iload (pc := 5) hC dX8_putPassage_5 rfl ?_
      refine r_iload_n (pc := 7) hC 2 dX8_putPassage_7 rfl rfl ?_
      refine r_ic_ge (pc := 8) (tgt := 61) hC dX8_putPassage_8 rfl (fun hc2 => ?_) (fun hc2 => ?_)
      · have h := h.1 hc2
        refine r_aload_n (pc := 61) hC 0 dX8_putPassage_61 rfl rfl ?_
        refine r_iload_n (pc := 62) hC 3 dX8_putPassage_62 rfl rfl ?_
        refine r_iconst (pc := 63) hC dX8_putPassage_63 (rng_lit rfl) ?_
        refine r_callVv (pc := 64) hC [aI x5, aI 0] [] dX8_putPassage_64 ml_RX8_162 my_X8_changeMarks mi_X8_changeMarks lX_41 rfl rfl ⟨Nat.le_of_ble_eq_true rfl, Nat.le_of_ble_eq_true rfl⟩ ⟨Nat.le_of_ble_eq_true rfl, Nat.le_of_ble_eq_true rfl⟩ (Nat.le_of_ble_eq_true rfl) rfl (s_Writer_changeMarks l _ _ _ _ h) (fun w1 hq => ?_)
        obtain ⟨wr_bytes_7, wr_length_8, wr_strongBegun_9, wr_softBegun_10, e9, h⟩ := hq
        rw [e9]
        refine r_conv (w2 := (wI (wI (wI (wA w 43 wr_bytes_7) 41 6 wr_length_8) 41 7 wr_strongBegun_9) 41 8 wr_softBegun_10)) rfl ?_
        exact r_retv (pc := 67) hC hQ dX8_putPassage_67 hr hk ⟨wr_bytes_7, wr_length_8, wr_strongBegun_9, wr_softBegun_10, rfl, h⟩
      have h := h.2 hc2
      refine r_aload_n (pc := 11) hC 0 dX8_putPassage_11 rfl rfl ?_
      refine r_getr (r := 42) (pc := 12) hC dX8_putPassage_12 fl_RX8_9 lX_41 rfl ?_
      refine r_iload (pc := 15) hC dX8_putPassage_15 rfl ?_
      refine r_iald (v := ((w.1 42) (Int.toNat x6))) (pc := 17) hC dX8_putPassage_17 lX_42 h.1.1 h.1.2 rfl ?_
      have h := h.2
      refine r_iload_n (pc := 18) hC 3 dX8_putPassage_18 rfl rfl ?_
      obtain ⟨J2, hJ2, h⟩ := h
      have S2 : ∀ (wr_bytes_11 : (Nat → Int)) (wr_length_12 : Int) (wr_strongBegun_13 : Int) (wr_softBegun_14 : Int) (x15 : Int), J2 wr_bytes_11 wr_length_12 wr_strongBegun_13 wr_softBegun_14 x15 → Wd p l e (rmD 7) s m args below meth c Q 0 0 5 D cA ad A LX (wI (wI (wI (wA w 43 wr_bytes_11) 41 6 wr_length_12) 41 7 wr_strongBegun_13) 41 8 wr_softBegun_14) 42 [some (aR 41), none, some (aI a2), some (aI x15), some (aI x6)] [] := by
        intro wr_bytes_11 wr_length_12 wr_strongBegun_13 wr_softBegun_14 x15 hj
        have h := hJ2 wr_bytes_11 wr_length_12 wr_strongBegun_13 wr_softBegun_14 x15 hj
        refine r_aload_n (pc := 42) hC 0 dX8_putPassage_42 rfl rfl ?_
        refine r_aload_n (pc := 43) hC 0 dX8_putPassage_43 rfl rfl ?_
        refine r_getr (r := 3) (pc := 44) hC dX8_putPassage_44 fl_RX8_18 lX_41 rfl ?_
        refine r_iload (pc := 47) hC dX8_putPassage_47 rfl ?_
        refine r_callVi (pc := 49) hC [aI x6] [aR 41] dX8_putPassage_49 ml_RX8_165 my_X1_at mi_X1_at lX_3 rfl rfl ⟨Nat.le_of_ble_eq_true rfl, Nat.le_of_ble_eq_true rfl⟩ ⟨Nat.le_of_ble_eq_true rfl, Nat.le_of_ble_eq_true rfl⟩ (Nat.le_of_ble_eq_true rfl) rfl (s_Page_at l _ _ _ h) (fun r16 w1 hq => ?_)
        obtain ⟨e9, h⟩ := hq
        rw [e9]
        refine r_callVv (pc := 52) hC [aI r16] [] dX8_putPassage_52 ml_RX8_168 my_X8_putEscaped mi_X8_putEscaped lX_41 rfl rfl ⟨Nat.le_of_ble_eq_true rfl, Nat.le_of_ble_eq_true rfl⟩ ⟨Nat.le_of_ble_eq_true rfl, Nat.le_of_ble_eq_true rfl⟩ (Nat.le_of_ble_eq_true rfl) rfl (s_Writer_putEscaped l _ _ _ h) (fun w1 hq => ?_)
        obtain ⟨wr_bytes_17, wr_length_18, e9, h⟩ := hq
        rw [e9]
        refine r_iinc (ls2 := [some (aR 41), none, some (aI a2), some (aI x15), some (aI (x6 + 1))]) (pc := 55) hC dX8_putPassage_55 rfl (by decide) rfl h.1 rfl ?_
        have h := h.2
        refine r_goto (tgt := 5) (pc := 58) hC dX8_putPassage_58 rfl ?_
        exact r_to [true, false, true, true, true] rfl rfl (ih1 wr_bytes_17 wr_length_18 wr_strongBegun_13 wr_softBegun_14 x15 (x6 + 1) (Nat.lt_of_lt_of_le h.2 (Nat.le_of_lt_succ hn1)) h.1)
      refine r_ic_eq (pc := 19) (tgt := 42) hC dX8_putPassage_19 rfl (fun hc1 => ?_) (fun hc1 => ?_)
      · have h := h.1 hc1
        exact r_to [true, false, true, true, true] rfl rfl (S2 wr_bytes_1 wr_length_2 wr_strongBegun_3 wr_softBegun_4 x5 h)
      have h := h.2 hc1
      refine r_aload_n (pc := 22) hC 0 dX8_putPassage_22 rfl rfl ?_
      refine r_iload_n (pc := 23) hC 3 dX8_putPassage_23 rfl rfl ?_
      refine r_aload_n (pc := 24) hC 0 dX8_putPassage_24 rfl rfl ?_
      refine r_getr (r := 42) (pc := 25) hC dX8_putPassage_25 fl_RX8_9 lX_41 rfl ?_
      refine r_iload (pc := 28) hC dX8_putPassage_28 rfl ?_
      refine r_iald (v := ((w.1 42) (Int.toNat x6))) (pc := 30) hC dX8_putPassage_30 lX_42 h.1.1 h.1.2 rfl ?_
      have h := h.2
      refine r_callVv (pc := 31) hC [aI x5, aI ((w.1 42) (Int.toNat x6))] [] dX8_putPassage_31 ml_RX8_162 my_X8_changeMarks mi_X8_changeMarks lX_41 rfl rfl ⟨Nat.le_of_ble_eq_true rfl, Nat.le_of_ble_eq_true rfl⟩ ⟨Nat.le_of_ble_eq_true rfl, Nat.le_of_ble_eq_true rfl⟩ (Nat.le_of_ble_eq_true rfl) rfl (s_Writer_changeMarks l _ _ _ _ h) (fun w1 hq => ?_)
      obtain ⟨wr_bytes_19, wr_length_20, wr_strongBegun_21, wr_softBegun_22, e9, h⟩ := hq
      rw [e9]
      refine r_aload_n (pc := 34) hC 0 dX8_putPassage_34 rfl rfl ?_
      refine r_getr (r := 42) (pc := 35) hC dX8_putPassage_35 fl_RX8_9 lX_41 rfl ?_
      refine r_iload (pc := 38) hC dX8_putPassage_38 rfl ?_
      refine r_iald (v := ((w.1 42) (Int.toNat x6))) (pc := 40) hC dX8_putPassage_40 lX_42 h.1.1 h.1.2 rfl ?_
      have h := h.2
      refine r_istore_n (ls2 := [some (aR 41), none, some (aI a2), some (aI ((w.1 42) (Int.toNat x6))), some (aI x6)]) (pc := 41) hC 3 dX8_putPassage_41 rfl (by decide) rfl rfl ?_
      exact r_to [true, false, true, true, true] rfl rfl (S2 wr_bytes_19 wr_length_20 wr_strongBegun_21 wr_softBegun_22 ((w.1 42) (Int.toNat x6)) h)
  exact r_to [true, false, true, true, true] rfl rfl (S1 _ (w.1 43) (w.1 41 6) (w.1 41 7) (w.1 41 8) 0 a1 (Nat.lt_succ_self _) hI1)
def wp_Writer_writeWidest (pg_bytes : (Nat → Int)) (pg_signAt : (Nat → Int)) (pg_wordBegin : (Nat → Int)) (pg_wordEnd : (Nat → Int)) (pg_wordSentence : (Nat → Int)) (qy_weights : (Nat → Int)) (qy_termCounts : (Nat → Int)) (mt_beginning : (Nat → Int)) (mt_ending : (Nat → Int)) (wr_layers : (Nat → Int)) (wr_bytes : (Nat → Int)) (pg_length : Int) (pg_words : Int) (qy_softItems : Int) (qy_items : Int) (wi_first : Int) (wi_last : Int) (wi_worth : Int) (wi_whole : Int) (wr_length : Int) (wr_strongBegun : Int) (wr_softBegun : Int) (a1 : Int) (Q : (Nat → Int) → (Nat → Int) → Int → Int → Int → Int → Int → Int → Int → Prop) : Prop := wp_Writer_begin wr_layers wr_length wr_strongBegun wr_softBegun (fun (wr_layers_1 : (Nat → Int)) (wr_length_2 : Int) (wr_strongBegun_3 : Int) (wr_softBegun_4 : Int) => (rng (pg_words - 1)) ∧ (wp_Windows_seekWidest pg_signAt pg_wordBegin pg_wordEnd qy_weights qy_termCounts mt_beginning mt_ending qy_items wi_first wi_last wi_worth wi_whole 0 (pg_words - 1) a1 (fun (wi_first_5 : Int) (wi_last_6 : Int) (wi_worth_7 : Int) (wi_whole_8 : Int) => (¬ wi_first_5 = (-1) → wp_Writer_layMarks pg_bytes pg_wordBegin pg_wordEnd pg_wordSentence qy_termCounts mt_beginning wr_layers_1 pg_length qy_softItems qy_items wi_first_5 wi_last_6 (fun (wr_layers_9 : (Nat → Int)) => jn2 (fun (J1 : (Nat → Int) → Int → Prop) => (wi_first_5 ≤ 0 → J1 wr_bytes wr_length_2) ∧ (¬ wi_first_5 ≤ 0 → wp_Writer_put wr_bytes wr_length_2 11 (fun (wr_bytes_18 : (Nat → Int)) (wr_length_19 : Int) => J1 wr_bytes_18 wr_length_19))) (fun (wr_bytes_10 : (Nat → Int)) (wr_length_11 : Int) => (0 ≤ wi_first_5 ∧ wi_first_5 < 100) ∧ ((0 ≤ wi_last_6 ∧ wi_last_6 < 100) ∧ (wp_Writer_putPassage pg_bytes wr_layers_9 wr_bytes_10 pg_length wr_length_11 wr_strongBegun_3 wr_softBegun_4 (pg_wordBegin (Int.toNat wi_first_5)) (pg_wordEnd (Int.toNat wi_last_6)) (fun (wr_bytes_12 : (Nat → Int)) (wr_length_13 : Int) (wr_strongBegun_14 : Int) (wr_softBegun_15 : Int) => (rng (pg_words - 1)) ∧ (((pg_words - 1) ≤ wi_last_6 → Q wr_layers_9 wr_bytes_12 wi_first_5 wi_last_6 wi_worth_7 wi_whole_8 wr_length_13 wr_strongBegun_14 wr_softBegun_15) ∧ (¬ (pg_words - 1) ≤ wi_last_6 → wp_Writer_put wr_bytes_12 wr_length_13 11 (fun (wr_bytes_16 : (Nat → Int)) (wr_length_17 : Int) => Q wr_layers_9 wr_bytes_16 wi_first_5 wi_last_6 wi_worth_7 wi_whole_8 wr_length_17 wr_strongBegun_14 wr_softBegun_15))))))))) ∧ (wi_first_5 = (-1) → Q wr_layers_1 wr_bytes wi_first_5 wi_last_6 wi_worth_7 wi_whole_8 wr_length_2 wr_strongBegun_3 wr_softBegun_4))))
set_option maxHeartbeats 4000000 in
set_option maxRecDepth 20000 in
theorem s_Writer_writeWidest (l : Launch) (w : St) (a1 : Int) (P : (Nat → Int) → (Nat → Int) → Int → Int → Int → Int → Int → Int → Int → Prop) (h : wp_Writer_writeWidest (w.1 4) (w.1 6) (w.1 7) (w.1 8) (w.1 9) (w.1 19) (w.1 20) (w.1 30) (w.1 31) (w.1 42) (w.1 43) (w.1 3 14) (w.1 3 16) (w.1 18 5) (w.1 18 6) (w.1 34 5) (w.1 34 6) (w.1 34 7) (w.1 34 8) (w.1 41 6) (w.1 41 7) (w.1 41 8) a1 P) : Cn l yX8_writeWidest cX8_writeWidest 4 none 8 LX w [aR 41, aI a1] (okV (fun w1 => ∃ (o0 : (Nat → Int)) (o1 : (Nat → Int)) (o2 : Int) (o3 : Int) (o4 : Int) (o5 : Int) (o6 : Int) (o7 : Int) (o8 : Int), w1 = (wI (wI (wI (wI (wI (wI (wI (wA (wA w 42 o0) 43 o1) 34 5 o2) 34 6 o3) 34 7 o4) 34 8 o5) 41 6 o6) 41 7 o7) 41 8 o8) ∧ P o0 o1 o2 o3 o4 o5 o6 o7 o8)) := by
  unfold wp_Writer_writeWidest at h
  refine Cn.of2 [some (aR 41), some (aI a1), none, none] (by decide) (Nat.le_of_ble_eq_true rfl) rfl (fun p e s m args below meth c D cA ad A Q hQ hC hr hk => ?_)
  refine r_aload_n (pc := 0) hC 0 dX8_writeWidest_0 rfl rfl ?_
  refine r_callVv (pc := 1) hC [] [] dX8_writeWidest_1 ml_RX8_50 my_X8_begin mi_X8_begin lX_41 rfl rfl ⟨Nat.le_of_ble_eq_true rfl, Nat.le_of_ble_eq_true rfl⟩ ⟨Nat.le_of_ble_eq_true rfl, Nat.le_of_ble_eq_true rfl⟩ (Nat.le_of_ble_eq_true rfl) rfl (s_Writer_begin l _ _ h) (fun w1 hq => ?_)
  obtain ⟨wr_layers_1, wr_length_2, wr_strongBegun_3, wr_softBegun_4, e9, h⟩ := hq
  rw [e9]
  refine r_aload_n (pc := 4) hC 0 dX8_writeWidest_4 rfl rfl ?_
  refine r_getr (r := 34) (pc := 5) hC dX8_writeWidest_5 fl_RX8_30 lX_41 rfl ?_
  refine r_iconst (pc := 8) hC dX8_writeWidest_8 (rng_lit rfl) ?_
  refine r_aload_n (pc := 9) hC 0 dX8_writeWidest_9 rfl rfl ?_
  refine r_getr (r := 3) (pc := 10) hC dX8_writeWidest_10 fl_RX8_18 lX_41 rfl ?_
  refine r_get (kd := 0) (v := (w.1 3 16)) (pc := 13) hC dX8_writeWidest_13 fl_RX8_53 lX_3 rfl rfl ?_
  refine r_iconst (pc := 16) hC dX8_writeWidest_16 (rng_lit rfl) ?_
  refine r_isub (pc := 17) hC dX8_writeWidest_17 h.1 ?_
  have h := h.2
  refine r_iload_n (pc := 18) hC 1 dX8_writeWidest_18 rfl rfl ?_
  refine r_callVv (pc := 19) hC [aI 0, aI ((w.1 3 16) - 1), aI a1] [] dX8_writeWidest_19 ml_RX8_58 my_X7_seekWidest mi_X7_seekWidest lX_34 rfl rfl ⟨Nat.le_of_ble_eq_true rfl, Nat.le_of_ble_eq_true rfl⟩ ⟨Nat.le_of_ble_eq_true rfl, Nat.le_of_ble_eq_true rfl⟩ (Nat.le_of_ble_eq_true rfl) rfl (s_Windows_seekWidest l _ _ _ _ _ h) (fun w1 hq => ?_)
  obtain ⟨wi_first_5, wi_last_6, wi_worth_7, wi_whole_8, e9, h⟩ := hq
  rw [e9]
  refine r_aload_n (pc := 22) hC 0 dX8_writeWidest_22 rfl rfl ?_
  refine r_getr (r := 34) (pc := 23) hC dX8_writeWidest_23 fl_RX8_30 lX_41 rfl ?_
  refine r_get (kd := 0) (v := wi_first_5) (pc := 26) hC dX8_writeWidest_26 fl_RX8_64 lX_34 rfl rfl ?_
  refine r_istore_n (ls2 := [some (aR 41), some (aI a1), some (aI wi_first_5), none]) (pc := 29) hC 2 dX8_writeWidest_29 rfl (by decide) rfl rfl ?_
  refine r_aload_n (pc := 30) hC 0 dX8_writeWidest_30 rfl rfl ?_
  refine r_getr (r := 34) (pc := 31) hC dX8_writeWidest_31 fl_RX8_30 lX_41 rfl ?_
  refine r_get (kd := 0) (v := wi_last_6) (pc := 34) hC dX8_writeWidest_34 fl_RX8_67 lX_34 rfl rfl ?_
  refine r_istore_n (ls2 := [some (aR 41), some (aI a1), some (aI wi_first_5), some (aI wi_last_6)]) (pc := 37) hC 3 dX8_writeWidest_37 rfl (by decide) rfl rfl ?_
  refine r_iload_n (pc := 38) hC 2 dX8_writeWidest_38 rfl rfl ?_
  refine r_iconst (pc := 39) hC dX8_writeWidest_39 (rng_lit rfl) ?_
  refine r_ic_ne (pc := 40) (tgt := 44) hC dX8_writeWidest_40 rfl (fun hc3 => ?_) (fun hc3 => ?_)
  · have h := h.1 hc3
    refine r_aload_n (pc := 44) hC 0 dX8_writeWidest_44 rfl rfl ?_
    refine r_iload_n (pc := 45) hC 2 dX8_writeWidest_45 rfl rfl ?_
    refine r_iload_n (pc := 46) hC 3 dX8_writeWidest_46 rfl rfl ?_
    refine r_callVv (pc := 47) hC [aI wi_first_5, aI wi_last_6] [] dX8_writeWidest_47 ml_RX8_70 my_X8_layMarks mi_X8_layMarks lX_41 rfl rfl ⟨Nat.le_of_ble_eq_true rfl, Nat.le_of_ble_eq_true rfl⟩ ⟨Nat.le_of_ble_eq_true rfl, Nat.le_of_ble_eq_true rfl⟩ (Nat.le_of_ble_eq_true rfl) rfl (s_Writer_layMarks l _ _ _ _ h) (fun w1 hq => ?_)
    obtain ⟨wr_layers_9, e9, h⟩ := hq
    rw [e9]
    refine r_iload_n (pc := 50) hC 2 dX8_writeWidest_50 rfl rfl ?_
    obtain ⟨J1, hJ1, h⟩ := h
    have S1 : ∀ (wr_bytes_10 : (Nat → Int)) (wr_length_11 : Int), J1 wr_bytes_10 wr_length_11 → Wd p l e (rmD 8) s m args below meth c Q 0 0 4 D cA ad A LX (wI (wI (wI (wI (wI (wI (wI (wA (wA w 42 wr_layers_9) 43 wr_bytes_10) 34 5 wi_first_5) 34 6 wi_last_6) 34 7 wi_worth_7) 34 8 wi_whole_8) 41 6 wr_length_11) 41 7 wr_strongBegun_3) 41 8 wr_softBegun_4) 60 [some (aR 41), none, some (aI wi_first_5), some (aI wi_last_6)] [] := by
      intro wr_bytes_10 wr_length_11 hj
      have h := hJ1 wr_bytes_10 wr_length_11 hj
      refine r_aload_n (pc := 60) hC 0 dX8_writeWidest_60 rfl rfl ?_
      refine r_aload_n (pc := 61) hC 0 dX8_writeWidest_61 rfl rfl ?_
      refine r_getr (r := 3) (pc := 62) hC dX8_writeWidest_62 fl_RX8_18 lX_41 rfl ?_
      refine r_getr (r := 7) (pc := 65) hC dX8_writeWidest_65 fl_RX8_80 lX_3 rfl ?_
      refine r_iload_n (pc := 68) hC 2 dX8_writeWidest_68 rfl rfl ?_
      refine r_iald (v := ((w.1 7) (Int.toNat wi_first_5))) (pc := 69) hC dX8_writeWidest_69 lX_7 h.1.1 h.1.2 rfl ?_
      have h := h.2
      refine r_aload_n (pc := 70) hC 0 dX8_writeWidest_70 rfl rfl ?_
      refine r_getr (r := 3) (pc := 71) hC dX8_writeWidest_71 fl_RX8_18 lX_41 rfl ?_
      refine r_getr (r := 8) (pc := 74) hC dX8_writeWidest_74 fl_RX8_83 lX_3 rfl ?_
      refine r_iload_n (pc := 77) hC 3 dX8_writeWidest_77 rfl rfl ?_
      refine r_iald (v := ((w.1 8) (Int.toNat wi_last_6))) (pc := 78) hC dX8_writeWidest_78 lX_8 h.1.1 h.1.2 rfl ?_
      have h := h.2
      refine r_callVv (pc := 79) hC [aI ((w.1 7) (Int.toNat wi_first_5)), aI ((w.1 8) (Int.toNat wi_last_6))] [] dX8_writeWidest_79 ml_RX8_86 my_X8_putPassage mi_X8_putPassage lX_41 rfl rfl ⟨Nat.le_of_ble_eq_true rfl, Nat.le_of_ble_eq_true rfl⟩ ⟨Nat.le_of_ble_eq_true rfl, Nat.le_of_ble_eq_true rfl⟩ (Nat.le_of_ble_eq_true rfl) rfl (s_Writer_putPassage l _ _ _ _ h) (fun w1 hq => ?_)
      obtain ⟨wr_bytes_12, wr_length_13, wr_strongBegun_14, wr_softBegun_15, e9, h⟩ := hq
      rw [e9]
      refine r_iload_n (pc := 82) hC 3 dX8_writeWidest_82 rfl rfl ?_
      refine r_aload_n (pc := 83) hC 0 dX8_writeWidest_83 rfl rfl ?_
      refine r_getr (r := 3) (pc := 84) hC dX8_writeWidest_84 fl_RX8_18 lX_41 rfl ?_
      refine r_get (kd := 0) (v := (w.1 3 16)) (pc := 87) hC dX8_writeWidest_87 fl_RX8_53 lX_3 rfl rfl ?_
      refine r_iconst (pc := 90) hC dX8_writeWidest_90 (rng_lit rfl) ?_
      refine r_isub (pc := 91) hC dX8_writeWidest_91 h.1 ?_
      have h := h.2
      refine r_ic_ge (pc := 92) (tgt := 101) hC dX8_writeWidest_92 rfl (fun hc1 => ?_) (fun hc1 => ?_)
      · have h := h.1 hc1
        refine r_conv (w2 := (wI (wI (wI (wI (wI (wI (wI (wA (wA w 42 wr_layers_9) 43 wr_bytes_12) 34 5 wi_first_5) 34 6 wi_last_6) 34 7 wi_worth_7) 34 8 wi_whole_8) 41 6 wr_length_13) 41 7 wr_strongBegun_14) 41 8 wr_softBegun_15)) rfl ?_
        exact r_retv (pc := 101) hC hQ dX8_writeWidest_101 hr hk ⟨wr_layers_9, wr_bytes_12, wi_first_5, wi_last_6, wi_worth_7, wi_whole_8, wr_length_13, wr_strongBegun_14, wr_softBegun_15, rfl, h⟩
      have h := h.2 hc1
      refine r_aload_n (pc := 95) hC 0 dX8_writeWidest_95 rfl rfl ?_
      refine r_ldcs (j := 11) (pc := 96) hC dX8_writeWidest_96 rfl ⟨rfl, rfl⟩ ?_
      refine r_callVv (pc := 98) hC [aR (10000 + 11)] [] dX8_writeWidest_98 ml_RX8_76 my_X8_put mi_X8_put lX_41 rfl rfl ⟨Nat.le_of_ble_eq_true rfl, Nat.le_of_ble_eq_true rfl⟩ ⟨Nat.le_of_ble_eq_true rfl, Nat.le_of_ble_eq_true rfl⟩ (Nat.le_of_ble_eq_true rfl) rfl (s_Writer_put l _ _ _ h) (fun w1 hq => ?_)
      obtain ⟨wr_bytes_16, wr_length_17, e9, h⟩ := hq
      rw [e9]
      refine r_conv (w2 := (wI (wI (wI (wI (wI (wI (wI (wA (wA w 42 wr_layers_9) 43 wr_bytes_16) 34 5 wi_first_5) 34 6 wi_last_6) 34 7 wi_worth_7) 34 8 wi_whole_8) 41 6 wr_length_17) 41 7 wr_strongBegun_14) 41 8 wr_softBegun_15)) rfl ?_
      exact r_retv (pc := 101) hC hQ dX8_writeWidest_101 hr hk ⟨wr_layers_9, wr_bytes_16, wi_first_5, wi_last_6, wi_worth_7, wi_whole_8, wr_length_17, wr_strongBegun_14, wr_softBegun_15, rfl, h⟩
    refine r_if_le (pc := 51) (tgt := 60) hC dX8_writeWidest_51 rfl (fun hc2 => ?_) (fun hc2 => ?_)
    · have h := h.1 hc2
      exact r_to [true, false, true, true] rfl rfl (S1 (w.1 43) wr_length_2 h)
    have h := h.2 hc2
    refine r_aload_n (pc := 54) hC 0 dX8_writeWidest_54 rfl rfl ?_
    refine r_ldcs (j := 11) (pc := 55) hC dX8_writeWidest_55 rfl ⟨rfl, rfl⟩ ?_
    refine r_callVv (pc := 57) hC [aR (10000 + 11)] [] dX8_writeWidest_57 ml_RX8_76 my_X8_put mi_X8_put lX_41 rfl rfl ⟨Nat.le_of_ble_eq_true rfl, Nat.le_of_ble_eq_true rfl⟩ ⟨Nat.le_of_ble_eq_true rfl, Nat.le_of_ble_eq_true rfl⟩ (Nat.le_of_ble_eq_true rfl) rfl (s_Writer_put l _ _ _ h) (fun w1 hq => ?_)
    obtain ⟨wr_bytes_18, wr_length_19, e9, h⟩ := hq
    rw [e9]
    exact r_to [true, false, true, true] rfl rfl (S1 wr_bytes_18 wr_length_19 h)
  have h := h.2 hc3
  refine r_conv (w2 := (wI (wI (wI (wI (wI (wI (wI (wA (wA w 42 wr_layers_1) 43 (w.1 43)) 34 5 wi_first_5) 34 6 wi_last_6) 34 7 wi_worth_7) 34 8 wi_whole_8) 41 6 wr_length_2) 41 7 wr_strongBegun_3) 41 8 wr_softBegun_4)) rfl ?_
  exact r_retv (pc := 43) hC hQ dX8_writeWidest_43 hr hk ⟨wr_layers_1, (w.1 43), wi_first_5, wi_last_6, wi_worth_7, wi_whole_8, wr_length_2, wr_strongBegun_3, wr_softBegun_4, rfl, h⟩
def wp_Writer_putJoint (wr_bytes : (Nat → Int)) (wr_length : Int) (a1 : Int) (a2 : Int) (a3 : Int) (a4 : Int) (Q : (Nat → Int) → Int → Prop) : Prop := (¬ a1 = (-1) → (rng (a1 + 1)) ∧ (jn0 (fun (J1 : Prop) => (¬ a3 = (a1 + 1) → J1) ∧ (a3 = (a1 + 1) → (¬ a2 = 0 → J1) ∧ (a2 = 0 → (¬ a4 = 0 → J1) ∧ (a4 = 0 → wp_Writer_put wr_bytes wr_length 21 (fun (wr_bytes_3 : (Nat → Int)) (wr_length_4 : Int) => Q wr_bytes_3 wr_length_4))))) (wp_Writer_put wr_bytes wr_length 22 (fun (wr_bytes_1 : (Nat → Int)) (wr_length_2 : Int) => Q wr_bytes_1 wr_length_2)))) ∧ (a1 = (-1) → jn1 (fun (J2 : Nat → Prop) => (a4 = 0 → J2 20) ∧ (¬ a4 = 0 → J2 11)) (fun (y5 : Nat) => wp_Writer_put wr_bytes wr_length y5 (fun (wr_bytes_6 : (Nat → Int)) (wr_length_7 : Int) => Q wr_bytes_6 wr_length_7)))
set_option maxHeartbeats 4000000 in
set_option maxRecDepth 20000 in
theorem s_Writer_putJoint (l : Launch) (w : St) (a1 : Int) (a2 : Int) (a3 : Int) (a4 : Int) (P : (Nat → Int) → Int → Prop) (h : wp_Writer_putJoint (w.1 43) (w.1 41 6) a1 a2 a3 a4 P) : Cn l yX8_putJoint cX8_putJoint 5 none 5 LX w [aR 41, aI a1, aI a2, aI a3, aI a4] (okV (fun w1 => ∃ (o0 : (Nat → Int)) (o1 : Int), w1 = (wI (wA w 43 o0) 41 6 o1) ∧ P o0 o1)) := by
  unfold wp_Writer_putJoint at h
  refine Cn.of2 [some (aR 41), some (aI a1), some (aI a2), some (aI a3), some (aI a4)] (by decide) (Nat.le_of_ble_eq_true rfl) rfl (fun p e s m args below meth c D cA ad A Q hQ hC hr hk => ?_)
  refine r_iload_n (pc := 0) hC 1 dX8_putJoint_0 rfl rfl ?_
  refine r_iconst (pc := 1) hC dX8_putJoint_1 (rng_lit rfl) ?_
  refine r_ic_ne (pc := 2) (tgt := 24) hC dX8_putJoint_2 rfl (fun hc5 => ?_) (fun hc5 => ?_)
  · have h := h.1 hc5
    refine r_iload_n (pc := 24) hC 3 dX8_putJoint_24 rfl rfl ?_
    refine r_iload_n (pc := 25) hC 1 dX8_putJoint_25 rfl rfl ?_
    refine r_iconst (pc := 26) hC dX8_putJoint_26 (rng_lit rfl) ?_
    refine r_iadd (pc := 27) hC dX8_putJoint_27 h.1 ?_
    have h := h.2
    obtain ⟨J1, hJ1, h⟩ := h
    have S1 : J1 → Wd p l e (rmD 5) s m args below meth c Q 0 0 5 D cA ad A LX w 49 [some (aR 41), none, none, none, none] [] := by
      intro hj
      have h := hJ1 hj
      refine r_aload_n (pc := 49) hC 0 dX8_putJoint_49 rfl rfl ?_
      refine r_ldcs (j := 22) (pc := 50) hC dX8_putJoint_50 rfl ⟨rfl, rfl⟩ ?_
      refine r_callVv (pc := 52) hC [aR (10000 + 22)] [] dX8_putJoint_52 ml_RX8_76 my_X8_put mi_X8_put lX_41 rfl rfl ⟨Nat.le_of_ble_eq_true rfl, Nat.le_of_ble_eq_true rfl⟩ ⟨Nat.le_of_ble_eq_true rfl, Nat.le_of_ble_eq_true rfl⟩ (Nat.le_of_ble_eq_true rfl) rfl (s_Writer_put l _ _ _ h) (fun w1 hq => ?_)
      obtain ⟨wr_bytes_1, wr_length_2, e9, h⟩ := hq
      rw [e9]
      refine r_conv (w2 := (wI (wA w 43 wr_bytes_1) 41 6 wr_length_2)) rfl ?_
      exact r_retv (pc := 55) hC hQ dX8_putJoint_55 hr hk ⟨wr_bytes_1, wr_length_2, rfl, h⟩
    refine r_ic_ne (pc := 28) (tgt := 49) hC dX8_putJoint_28 rfl (fun hc3 => ?_) (fun hc3 => ?_)
    · have h := h.1 hc3
      exact r_to [true, false, false, false, false] rfl rfl (S1 h)
    have h := h.2 hc3
    refine r_iload_n (pc := 31) hC 2 dX8_putJoint_31 rfl rfl ?_
    refine r_if_ne (pc := 32) (tgt := 49) hC dX8_putJoint_32 rfl (fun hc2 => ?_) (fun hc2 => ?_)
    · have h := h.1 hc2
      exact r_to [true, false, false, false, false] rfl rfl (S1 h)
    have h := h.2 hc2
    refine r_iload (pc := 35) hC dX8_putJoint_35 rfl ?_
    refine r_if_ne (pc := 37) (tgt := 49) hC dX8_putJoint_37 rfl (fun hc1 => ?_) (fun hc1 => ?_)
    · have h := h.1 hc1
      exact r_to [true, false, false, false, false] rfl rfl (S1 h)
    have h := h.2 hc1
    refine r_aload_n (pc := 40) hC 0 dX8_putJoint_40 rfl rfl ?_
    refine r_ldcs (j := 21) (pc := 41) hC dX8_putJoint_41 rfl ⟨rfl, rfl⟩ ?_
    refine r_callVv (pc := 43) hC [aR (10000 + 21)] [] dX8_putJoint_43 ml_RX8_76 my_X8_put mi_X8_put lX_41 rfl rfl ⟨Nat.le_of_ble_eq_true rfl, Nat.le_of_ble_eq_true rfl⟩ ⟨Nat.le_of_ble_eq_true rfl, Nat.le_of_ble_eq_true rfl⟩ (Nat.le_of_ble_eq_true rfl) rfl (s_Writer_put l _ _ _ h) (fun w1 hq => ?_)
    obtain ⟨wr_bytes_3, wr_length_4, e9, h⟩ := hq
    rw [e9]
    refine r_goto (tgt := 55) (pc := 46) hC dX8_putJoint_46 rfl ?_
    refine r_conv (w2 := (wI (wA w 43 wr_bytes_3) 41 6 wr_length_4)) rfl ?_
    exact r_retv (pc := 55) hC hQ dX8_putJoint_55 hr hk ⟨wr_bytes_3, wr_length_4, rfl, h⟩
  have h := h.2 hc5
  refine r_aload_n (pc := 5) hC 0 dX8_putJoint_5 rfl rfl ?_
  refine r_iload (pc := 6) hC dX8_putJoint_6 rfl ?_
  obtain ⟨J2, hJ2, h⟩ := h
  have S2 : ∀ (y5 : Nat), J2 y5 → Wd p l e (rmD 5) s m args below meth c Q 0 0 5 D cA ad A LX w 18 [none, none, none, none, none] [aR (10000 + y5), aR 41] := by
    intro y5 hj
    have h := hJ2 y5 hj
    refine r_callVv (pc := 18) hC [aR (10000 + y5)] [] dX8_putJoint_18 ml_RX8_76 my_X8_put mi_X8_put lX_41 rfl rfl ⟨Nat.le_of_ble_eq_true rfl, Nat.le_of_ble_eq_true rfl⟩ ⟨Nat.le_of_ble_eq_true rfl, Nat.le_of_ble_eq_true rfl⟩ (Nat.le_of_ble_eq_true rfl) rfl (s_Writer_put l _ _ _ h) (fun w1 hq => ?_)
    obtain ⟨wr_bytes_6, wr_length_7, e9, h⟩ := hq
    rw [e9]
    refine r_goto (tgt := 55) (pc := 21) hC dX8_putJoint_21 rfl ?_
    refine r_conv (w2 := (wI (wA w 43 wr_bytes_6) 41 6 wr_length_7)) rfl ?_
    exact r_retv (pc := 55) hC hQ dX8_putJoint_55 hr hk ⟨wr_bytes_6, wr_length_7, rfl, h⟩
  refine r_if_eq (pc := 8) (tgt := 16) hC dX8_putJoint_8 rfl (fun hc4 => ?_) (fun hc4 => ?_)
  · have h := h.1 hc4
    refine r_ldcs (j := 20) (pc := 16) hC dX8_putJoint_16 rfl ⟨rfl, rfl⟩ ?_
    exact r_to [false, false, false, false, false] rfl rfl (S2 20 h)
  have h := h.2 hc4
  refine r_ldcs (j := 11) (pc := 11) hC dX8_putJoint_11 rfl ⟨rfl, rfl⟩ ?_
  refine r_goto (tgt := 18) (pc := 13) hC dX8_putJoint_13 rfl ?_
  exact r_to [false, false, false, false, false] rfl rfl (S2 11 h)
