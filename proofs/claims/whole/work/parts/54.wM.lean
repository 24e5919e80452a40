def wp_M_widestIn (m_wordFrom : (Nat → Int)) (m_wordTo : (Nat → Int)) (m_weight : (Nat → Int)) (m_terms : (Nat → Int)) (m_isMatch : (Nat → Int)) (m_inWindow : (Nat → Int)) (m_window : (Nat → Int)) (m_items : Int) (a1 : Int) (a2 : Int) (a3 : Int) (Q : Int → (Nat → Int) → (Nat → Int) → Prop) : Prop := (0 ≤ (3 : Int) ∧ (3 : Int) < 4) ∧ (lpw3 (fun (m_inWindow_1 : (Nat → Int)) (m_window_2 : (Nat → Int)) (x3 : Int) (k1 : (Nat → Int) → (Nat → Int) → Int → Prop) => (a2 < x3 → (0 ≤ (3 : Int) ∧ (3 : Int) < 4) ∧ (((m_window_2 (Int.toNat 3)) ≤ 0 → Q 0 m_inWindow_1 m_window_2) ∧ (¬ (m_window_2 (Int.toNat 3)) ≤ 0 → Q 1 m_inWindow_1 m_window_2))) ∧ (¬ a2 < x3 → lpw2 (fun (m_inWindow_4 : (Nat → Int)) (x5 : Int) (k2 : (Nat → Int) → Int → Prop) => (m_items ≤ x5 → lpw3 (fun (m_inWindow_6 : (Nat → Int)) (m_window_7 : (Nat → Int)) (x8 : Int) (k3 : (Nat → Int) → (Nat → Int) → Int → Prop) => jn0 (fun (J4 : Prop) => (a2 < x8 → J4) ∧ (¬ a2 < x8 → wp_M_longOf m_wordFrom m_wordTo x3 x8 (fun (r9 : Int) => (a3 < r9 → J4) ∧ (¬ a3 < r9 → lpw2 (fun (m_inWindow_10 : (Nat → Int)) (x11 : Int) (k5 : (Nat → Int) → Int → Prop) => (m_items ≤ x11 → wp_M_worthInWindow m_weight m_inWindow_10 m_items (fun (r12 : Int) => (0 ≤ (3 : Int) ∧ (3 : Int) < 4) ∧ (jn1 (fun (J6 : (Nat → Int) → Prop) => (r12 < (m_window_7 (Int.toNat 3)) → J6 m_window_7) ∧ (¬ r12 < (m_window_7 (Int.toNat 3)) → (r12 = 0 → J6 m_window_7) ∧ (¬ r12 = 0 → (0 ≤ (3 : Int) ∧ (3 : Int) < 4) ∧ (jn0 (fun (J7 : Prop) => (¬ r12 = (m_window_7 (Int.toNat 3)) → J7) ∧ (r12 = (m_window_7 (Int.toNat 3)) → wp_M_longOf m_wordFrom m_wordTo x3 x8 (fun (r15 : Int) => (0 ≤ (2 : Int) ∧ (2 : Int) < 4) ∧ ((r15 < (m_window_7 (Int.toNat 2)) → J7) ∧ (¬ r15 < (m_window_7 (Int.toNat 2)) → J6 m_window_7))))) ((0 ≤ (0 : Int) ∧ (0 : Int) < 4) ∧ ((0 ≤ (1 : Int) ∧ (1 : Int) < 4) ∧ (wp_M_longOf m_wordFrom m_wordTo x3 x8 (fun (r14 : Int) => (0 ≤ (2 : Int) ∧ (2 : Int) < 4) ∧ ((0 ≤ (3 : Int) ∧ (3 : Int) < 4) ∧ (J6 (uI (uI (uI (uI m_window_7 0 x3) 1 x8) 2 r14) 3 r12))))))))))) (fun (m_window_13 : (Nat → Int)) => (rng (x8 + 1)) ∧ (k3 m_inWindow_10 m_window_13 (x8 + 1)))))) ∧ (¬ m_items ≤ x11 → (0 ≤ x11 ∧ x11 < 8) ∧ (wp_M_endsAt m_terms m_isMatch x11 x8 x3 (fun (r16 : Int) => jn1 (fun (J8 : Int → Prop) => (r16 = 0 → J8 0) ∧ (¬ r16 = 0 → J8 1)) (fun (y17 : Int) => (rng ((m_inWindow_10 (Int.toNat x11)) + y17)) ∧ ((0 ≤ x11 ∧ x11 < 8) ∧ ((rng (x11 + 1)) ∧ (k5 (uI m_inWindow_10 x11 ((m_inWindow_10 (Int.toNat x11)) + y17)) (x11 + 1))))))))) m_inWindow_6 0)))) ((rng (x3 + 1)) ∧ (k1 m_inWindow_6 m_window_7 (x3 + 1)))) m_inWindow_4 m_window_2 x3) ∧ (¬ m_items ≤ x5 → (0 ≤ x5 ∧ x5 < 8) ∧ ((rng (x5 + 1)) ∧ (k2 (uI m_inWindow_4 x5 0) (x5 + 1))))) m_inWindow_1 0)) m_inWindow (uI m_window 3 0) a1)
set_option maxHeartbeats 4000000 in
set_option maxRecDepth 20000 in
theorem s_M_widestIn (l : Launch) (w : St) (a1 : Int) (a2 : Int) (a3 : Int) (P : Int → (Nat → Int) → (Nat → Int) → Prop) (h : wp_M_widestIn (w.1 5) (w.1 6) (w.1 12) (w.1 13) (w.1 27) (w.1 30) (w.1 32) (w.1 0 29) a1 a2 a3 P) : Cn l yX10_widestIn cX10_widestIn 7 (some .boolean) 2 LM w [aR 0, aI a1, aI a2, aI a3] (okI (fun r w1 => ∃ (o0 : (Nat → Int)) (o1 : (Nat → Int)), w1 = (wA (wA w 30 o0) 32 o1) ∧ P r o0 o1)) := by
  unfold wp_M_widestIn at h
  refine Cn.of2 [some (aR 0), some (aI a1), some (aI a2), some (aI a3), none, none, none] (by decide) (Nat.le_of_ble_eq_true rfl) rfl (fun p e s m args below meth c D cA ad A Q hQ hC hr hk => ?_)
  refine r_aload_n (pc := 0) hC 0 dX10_widestIn_0 rfl rfl ?_
  refine r_getr (r := 32) (pc := 1) hC dX10_widestIn_1 fl_RX10_109 lM_0 rfl ?_
  refine r_iconst (pc := 4) hC dX10_widestIn_4 (rng_lit rfl) ?_
  refine r_iconst (pc := 5) hC dX10_widestIn_5 (rng_lit rfl) ?_
  refine r_iast (pc := 6) hC dX10_widestIn_6 lM_32 h.1.1 h.1.2 ?_
  have h := h.2
  refine r_iload_n (pc := 7) hC 1 dX10_widestIn_7 rfl rfl ?_
  refine r_istore (ls2 := [some (aR 0), some (aI a1), some (aI a2), some (aI a3), some (aI a1), none, none]) (pc := 8) hC dX10_widestIn_8 (by decide) rfl rfl ?_
  obtain ⟨I1, μ1, hI1, hB1⟩ := h
  have S1 : ∀ (nn : Nat) (m_inWindow_1 : (Nat → Int)) (m_window_2 : (Nat → Int)) (x3 : Int), μ1 m_inWindow_1 m_window_2 x3 < nn → I1 m_inWindow_1 m_window_2 x3 → Wd p l e (rmD 2) s m args below meth c Q 0 0 7 D cA ad A LM (wA (wA w 30 m_inWindow_1) 32 m_window_2) 10 [some (aR 0), none, some (aI a2), some (aI a3), some (aI x3), none, none] [] := by
    intro nn
    induction nn with
    | zero => intro m_inWindow_1 m_window_2 x3 hn; exact absurd hn (Nat.not_lt_zero _)
    | succ nn ih1 =>
      intro m_inWindow_1 m_window_2 x3 hn1 hi
      have h := hB1 m_inWindow_1 m_window_2 x3 hi
      refine r_iload (pc := 10) hC dX10_widestIn_10 rfl ?_
      refine r_iload_n (pc := 12) hC 2 dX10_widestIn_12 rfl rfl ?_
      refine r_ic_gt (pc := 13) (tgt := 213) hC dX10_widestIn_13 rfl (fun hc11 => ?_) (fun hc11 => ?_)
      · have h := h.1 hc11
        refine r_aload_n (pc := 213) hC 0 dX10_widestIn_213 rfl rfl ?_
        refine r_getr (r := 32) (pc := 214) hC dX10_widestIn_214 fl_RX10_109 lM_0 rfl ?_
        refine r_iconst (pc := 217) hC dX10_widestIn_217 (rng_lit rfl) ?_
        refine r_iald (v := (m_window_2 (Int.toNat 3))) (pc := 218) hC dX10_widestIn_218 lM_32 h.1.1 h.1.2 rfl ?_
        have h := h.2
        refine r_if_le (pc := 219) (tgt := 226) hC dX10_widestIn_219 rfl (fun hc1 => ?_) (fun hc1 => ?_)
        · have h := h.1 hc1
          refine r_iconst (pc := 226) hC dX10_widestIn_226 (rng_lit rfl) ?_
          refine r_conv (w2 := (wA (wA w 30 m_inWindow_1) 32 m_window_2)) rfl ?_
          exact r_reti (pc := 227) (kd := 1) hC hQ dX10_widestIn_227 hr hk (by decide) (Or.inr okK1_0) ⟨m_inWindow_1, m_window_2, rfl, h⟩
        have h := h.2 hc1
        refine r_iconst (pc := 222) hC dX10_widestIn_222 (rng_lit rfl) ?_
        refine r_goto (tgt := 227) (pc := 223) hC dX10_widestIn_223 rfl ?_
        refine r_conv (w2 := (wA (wA w 30 m_inWindow_1) 32 m_window_2)) rfl ?_
        exact r_reti (pc := 227) (kd := 1) hC hQ dX10_widestIn_227 hr hk (by decide) (Or.inr okK1_1) ⟨m_inWindow_1, m_window_2, rfl, h⟩
      have h := h.2 hc11
      refine r_iconst (pc := 16) hC dX10_widestIn_16 (rng_lit rfl) ?_
      refine r_istore (ls2 := [some (aR 0), none, some (aI a2), some (aI a3), some (aI x3), some (aI 0), none]) (pc := 17) hC dX10_widestIn_17 (by decide) rfl rfl ?_
      obtain ⟨I2, μ2, hI2, hB2⟩ := h
      have S2 : ∀ (nn : Nat) (m_inWindow_4 : (Nat → Int)) (x5 : Int), μ2 m_inWindow_4 x5 < nn → I2 m_inWindow_4 x5 → Wd p l e (rmD 2) s m args below meth c Q 0 0 7 D cA ad A LM (wA (wA w 30 m_inWindow_4) 32 m_window_2) 19 [some (aR 0), none, some (aI a2), some (aI a3), some (aI x3), some (aI x5), none] [] := by
        intro nn
        induction nn with
        | zero => intro m_inWindow_4 x5 hn; exact absurd hn (Nat.not_lt_zero _)
        | succ nn ih2 =>
          intro m_inWindow_4 x5 hn2 hi
          have h := hB2 m_inWindow_4 x5 hi
          refine r_iload (pc := 19) hC dX10_widestIn_19 rfl ?_
          refine r_aload_n (pc := 21) hC 0 dX10_widestIn_21 rfl rfl ?_
          refine r_get (kd := 0) (v := (w.1 0 29)) (pc := 22) hC dX10_widestIn_22 fl_RX10_271 lM_0 rfl rfl ?_
          refine r_ic_ge (pc := 25) (tgt := 42) hC dX10_widestIn_25 rfl (fun hc10 => ?_) (fun hc10 => ?_)
          · have h := h.1 hc10
            refine r_iload (pc := 42) hC dX10_widestIn_42 rfl ?_
            refine r_istore (ls2 := [some (aR 0), none, some (aI a2), some (aI a3), some (aI x3), some (aI x3), none]) (pc := 44) hC dX10_widestIn_44 (by decide) rfl rfl ?_
            obtain ⟨I3, μ3, hI3, hB3⟩ := h
            have S3 : ∀ (nn : Nat) (m_inWindow_6 : (Nat → Int)) (m_window_7 : (Nat → Int)) (x8 : Int), μ3 m_inWindow_6 m_window_7 x8 < nn → I3 m_inWindow_6 m_window_7 x8 → Wd p l e (rmD 2) s m args below meth c Q 0 0 7 D cA ad A LM (wA (wA w 30 m_inWindow_6) 32 m_window_7) 46 [some (aR 0), none, some (aI a2), some (aI a3), some (aI x3), some (aI x8), none] [] := by
              intro nn
              induction nn with
              | zero => intro m_inWindow_6 m_window_7 x8 hn; exact absurd hn (Nat.not_lt_zero _)
              | succ nn ih3 =>
                intro m_inWindow_6 m_window_7 x8 hn3 hi
                have h := hB3 m_inWindow_6 m_window_7 x8 hi
                refine r_iload (pc := 46) hC dX10_widestIn_46 rfl ?_
                refine r_iload_n (pc := 48) hC 2 dX10_widestIn_48 rfl rfl ?_
                obtain ⟨J4, hJ4, h⟩ := h
                have S4 : J4 → Wd p l e (rmD 2) s m args below meth c Q 0 0 7 D cA ad A LM (wA (wA w 30 m_inWindow_6) 32 m_window_7) 207 [some (aR 0), none, some (aI a2), some (aI a3), some (aI x3), none, none] [] := by
                  intro hj
                  have h := hJ4 hj
                  refine r_iinc (ls2 := [some (aR 0), none, some (aI a2), some (aI a3), some (aI (x3 + 1)), none, none]) (pc := 207) hC dX10_widestIn_207 rfl (by decide) rfl h.1 rfl ?_
                  have h := h.2
                  refine r_goto (tgt := 10) (pc := 210) hC dX10_widestIn_210 rfl ?_
                  exact r_to [true, false, true, true, true, false, false] rfl rfl (ih1 m_inWindow_6 m_window_7 (x3 + 1) (Nat.lt_of_lt_of_le h.2 (Nat.le_of_lt_succ hn1)) h.1)
                refine r_ic_gt (pc := 49) (tgt := 207) hC dX10_widestIn_49 rfl (fun hc9 => ?_) (fun hc9 => ?_)
                · have h := h.1 hc9
                  exact r_to [true, false, true, true, true, false, false] rfl rfl (S4 h)
                have h := h.2 hc9
                refine r_aload_n (pc := 52) hC 0 dX10_widestIn_52 rfl rfl ?_
                refine r_iload (pc := 53) hC dX10_widestIn_53 rfl ?_
                refine r_iload (pc := 55) hC dX10_widestIn_55 rfl ?_
                refine r_callVi (pc := 57) hC [aI x3, aI x8] [] dX10_widestIn_57 ml_RX10_303 my_X10_longOf mi_X10_longOf lM_0 rfl rfl ⟨Nat.le_of_ble_eq_true rfl, Nat.le_of_ble_eq_true rfl⟩ ⟨Nat.le_of_ble_eq_true rfl, Nat.le_of_ble_eq_true rfl⟩ (Nat.le_of_ble_eq_true rfl) rfl (s_M_longOf l _ _ _ _ h) (fun r9 w1 hq => ?_)
                obtain ⟨e9, h⟩ := hq
                rw [e9]
                refine r_iload_n (pc := 60) hC 3 dX10_widestIn_60 rfl rfl ?_
                refine r_ic_gt (pc := 61) (tgt := 207) hC dX10_widestIn_61 rfl (fun hc8 => ?_) (fun hc8 => ?_)
                · have h := h.1 hc8
                  exact r_to [true, false, true, true, true, false, false] rfl rfl (S4 h)
                have h := h.2 hc8
                refine r_iconst (pc := 64) hC dX10_widestIn_64 (rng_lit rfl) ?_
                refine r_istore (ls2 := [some (aR 0), none, some (aI a2), some (aI a3), some (aI x3), some (aI x8), some (aI 0)]) (pc := 65) hC dX10_widestIn_65 (by decide) rfl rfl ?_
                obtain ⟨I5, μ5, hI5, hB5⟩ := h
                have S5 : ∀ (nn : Nat) (m_inWindow_10 : (Nat → Int)) (x11 : Int), μ5 m_inWindow_10 x11 < nn → I5 m_inWindow_10 x11 → Wd p l e (rmD 2) s m args below meth c Q 0 0 7 D cA ad A LM (wA (wA w 30 m_inWindow_10) 32 m_window_7) 67 [some (aR 0), none, some (aI a2), some (aI a3), some (aI x3), some (aI x8), some (aI x11)] [] := by
                  intro nn
                  induction nn with
                  | zero => intro m_inWindow_10 x11 hn; exact absurd hn (Nat.not_lt_zero _)
                  | succ nn ih5 =>
                    intro m_inWindow_10 x11 hn5 hi
                    have h := hB5 m_inWindow_10 x11 hi
                    refine r_iload (pc := 67) hC dX10_widestIn_67 rfl ?_
                    refine r_aload_n (pc := 69) hC 0 dX10_widestIn_69 rfl rfl ?_
                    refine r_get (kd := 0) (v := (w.1 0 29)) (pc := 70) hC dX10_widestIn_70 fl_RX10_271 lM_0 rfl rfl ?_
                    refine r_ic_ge (pc := 73) (tgt := 110) hC dX10_widestIn_73 rfl (fun hc7 => ?_) (fun hc7 => ?_)
                    · have h := h.1 hc7
                      refine r_aload_n (pc := 110) hC 0 dX10_widestIn_110 rfl rfl ?_
                      refine r_callVi (pc := 111) hC [] [] dX10_widestIn_111 ml_RX10_306 my_X10_worthInWindow mi_X10_worthInWindow lM_0 rfl rfl ⟨Nat.le_of_ble_eq_true rfl, Nat.le_of_ble_eq_true rfl⟩ ⟨Nat.le_of_ble_eq_true rfl, Nat.le_of_ble_eq_true rfl⟩ (Nat.le_of_ble_eq_true rfl) rfl (s_M_worthInWindow l _ _ h) (fun r12 w1 hq => ?_)
                      obtain ⟨e9, h⟩ := hq
                      rw [e9]
                      refine r_istore (ls2 := [some (aR 0), none, some (aI a2), some (aI a3), some (aI x3), some (aI x8), some (aI r12)]) (pc := 114) hC dX10_widestIn_114 (by decide) rfl rfl ?_
                      refine r_iload (pc := 116) hC dX10_widestIn_116 rfl ?_
                      refine r_aload_n (pc := 118) hC 0 dX10_widestIn_118 rfl rfl ?_
                      refine r_getr (r := 32) (pc := 119) hC dX10_widestIn_119 fl_RX10_109 lM_0 rfl ?_
                      refine r_iconst (pc := 122) hC dX10_widestIn_122 (rng_lit rfl) ?_
                      refine r_iald (v := (m_window_7 (Int.toNat 3))) (pc := 123) hC dX10_widestIn_123 lM_32 h.1.1 h.1.2 rfl ?_
                      have h := h.2
                      obtain ⟨J6, hJ6, h⟩ := h
                      have S6 : ∀ (m_window_13 : (Nat → Int)), J6 m_window_13 → Wd p l e (rmD 2) s m args below meth c Q 0 0 7 D cA ad A LM (wA (wA w 30 m_inWindow_10) 32 m_window_13) 201 [some (aR 0), none, some (aI a2), some (aI a3), some (aI x3), some (aI x8), none] [] := by
                        intro m_window_13 hj
                        have h := hJ6 m_window_13 hj
                        refine r_iinc (ls2 := [some (aR 0), none, some (aI a2), some (aI a3), some (aI x3), some (aI (x8 + 1)), none]) (pc := 201) hC dX10_widestIn_201 rfl (by decide) rfl h.1 rfl ?_
                        have h := h.2
                        refine r_goto (tgt := 46) (pc := 204) hC dX10_widestIn_204 rfl ?_
                        exact r_to [true, false, true, true, true, true, false] rfl rfl (ih3 m_inWindow_10 m_window_13 (x8 + 1) (Nat.lt_of_lt_of_le h.2 (Nat.le_of_lt_succ hn3)) h.1)
                      refine r_ic_lt (pc := 124) (tgt := 201) hC dX10_widestIn_124 rfl (fun hc5 => ?_) (fun hc5 => ?_)
                      · have h := h.1 hc5
                        exact r_to [true, false, true, true, true, true, false] rfl rfl (S6 m_window_7 h)
                      have h := h.2 hc5
                      refine r_iload (pc := 127) hC dX10_widestIn_127 rfl ?_
                      refine r_if_eq (pc := 129) (tgt := 201) hC dX10_widestIn_129 rfl (fun hc4 => ?_) (fun hc4 => ?_)
                      · have h := h.1 hc4
                        exact r_to [true, false, true, true, true, true, false] rfl rfl (S6 m_window_7 h)
                      have h := h.2 hc4
                      refine r_iload (pc := 132) hC dX10_widestIn_132 rfl ?_
                      refine r_aload_n (pc := 134) hC 0 dX10_widestIn_134 rfl rfl ?_
                      refine r_getr (r := 32) (pc := 135) hC dX10_widestIn_135 fl_RX10_109 lM_0 rfl ?_
                      refine r_iconst (pc := 138) hC dX10_widestIn_138 (rng_lit rfl) ?_
                      refine r_iald (v := (m_window_7 (Int.toNat 3))) (pc := 139) hC dX10_widestIn_139 lM_32 h.1.1 h.1.2 rfl ?_
                      have h := h.2
                      obtain ⟨J7, hJ7, h⟩ := h
                      have S7 : J7 → Wd p l e (rmD 2) s m args below meth c Q 0 0 7 D cA ad A LM (wA (wA w 30 m_inWindow_10) 32 m_window_7) 163 [some (aR 0), none, some (aI a2), some (aI a3), some (aI x3), some (aI x8), some (aI r12)] [] := by
                        intro hj
                        have h := hJ7 hj
                        refine r_aload_n (pc := 163) hC 0 dX10_widestIn_163 rfl rfl ?_
                        refine r_getr (r := 32) (pc := 164) hC dX10_widestIn_164 fl_RX10_109 lM_0 rfl ?_
                        refine r_iconst (pc := 167) hC dX10_widestIn_167 (rng_lit rfl) ?_
                        refine r_iload (pc := 168) hC dX10_widestIn_168 rfl ?_
                        refine r_iast (pc := 170) hC dX10_widestIn_170 lM_32 h.1.1 h.1.2 ?_
                        have h := h.2
                        refine r_aload_n (pc := 171) hC 0 dX10_widestIn_171 rfl rfl ?_
                        refine r_getr (r := 32) (pc := 172) hC dX10_widestIn_172 fl_RX10_109 lM_0 rfl ?_
                        refine r_iconst (pc := 175) hC dX10_widestIn_175 (rng_lit rfl) ?_
                        refine r_iload (pc := 176) hC dX10_widestIn_176 rfl ?_
                        refine r_iast (pc := 178) hC dX10_widestIn_178 lM_32 h.1.1 h.1.2 ?_
                        have h := h.2
                        refine r_aload_n (pc := 179) hC 0 dX10_widestIn_179 rfl rfl ?_
                        refine r_getr (r := 32) (pc := 180) hC dX10_widestIn_180 fl_RX10_109 lM_0 rfl ?_
                        refine r_iconst (pc := 183) hC dX10_widestIn_183 (rng_lit rfl) ?_
                        refine r_aload_n (pc := 184) hC 0 dX10_widestIn_184 rfl rfl ?_
                        refine r_iload (pc := 185) hC dX10_widestIn_185 rfl ?_
                        refine r_iload (pc := 187) hC dX10_widestIn_187 rfl ?_
                        refine r_callVi (pc := 189) hC [aI x3, aI x8] [aI 2, aR 32] dX10_widestIn_189 ml_RX10_303 my_X10_longOf mi_X10_longOf lM_0 rfl rfl ⟨Nat.le_of_ble_eq_true rfl, Nat.le_of_ble_eq_true rfl⟩ ⟨Nat.le_of_ble_eq_true rfl, Nat.le_of_ble_eq_true rfl⟩ (Nat.le_of_ble_eq_true rfl) rfl (s_M_longOf l _ _ _ _ h) (fun r14 w1 hq => ?_)
                        obtain ⟨e9, h⟩ := hq
                        rw [e9]
                        refine r_iast (pc := 192) hC dX10_widestIn_192 lM_32 h.1.1 h.1.2 ?_
                        have h := h.2
                        refine r_aload_n (pc := 193) hC 0 dX10_widestIn_193 rfl rfl ?_
                        refine r_getr (r := 32) (pc := 194) hC dX10_widestIn_194 fl_RX10_109 lM_0 rfl ?_
                        refine r_iconst (pc := 197) hC dX10_widestIn_197 (rng_lit rfl) ?_
                        refine r_iload (pc := 198) hC dX10_widestIn_198 rfl ?_
                        refine r_iast (pc := 200) hC dX10_widestIn_200 lM_32 h.1.1 h.1.2 ?_
                        have h := h.2
                        exact r_to [true, false, true, true, true, true, false] rfl rfl (S6 (uI (uI (uI (uI m_window_7 0 x3) 1 x8) 2 r14) 3 r12) h)
                      refine r_ic_ne (pc := 140) (tgt := 163) hC dX10_widestIn_140 rfl (fun hc3 => ?_) (fun hc3 => ?_)
                      · have h := h.1 hc3
                        exact r_to [true, false, true, true, true, true, true] rfl rfl (S7 h)
                      have h := h.2 hc3
                      refine r_aload_n (pc := 143) hC 0 dX10_widestIn_143 rfl rfl ?_
                      refine r_iload (pc := 144) hC dX10_widestIn_144 rfl ?_
                      refine r_iload (pc := 146) hC dX10_widestIn_146 rfl ?_
                      refine r_callVi (pc := 148) hC [aI x3, aI x8] [] dX10_widestIn_148 ml_RX10_303 my_X10_longOf mi_X10_longOf lM_0 rfl rfl ⟨Nat.le_of_ble_eq_true rfl, Nat.le_of_ble_eq_true rfl⟩ ⟨Nat.le_of_ble_eq_true rfl, Nat.le_of_ble_eq_true rfl⟩ (Nat.le_of_ble_eq_true rfl) rfl (s_M_longOf l _ _ _ _ h) (fun r15 w1 hq => ?_)
                      obtain ⟨e9, h⟩ := hq
                      rw [e9]
                      refine r_aload_n (pc := 151) hC 0 dX10_widestIn_151 rfl rfl ?_
                      refine r_getr (r := 32) (pc := 152) hC dX10_widestIn_152 fl_RX10_109 lM_0 rfl ?_
                      refine r_iconst (pc := 155) hC dX10_widestIn_155 (rng_lit rfl) ?_
                      refine r_iald (v := (m_window_7 (Int.toNat 2))) (pc := 156) hC dX10_widestIn_156 lM_32 h.1.1 h.1.2 rfl ?_
                      have h := h.2
                      refine r_ic_lt (pc := 157) (tgt := 163) hC dX10_widestIn_157 rfl (fun hc2 => ?_) (fun hc2 => ?_)
                      · have h := h.1 hc2
                        exact r_to [true, false, true, true, true, true, true] rfl rfl (S7 h)
                      have h := h.2 hc2
                      refine r_goto (tgt := 201) (pc := 160) hC dX10_widestIn_160 rfl ?_
                      exact r_to [true, false, true, true, true, true, false] rfl rfl (S6 m_window_7 h)
                    have h := h.2 hc7
                    refine r_aload_n (pc := 76) hC 0 dX10_widestIn_76 rfl rfl ?_
                    refine r_getr (r := 30) (pc := 77) hC dX10_widestIn_77 fl_RX10_103 lM_0 rfl ?_
                    refine r_iload (pc := 80) hC dX10_widestIn_80 rfl ?_
                    refine r_dup2 (pc := 82) hC dX10_widestIn_82 rfl rfl ?_
                    refine r_iald (v := (m_inWindow_10 (Int.toNat x11))) (pc := 83) hC dX10_widestIn_83 lM_30 h.1.1 h.1.2 rfl ?_
                    have h := h.2
                    refine r_aload_n (pc := 84) hC 0 dX10_widestIn_84 rfl rfl ?_
                    refine r_iload (pc := 85) hC dX10_widestIn_85 rfl ?_
                    refine r_iload (pc := 87) hC dX10_widestIn_87 rfl ?_
                    refine r_iload (pc := 89) hC dX10_widestIn_89 rfl ?_
                    refine r_callVi (pc := 91) hC [aI x11, aI x8, aI x3] [aI (m_inWindow_10 (Int.toNat x11)), aI x11, aR 30] dX10_widestIn_91 ml_RX10_297 my_X10_endsAt mi_X10_endsAt lM_0 rfl rfl ⟨Nat.le_of_ble_eq_true rfl, Nat.le_of_ble_eq_true rfl⟩ ⟨Nat.le_of_ble_eq_true rfl, Nat.le_of_ble_eq_true rfl⟩ (Nat.le_of_ble_eq_true rfl) rfl (s_M_endsAt l _ _ _ _ _ h) (fun r16 w1 hq => ?_)
                    obtain ⟨e9, h⟩ := hq
                    rw [e9]
                    obtain ⟨J8, hJ8, h⟩ := h
                    have S8 : ∀ (y17 : Int), J8 y17 → Wd p l e (rmD 2) s m args below meth c Q 0 0 7 D cA ad A LM (wA (wA w 30 m_inWindow_10) 32 m_window_7) 102 [some (aR 0), none, some (aI a2), some (aI a3), some (aI x3), some (aI x8), some (aI x11)] [aI y17, aI (m_inWindow_10 (Int.toNat x11)), aI x11, aR 30] := by
                      intro y17 hj
                      have h := hJ8 y17 hj
                      refine r_iadd (pc := 102) hC dX10_widestIn_102 h.1 ?_
                      have h := h.2
                      refine r_iast (pc := 103) hC dX10_widestIn_103 lM_30 h.1.1 h.1.2 ?_
                      have h := h.2
                      refine r_iinc (ls2 := [some (aR 0), none, some (aI a2), some (aI a3), some (aI x3), some (aI x8), some (aI (x11 + 1))]) (pc := 104) hC dX10_widestIn_104 rfl (by decide) rfl h.1 rfl ?_
                      have h := h.2
                      refine r_goto (tgt := 67) (pc := 107) hC dX10_widestIn_107 rfl ?_
                      exact r_to [true, false, true, true, true, true, true] rfl rfl (ih5 (uI m_inWindow_10 x11 ((m_inWindow_10 (Int.toNat x11)) + y17)) (x11 + 1) (Nat.lt_of_lt_of_le h.2 (Nat.le_of_lt_succ hn5)) h.1)
                    refine r_if_eq (pc := 94) (tgt := 101) hC dX10_widestIn_94 rfl (fun hc6 => ?_) (fun hc6 => ?_)
                    · have h := h.1 hc6
                      refine r_iconst (pc := 101) hC dX10_widestIn_101 (rng_lit rfl) ?_
                      exact r_to [true, false, true, true, true, true, true] rfl rfl (S8 0 h)
                    have h := h.2 hc6
                    refine r_iconst (pc := 97) hC dX10_widestIn_97 (rng_lit rfl) ?_
                    refine r_goto (tgt := 102) (pc := 98) hC dX10_widestIn_98 rfl ?_
                    exact r_to [true, false, true, true, true, true, true] rfl rfl (S8 1 h)
                exact r_to [true, false, true, true, true, true, true] rfl rfl (S5 _ m_inWindow_6 0 (Nat.lt_succ_self _) hI5)
            exact r_to [true, false, true, true, true, true, false] rfl rfl (S3 _ m_inWindow_4 m_window_2 x3 (Nat.lt_succ_self _) hI3)
          have h := h.2 hc10
          refine r_aload_n (pc := 28) hC 0 dX10_widestIn_28 rfl rfl ?_
          refine r_getr (r := 30) (pc := 29) hC dX10_widestIn_29 fl_RX10_103 lM_0 rfl ?_
          refine r_iload (pc := 32) hC dX10_widestIn_32 rfl ?_
          refine r_iconst (pc := 34) hC dX10_widestIn_34 (rng_lit rfl) ?_
          refine r_iast (pc := 35) hC dX10_widestIn_35 lM_30 h.1.1 h.1.2 ?_
          have h := h.2
          refine r_iinc (ls2 := [some (aR 0), none, some (aI a2), some (aI a3), some (aI x3), some (aI (x5 + 1)), none]) (pc := 36) hC dX10_widestIn_36 rfl (by decide) rfl h.1 rfl ?_
          have h := h.2
          refine r_goto (tgt := 19) (pc := 39) hC dX10_widestIn_39 rfl ?_
          exact r_to [true, false, true, true, true, true, false] rfl rfl (ih2 (uI m_inWindow_4 x5 0) (x5 + 1) (Nat.lt_of_lt_of_le h.2 (Nat.le_of_lt_succ hn2)) h.1)
      exact r_to [true, false, true, true, true, true, false] rfl rfl (S2 _ m_inWindow_1 0 (Nat.lt_succ_self _) hI2)
  exact r_to [true, false, true, true, true, false, false] rfl rfl (S1 _ (w.1 30) (uI (w.1 32) 3 0) a1 (Nat.lt_succ_self _) hI1)
def wp_M_isNoSet (m_items : Int) (a1 : Int) (Q : Int → Prop) : Prop := jn0 (fun (J1 : Prop) => (a1 ≤ 0 → J1) ∧ (¬ a1 ≤ 0 → ((iShr a1 m_items) = 0 → Q 0) ∧ (¬ (iShr a1 m_items) = 0 → J1))) (Q 1)
set_option maxHeartbeats 4000000 in
set_option maxRecDepth 20000 in
theorem s_M_isNoSet (l : Launch) (w : St) (a1 : Int) (P : Int → Prop) (h : wp_M_isNoSet (w.1 0 29) a1 P) : Cn l yX10_isNoSet cX10_isNoSet 2 (some .boolean) 0 LM w [aR 0, aI a1] (okI (fun r w1 => w1 = w ∧ P r)) := by
  unfold wp_M_isNoSet at h
  refine Cn.of2 [some (aR 0), some (aI a1)] (by decide) (Nat.le_of_ble_eq_true rfl) rfl (fun p e s m args below meth c D cA ad A Q hQ hC hr hk => ?_)
  refine r_iload_n (pc := 0) hC 1 dX10_isNoSet_0 rfl rfl ?_
  obtain ⟨J1, hJ1, h⟩ := h
  have S1 : J1 → Wd p l e (rmD 0) s m args below meth c Q 0 0 2 D cA ad A LM w 13 [none, none] [] := by
    intro hj
    have h := hJ1 hj
    refine r_iconst (pc := 13) hC dX10_isNoSet_13 (rng_lit rfl) ?_
    refine r_goto (tgt := 18) (pc := 14) hC dX10_isNoSet_14 rfl ?_
    exact r_reti (pc := 18) (kd := 1) hC hQ dX10_isNoSet_18 hr hk (by decide) (Or.inr okK1_1) ⟨rfl, h⟩
  refine r_if_le (pc := 1) (tgt := 13) hC dX10_isNoSet_1 rfl (fun hc2 => ?_) (fun hc2 => ?_)
  · have h := h.1 hc2
    exact r_to [false, false] rfl rfl (S1 h)
  have h := h.2 hc2
  refine r_iload_n (pc := 4) hC 1 dX10_isNoSet_4 rfl rfl ?_
  refine r_aload_n (pc := 5) hC 0 dX10_isNoSet_5 rfl rfl ?_
  refine r_get (kd := 0) (v := (w.1 0 29)) (pc := 6) hC dX10_isNoSet_6 fl_RX10_271 lM_0 rfl rfl ?_
  refine r_ishr (pc := 9) hC dX10_isNoSet_9 ?_
  refine r_if_eq (pc := 10) (tgt := 17) hC dX10_isNoSet_10 rfl (fun hc1 => ?_) (fun hc1 => ?_)
  · have h := h.1 hc1
    refine r_iconst (pc := 17) hC dX10_isNoSet_17 (rng_lit rfl) ?_
    exact r_reti (pc := 18) (kd := 1) hC hQ dX10_isNoSet_18 hr hk (by decide) (Or.inr okK1_0) ⟨rfl, h⟩
  have h := h.2 hc1
  exact r_to [false, false] rfl rfl (S1 h)
def wp_M_window (m_wordFrom : (Nat → Int)) (m_wordTo : (Nat → Int)) (m_terms : (Nat → Int)) (m_isMatch : (Nat → Int)) (m_thrown : Int) (m_words : Int) (m_items : Int) (a1 : Int) (a2 : Int) (a3 : Int) (Q : Int → Int → Prop) : Prop := wp_M_in a3 0 2 (fun (r1 : Int) => jn1 (fun (J1 : Int → Prop) => (¬ r1 = 0 → J1 0) ∧ (r1 = 0 → J1 1)) (fun (y2 : Int) => wp_M_throwsIf 0 y2 1 (fun (r3 : Int) (m_thrown_4 : Int) => (¬ r3 = 0 → Q 0 m_thrown_4) ∧ (r3 = 0 → wp_M_isNoSet m_items a1 (fun (r5 : Int) => wp_M_throwsIf m_thrown_4 r5 2 (fun (r6 : Int) (m_thrown_7 : Int) => (r6 = 0 → lpw2 (fun (x8 : Int) (x9 : Int) (k2 : Int → Int → Prop) => (m_words ≤ x9 → (¬ a2 = (-1) → Q (-1) m_thrown_7) ∧ (a2 = (-1) → Q x8 m_thrown_7)) ∧ (¬ m_words ≤ x9 → wp_M_coveredBy m_terms m_isMatch m_words m_items a1 x9 (fun (r10 : Int) => wp_M_isMinimal m_terms m_isMatch m_words m_items a1 x9 r10 (fun (r11 : Int) => jn1 (fun (J3 : Int → Prop) => (¬ r11 = 0 → (¬ x8 = a2 → (rng (x8 + 1)) ∧ (J3 (x8 + 1))) ∧ (x8 = a2 → (¬ a3 = 0 → (¬ a3 = 1 → wp_M_longOf m_wordFrom m_wordTo x9 r10 (fun (r13 : Int) => Q r13 m_thrown_7)) ∧ (a3 = 1 → Q r10 m_thrown_7)) ∧ (a3 = 0 → Q x9 m_thrown_7))) ∧ (r11 = 0 → J3 x8)) (fun (x12 : Int) => (rng (x9 + 1)) ∧ (k2 x12 (x9 + 1))))))) 0 0) ∧ (¬ r6 = 0 → Q 0 m_thrown_7)))))))
set_option maxHeartbeats 4000000 in
set_option maxRecDepth 20000 in
theorem s_M_window (l : Launch) (w : St) (a1 : Int) (a2 : Int) (a3 : Int) (P : Int → Int → Prop) (h : wp_M_window (w.1 5) (w.1 6) (w.1 13) (w.1 27) (w.1 0 0) (w.1 0 12) (w.1 0 29) a1 a2 a3 P) : Cn l yX10_window cX10_window 7 (some .int) 3 LM w [aR 0, aI a1, aI a2, aI a3] (okI (fun r w1 => ∃ (o0 : Int), w1 = (wI w 0 0 o0) ∧ P r o0)) := by
  unfold wp_M_window at h
  refine Cn.of2 [some (aR 0), some (aI a1), some (aI a2), some (aI a3), none, none, none] (by decide) (Nat.le_of_ble_eq_true rfl) rfl (fun p e s m args below meth c D cA ad A Q hQ hC hr hk => ?_)
  refine r_aload_n (pc := 0) hC 0 dX10_window_0 rfl rfl ?_
  refine r_iconst (pc := 1) hC dX10_window_1 (rng_lit rfl) ?_
  refine r_put (kd := 0) (pc := 2) hC dX10_window_2 pl_RX10_142 lM_0 rfl (by decide) (Or.inl rfl) ?_
  refine r_aload_n (pc := 5) hC 0 dX10_window_5 rfl rfl ?_
  refine r_iload_n (pc := 6) hC 3 dX10_window_6 rfl rfl ?_
  refine r_iconst (pc := 7) hC dX10_window_7 (rng_lit rfl) ?_
  refine r_iconst (pc := 8) hC dX10_window_8 (rng_lit rfl) ?_
  refine r_callSi (pc := 9) hC [aI a3, aI 0, aI 2] [aR 0] dX10_window_9 ml_RX10_151 my_X10_in ms_X10_in rfl ⟨Nat.le_of_ble_eq_true rfl, Nat.le_of_ble_eq_true rfl⟩ ⟨Nat.le_of_ble_eq_true rfl, Nat.le_of_ble_eq_true rfl⟩ (Nat.le_of_ble_eq_true rfl) rfl (s_M_in l _ _ _ _ _ h) (fun r1 w1 hq => ?_)
  obtain ⟨e9, h⟩ := hq
  rw [e9]
  obtain ⟨J1, hJ1, h⟩ := h
  have S1 : ∀ (y2 : Int), J1 y2 → Wd p l e (rmD 3) s m args below meth c Q 0 0 7 D cA ad A LM (wI w 0 0 0) 20 [some (aR 0), some (aI a1), some (aI a2), some (aI a3), none, none, none] [aI y2, aR 0] := by
    intro y2 hj
    have h := hJ1 y2 hj
    refine r_iconst (pc := 20) hC dX10_window_20 (rng_lit rfl) ?_
    refine r_callVi (pc := 21) hC [aI y2, aI 1] [] dX10_window_21 ml_RX10_309 my_X10_throwsIf mi_X10_throwsIf lM_0 rfl rfl ⟨Nat.le_of_ble_eq_true rfl, Nat.le_of_ble_eq_true rfl⟩ ⟨Nat.le_of_ble_eq_true rfl, Nat.le_of_ble_eq_true rfl⟩ (Nat.le_of_ble_eq_true rfl) rfl (s_M_throwsIf l _ _ _ _ h) (fun r3 w1 hq => ?_)
    obtain ⟨m_thrown_4, e9, h⟩ := hq
    rw [e9]
    refine r_if_ne (pc := 24) (tgt := 40) hC dX10_window_24 rfl (fun hc8 => ?_) (fun hc8 => ?_)
    · have h := h.1 hc8
      refine r_iconst (pc := 40) hC dX10_window_40 (rng_lit rfl) ?_
      refine r_conv (w2 := (wI w 0 0 m_thrown_4)) rfl ?_
      exact r_reti (pc := 41) (kd := 0) hC hQ dX10_window_41 hr hk (by decide) (Or.inl rfl) ⟨m_thrown_4, rfl, h⟩
    have h := h.2 hc8
    refine r_aload_n (pc := 27) hC 0 dX10_window_27 rfl rfl ?_
    refine r_aload_n (pc := 28) hC 0 dX10_window_28 rfl rfl ?_
    refine r_iload_n (pc := 29) hC 1 dX10_window_29 rfl rfl ?_
    refine r_callVi (pc := 30) hC [aI a1] [aR 0] dX10_window_30 ml_RX10_313 my_X10_isNoSet mi_X10_isNoSet lM_0 rfl rfl ⟨Nat.le_of_ble_eq_true rfl, Nat.le_of_ble_eq_true rfl⟩ ⟨Nat.le_of_ble_eq_true rfl, Nat.le_of_ble_eq_true rfl⟩ (Nat.le_of_ble_eq_true rfl) rfl (s_M_isNoSet l _ _ _ h) (fun r5 w1 hq => ?_)
    obtain ⟨e9, h⟩ := hq
    rw [e9]
    refine r_iconst (pc := 33) hC dX10_window_33 (rng_lit rfl) ?_
    refine r_callVi (pc := 34) hC [aI r5, aI 2] [] dX10_window_34 ml_RX10_309 my_X10_throwsIf mi_X10_throwsIf lM_0 rfl rfl ⟨Nat.le_of_ble_eq_true rfl, Nat.le_of_ble_eq_true rfl⟩ ⟨Nat.le_of_ble_eq_true rfl, Nat.le_of_ble_eq_true rfl⟩ (Nat.le_of_ble_eq_true rfl) rfl (s_M_throwsIf l _ _ _ _ h) (fun r6 w1 hq => ?_)
    obtain ⟨m_thrown_7, e9, h⟩ := hq
    rw [e9]
    refine r_if_eq (pc := 37) (tgt := 42) hC dX10_window_37 rfl (fun hc7 => ?_) (fun hc7 => ?_)
    · have h := h.1 hc7
      refine r_iconst (pc := 42) hC dX10_window_42 (rng_lit rfl) ?_
      refine r_istore (ls2 := [some (aR 0), some (aI a1), some (aI a2), some (aI a3), some (aI 0), none, none]) (pc := 43) hC dX10_window_43 (by decide) rfl rfl ?_
      refine r_iconst (pc := 45) hC dX10_window_45 (rng_lit rfl) ?_
      refine r_istore (ls2 := [some (aR 0), some (aI a1), some (aI a2), some (aI a3), some (aI 0), some (aI 0), none]) (pc := 46) hC dX10_window_46 (by decide) rfl rfl ?_
      obtain ⟨I2, μ2, hI2, hB2⟩ := h
      have S2 : ∀ (nn : Nat) (x8 : Int) (x9 : Int), μ2 x8 x9 < nn → I2 x8 x9 → Wd p l e (rmD 3) s m args below meth c Q 0 0 7 D cA ad A LM (wI w 0 0 m_thrown_7) 48 [some (aR 0), some (aI a1), some (aI a2), some (aI a3), some (aI x8), some (aI x9), none] [] := by
        intro nn
        induction nn with
        | zero => intro x8 x9 hn; exact absurd hn (Nat.not_lt_zero _)
        | succ nn ih2 =>
          intro x8 x9 hn2 hi
          have h := hB2 x8 x9 hi
          refine r_iload (pc := 48) hC dX10_window_48 rfl ?_
          refine r_aload_n (pc := 50) hC 0 dX10_window_50 rfl rfl ?_
          refine r_get (kd := 0) (v := (w.1 0 12)) (pc := 51) hC dX10_window_51 fl_RX10_179 lM_0 rfl rfl ?_
          refine r_ic_ge (pc := 54) (tgt := 124) hC dX10_window_54 rfl (fun hc6 => ?_) (fun hc6 => ?_)
          · have h := h.1 hc6
            refine r_iload_n (pc := 124) hC 2 dX10_window_124 rfl rfl ?_
            refine r_iconst (pc := 125) hC dX10_window_125 (rng_lit rfl) ?_
            refine r_ic_ne (pc := 126) (tgt := 134) hC dX10_window_126 rfl (fun hc1 => ?_) (fun hc1 => ?_)
            · have h := h.1 hc1
              refine r_iconst (pc := 134) hC dX10_window_134 (rng_lit rfl) ?_
              refine r_conv (w2 := (wI w 0 0 m_thrown_7)) rfl ?_
              exact r_reti (pc := 135) (kd := 0) hC hQ dX10_window_135 hr hk (by decide) (Or.inl rfl) ⟨m_thrown_7, rfl, h⟩
            have h := h.2 hc1
            refine r_iload (pc := 129) hC dX10_window_129 rfl ?_
            refine r_goto (tgt := 135) (pc := 131) hC dX10_window_131 rfl ?_
            refine r_conv (w2 := (wI w 0 0 m_thrown_7)) rfl ?_
            exact r_reti (pc := 135) (kd := 0) hC hQ dX10_window_135 hr hk (by decide) (Or.inl rfl) ⟨m_thrown_7, rfl, h⟩
          have h := h.2 hc6
          refine r_aload_n (pc := 57) hC 0 dX10_window_57 rfl rfl ?_
          refine r_iload_n (pc := 58) hC 1 dX10_window_58 rfl rfl ?_
          refine r_iload (pc := 59) hC dX10_window_59 rfl ?_
          refine r_callVi (pc := 61) hC [aI a1, aI x9] [] dX10_window_61 ml_RX10_300 my_X10_coveredBy mi_X10_coveredBy lM_0 rfl rfl ⟨Nat.le_of_ble_eq_true rfl, Nat.le_of_ble_eq_true rfl⟩ ⟨Nat.le_of_ble_eq_true rfl, Nat.le_of_ble_eq_true rfl⟩ (Nat.le_of_ble_eq_true rfl) rfl (s_M_coveredBy l _ _ _ _ h) (fun r10 w1 hq => ?_)
          obtain ⟨e9, h⟩ := hq
          rw [e9]
          refine r_istore (ls2 := [some (aR 0), some (aI a1), some (aI a2), some (aI a3), some (aI x8), some (aI x9), some (aI r10)]) (pc := 64) hC dX10_window_64 (by decide) rfl rfl ?_
          refine r_aload_n (pc := 66) hC 0 dX10_window_66 rfl rfl ?_
          refine r_iload_n (pc := 67) hC 1 dX10_window_67 rfl rfl ?_
          refine r_iload (pc := 68) hC dX10_window_68 rfl ?_
          refine r_iload (pc := 70) hC dX10_window_70 rfl ?_
          refine r_callVi (pc := 72) hC [aI a1, aI x9, aI r10] [] dX10_window_72 ml_RX10_316 my_X10_isMinimal mi_X10_isMinimal lM_0 rfl rfl ⟨Nat.le_of_ble_eq_true rfl, Nat.le_of_ble_eq_true rfl⟩ ⟨Nat.le_of_ble_eq_true rfl, Nat.le_of_ble_eq_true rfl⟩ (Nat.le_of_ble_eq_true rfl) rfl (s_M_isMinimal l _ _ _ _ _ h) (fun r11 w1 hq => ?_)
          obtain ⟨e9, h⟩ := hq
          rw [e9]
          obtain ⟨J3, hJ3, h⟩ := h
          have S3 : ∀ (x12 : Int), J3 x12 → Wd p l e (rmD 3) s m args below meth c Q 0 0 7 D cA ad A LM (wI w 0 0 m_thrown_7) 118 [some (aR 0), some (aI a1), some (aI a2), some (aI a3), some (aI x12), some (aI x9), none] [] := by
            intro x12 hj
            have h := hJ3 x12 hj
            refine r_iinc (ls2 := [some (aR 0), some (aI a1), some (aI a2), some (aI a3), some (aI x12), some (aI (x9 + 1)), none]) (pc := 118) hC dX10_window_118 rfl (by decide) rfl h.1 rfl ?_
            have h := h.2
            refine r_goto (tgt := 48) (pc := 121) hC dX10_window_121 rfl ?_
            exact r_to [true, true, true, true, true, true, false] rfl rfl (ih2 x12 (x9 + 1) (Nat.lt_of_lt_of_le h.2 (Nat.le_of_lt_succ hn2)) h.1)
          refine r_if_ne (pc := 75) (tgt := 81) hC dX10_window_75 rfl (fun hc5 => ?_) (fun hc5 => ?_)
          · have h := h.1 hc5
            refine r_iload (pc := 81) hC dX10_window_81 rfl ?_
            refine r_iload_n (pc := 83) hC 2 dX10_window_83 rfl rfl ?_
            refine r_ic_ne (pc := 84) (tgt := 115) hC dX10_window_84 rfl (fun hc4 => ?_) (fun hc4 => ?_)
            · have h := h.1 hc4
              refine r_iinc (ls2 := [some (aR 0), some (aI a1), some (aI a2), some (aI a3), some (aI (x8 + 1)), some (aI x9), some (aI r10)]) (pc := 115) hC dX10_window_115 rfl (by decide) rfl h.1 rfl ?_
              have h := h.2
              exact r_to [true, true, true, true, true, true, false] rfl rfl (S3 (x8 + 1) h)
            have h := h.2 hc4
            refine r_iload_n (pc := 87) hC 3 dX10_window_87 rfl rfl ?_
            refine r_if_ne (pc := 88) (tgt := 96) hC dX10_window_88 rfl (fun hc3 => ?_) (fun hc3 => ?_)
            · have h := h.1 hc3
              refine r_iload_n (pc := 96) hC 3 dX10_window_96 rfl rfl ?_
              refine r_iconst (pc := 97) hC dX10_window_97 (rng_lit rfl) ?_
              refine r_ic_ne (pc := 98) (tgt := 106) hC dX10_window_98 rfl (fun hc2 => ?_) (fun hc2 => ?_)
              · have h := h.1 hc2
                refine r_aload_n (pc := 106) hC 0 dX10_window_106 rfl rfl ?_
                refine r_iload (pc := 107) hC dX10_window_107 rfl ?_
                refine r_iload (pc := 109) hC dX10_window_109 rfl ?_
                refine r_callVi (pc := 111) hC [aI x9, aI r10] [] dX10_window_111 ml_RX10_303 my_X10_longOf mi_X10_longOf lM_0 rfl rfl ⟨Nat.le_of_ble_eq_true rfl, Nat.le_of_ble_eq_true rfl⟩ ⟨Nat.le_of_ble_eq_true rfl, Nat.le_of_ble_eq_true rfl⟩ (Nat.le_of_ble_eq_true rfl) rfl (s_M_longOf l _ _ _ _ h) (fun r13 w1 hq => ?_)
                obtain ⟨e9, h⟩ := hq
                rw [e9]
                refine r_conv (w2 := (wI w 0 0 m_thrown_7)) rfl ?_
                exact r_reti (pc := 114) (kd := 0) hC hQ dX10_window_114 hr hk (by decide) (Or.inl rfl) ⟨m_thrown_7, rfl, h⟩
              have h := h.2 hc2
              refine r_iload (pc := 101) hC dX10_window_101 rfl ?_
              refine r_goto (tgt := 114) (pc := 103) hC dX10_window_103 rfl ?_
              refine r_conv (w2 := (wI w 0 0 m_thrown_7)) rfl ?_
              exact r_reti (pc := 114) (kd := 0) hC hQ dX10_window_114 hr hk (by decide) (Or.inl rfl) ⟨m_thrown_7, rfl, h⟩
            have h := h.2 hc3
            refine r_iload (pc := 91) hC dX10_window_91 rfl ?_
            refine r_goto (tgt := 114) (pc := 93) hC dX10_window_93 rfl ?_
            refine r_conv (w2 := (wI w 0 0 m_thrown_7)) rfl ?_
            exact r_reti (pc := 114) (kd := 0) hC hQ dX10_window_114 hr hk (by decide) (Or.inl rfl) ⟨m_thrown_7, rfl, h⟩
          have h := h.2 hc5
          refine r_goto (tgt := 118) (pc := 78) hC dX10_window_78 rfl ?_
          exact r_to [true, true, true, true, true, true, false] rfl rfl (S3 x8 h)
      exact r_to [true, true, true, true, true, true, false] rfl rfl (S2 _ 0 0 (Nat.lt_succ_self _) hI2)
    have h := h.2 hc7
    refine r_iconst (pc := 40) hC dX10_window_40 (rng_lit rfl) ?_
    refine r_conv (w2 := (wI w 0 0 m_thrown_7)) rfl ?_
    exact r_reti (pc := 41) (kd := 0) hC hQ dX10_window_41 hr hk (by decide) (Or.inl rfl) ⟨m_thrown_7, rfl, h⟩
  refine r_if_ne (pc := 12) (tgt := 19) hC dX10_window_12 rfl (fun hc9 => ?_) (fun hc9 => ?_)
  · have h := h.1 hc9
    refine r_iconst (pc := 19) hC dX10_window_19 (rng_lit rfl) ?_
    exact r_to [true, true, true, true, false, false, false] rfl rfl (S1 0 h)
  have h := h.2 hc9
  refine r_iconst (pc := 15) hC dX10_window_15 (rng_lit rfl) ?_
  refine r_goto (tgt := 20) (pc := 16) hC dX10_window_16 rfl ?_
  exact r_to [true, true, true, true, false, false, false] rfl rfl (S1 1 h)
def wp_M_least (m_wordFrom : (Nat → Int)) (m_wordTo : (Nat → Int)) (m_terms : (Nat → Int)) (m_isMatch : (Nat → Int)) (m_thrown : Int) (m_words : Int) (m_items : Int) (a1 : Int) (a2 : Int) (Q : Int → Int → Prop) : Prop := wp_M_in a2 0 2 (fun (r1 : Int) => jn1 (fun (J1 : Int → Prop) => (¬ r1 = 0 → J1 0) ∧ (r1 = 0 → J1 1)) (fun (y2 : Int) => wp_M_throwsIf 0 y2 1 (fun (r3 : Int) (m_thrown_4 : Int) => (¬ r3 = 0 → Q 0 m_thrown_4) ∧ (r3 = 0 → wp_M_isNoSet m_items a1 (fun (r5 : Int) => wp_M_throwsIf m_thrown_4 r5 2 (fun (r6 : Int) (m_thrown_7 : Int) => (r6 = 0 → lpw3 (fun (x8 : Int) (x9 : Int) (x10 : Int) (k2 : Int → Int → Int → Prop) => (m_words ≤ x10 → (¬ x8 = (-1) → (¬ a2 = 0 → (¬ a2 = 1 → wp_M_longOf m_wordFrom m_wordTo x8 x9 (fun (r11 : Int) => Q r11 m_thrown_7)) ∧ (a2 = 1 → Q x9 m_thrown_7)) ∧ (a2 = 0 → Q x8 m_thrown_7)) ∧ (x8 = (-1) → Q (-1) m_thrown_7)) ∧ (¬ m_words ≤ x10 → wp_M_coveredBy m_terms m_isMatch m_words m_items a1 x10 (fun (r12 : Int) => wp_M_isMinimal m_terms m_isMatch m_words m_items a1 x10 r12 (fun (r13 : Int) => jn2 (fun (J3 : Int → Int → Prop) => (r13 = 0 → J3 x8 x9) ∧ (¬ r13 = 0 → jn0 (fun (J4 : Prop) => (x8 = (-1) → J4) ∧ (¬ x8 = (-1) → wp_M_longOf m_wordFrom m_wordTo x10 r12 (fun (r16 : Int) => wp_M_longOf m_wordFrom m_wordTo x8 x9 (fun (r17 : Int) => (r16 < r17 → J4) ∧ (¬ r16 < r17 → J3 x8 x9))))) (J3 x10 r12))) (fun (x14 : Int) (x15 : Int) => (rng (x10 + 1)) ∧ (k2 x14 x15 (x10 + 1))))))) (-1) (-1) 0) ∧ (¬ r6 = 0 → Q 0 m_thrown_7)))))))
set_option maxHeartbeats 4000000 in
set_option maxRecDepth 20000 in
theorem s_M_least (l : Launch) (w : St) (a1 : Int) (a2 : Int) (P : Int → Int → Prop) (h : wp_M_least (w.1 5) (w.1 6) (w.1 13) (w.1 27) (w.1 0 0) (w.1 0 12) (w.1 0 29) a1 a2 P) : Cn l yX10_least cX10_least 7 (some .int) 3 LM w [aR 0, aI a1, aI a2] (okI (fun r w1 => ∃ (o0 : Int), w1 = (wI w 0 0 o0) ∧ P r o0)) := by
  unfold wp_M_least at h
  refine Cn.of2 [some (aR 0), some (aI a1), some (aI a2), none, none, none, none] (by decide) (Nat.le_of_ble_eq_true rfl) rfl (fun p e s m args below meth c D cA ad A Q hQ hC hr hk => ?_)
  refine r_aload_n (pc := 0) hC 0 dX10_least_0 rfl rfl ?_
  refine r_iconst (pc := 1) hC dX10_least_1 (rng_lit rfl) ?_
  refine r_put (kd := 0) (pc := 2) hC dX10_least_2 pl_RX10_142 lM_0 rfl (by decide) (Or.inl rfl) ?_
  refine r_aload_n (pc := 5) hC 0 dX10_least_5 rfl rfl ?_
  refine r_iload_n (pc := 6) hC 2 dX10_least_6 rfl rfl ?_
  refine r_iconst (pc := 7) hC dX10_least_7 (rng_lit rfl) ?_
  refine r_iconst (pc := 8) hC dX10_least_8 (rng_lit rfl) ?_
  refine r_callSi (pc := 9) hC [aI a2, aI 0, aI 2] [aR 0] dX10_least_9 ml_RX10_151 my_X10_in ms_X10_in rfl ⟨Nat.le_of_ble_eq_true rfl, Nat.le_of_ble_eq_true rfl⟩ ⟨Nat.le_of_ble_eq_true rfl, Nat.le_of_ble_eq_true rfl⟩ (Nat.le_of_ble_eq_true rfl) rfl (s_M_in l _ _ _ _ _ h) (fun r1 w1 hq => ?_)
  obtain ⟨e9, h⟩ := hq
  rw [e9]
  obtain ⟨J1, hJ1, h⟩ := h
  have S1 : ∀ (y2 : Int), J1 y2 → Wd p l e (rmD 3) s m args below meth c Q 0 0 7 D cA ad A LM (wI w 0 0 0) 20 [some (aR 0), some (aI a1), some (aI a2), none, none, none, none] [aI y2, aR 0] := by
    intro y2 hj
    have h := hJ1 y2 hj
    refine r_iconst (pc := 20) hC dX10_least_20 (rng_lit rfl) ?_
    refine r_callVi (pc := 21) hC [aI y2, aI 1] [] dX10_least_21 ml_RX10_309 my_X10_throwsIf mi_X10_throwsIf lM_0 rfl rfl ⟨Nat.le_of_ble_eq_true rfl, Nat.le_of_ble_eq_true rfl⟩ ⟨Nat.le_of_ble_eq_true rfl, Nat.le_of_ble_eq_true rfl⟩ (Nat.le_of_ble_eq_true rfl) rfl (s_M_throwsIf l _ _ _ _ h) (fun r3 w1 hq => ?_)
    obtain ⟨m_thrown_4, e9, h⟩ := hq
    rw [e9]
    refine r_if_ne (pc := 24) (tgt := 40) hC dX10_least_24 rfl (fun hc9 => ?_) (fun hc9 => ?_)
    · have h := h.1 hc9
      refine r_iconst (pc := 40) hC dX10_least_40 (rng_lit rfl) ?_
      refine r_conv (w2 := (wI w 0 0 m_thrown_4)) rfl ?_
      exact r_reti (pc := 41) (kd := 0) hC hQ dX10_least_41 hr hk (by decide) (Or.inl rfl) ⟨m_thrown_4, rfl, h⟩
    have h := h.2 hc9
    refine r_aload_n (pc := 27) hC 0 dX10_least_27 rfl rfl ?_
    refine r_aload_n (pc := 28) hC 0 dX10_least_28 rfl rfl ?_
    refine r_iload_n (pc := 29) hC 1 dX10_least_29 rfl rfl ?_
    refine r_callVi (pc := 30) hC [aI a1] [aR 0] dX10_least_30 ml_RX10_313 my_X10_isNoSet mi_X10_isNoSet lM_0 rfl rfl ⟨Nat.le_of_ble_eq_true rfl, Nat.le_of_ble_eq_true rfl⟩ ⟨Nat.le_of_ble_eq_true rfl, Nat.le_of_ble_eq_true rfl⟩ (Nat.le_of_ble_eq_true rfl) rfl (s_M_isNoSet l _ _ _ h) (fun r5 w1 hq => ?_)
    obtain ⟨e9, h⟩ := hq
    rw [e9]
    refine r_iconst (pc := 33) hC dX10_least_33 (rng_lit rfl) ?_
    refine r_callVi (pc := 34) hC [aI r5, aI 2] [] dX10_least_34 ml_RX10_309 my_X10_throwsIf mi_X10_throwsIf lM_0 rfl rfl ⟨Nat.le_of_ble_eq_true rfl, Nat.le_of_ble_eq_true rfl⟩ ⟨Nat.le_of_ble_eq_true rfl, Nat.le_of_ble_eq_true rfl⟩ (Nat.le_of_ble_eq_true rfl) rfl (s_M_throwsIf l _ _ _ _ h) (fun r6 w1 hq => ?_)
    obtain ⟨m_thrown_7, e9, h⟩ := hq
    rw [e9]
    refine r_if_eq (pc := 37) (tgt := 42) hC dX10_least_37 rfl (fun hc8 => ?_) (fun hc8 => ?_)
    · have h := h.1 hc8
      refine r_iconst (pc := 42) hC dX10_least_42 (rng_lit rfl) ?_
      refine r_istore_n (ls2 := [some (aR 0), some (aI a1), some (aI a2), some (aI (-1)), none, none, none]) (pc := 43) hC 3 dX10_least_43 rfl (by decide) rfl rfl ?_
      refine r_iconst (pc := 44) hC dX10_least_44 (rng_lit rfl) ?_
      refine r_istore (ls2 := [some (aR 0), some (aI a1), some (aI a2), some (aI (-1)), some (aI (-1)), none, none]) (pc := 45) hC dX10_least_45 (by decide) rfl rfl ?_
      refine r_iconst (pc := 47) hC dX10_least_47 (rng_lit rfl) ?_
      refine r_istore (ls2 := [some (aR 0), some (aI a1), some (aI a2), some (aI (-1)), some (aI (-1)), some (aI 0), none]) (pc := 48) hC dX10_least_48 (by decide) rfl rfl ?_
      obtain ⟨I2, μ2, hI2, hB2⟩ := h
      have S2 : ∀ (nn : Nat) (x8 : Int) (x9 : Int) (x10 : Int), μ2 x8 x9 x10 < nn → I2 x8 x9 x10 → Wd p l e (rmD 3) s m args below meth c Q 0 0 7 D cA ad A LM (wI w 0 0 m_thrown_7) 50 [some (aR 0), some (aI a1), some (aI a2), some (aI x8), some (aI x9), some (aI x10), none] [] := by
        intro nn
        induction nn with
        | zero => intro x8 x9 x10 hn; exact absurd hn (Nat.not_lt_zero _)
        | succ nn ih2 =>
          intro x8 x9 x10 hn2 hi
          have h := hB2 x8 x9 x10 hi
          refine r_iload (pc := 50) hC dX10_least_50 rfl ?_
          refine r_aload_n (pc := 52) hC 0 dX10_least_52 rfl rfl ?_
          refine r_get (kd := 0) (v := (w.1 0 12)) (pc := 53) hC dX10_least_53 fl_RX10_179 lM_0 rfl rfl ?_
          refine r_ic_ge (pc := 56) (tgt := 119) hC dX10_least_56 rfl (fun hc7 => ?_) (fun hc7 => ?_)
          · have h := h.1 hc7
            refine r_iload_n (pc := 119) hC 3 dX10_least_119 rfl rfl ?_
            refine r_iconst (pc := 120) hC dX10_least_120 (rng_lit rfl) ?_
            refine r_ic_ne (pc := 121) (tgt := 128) hC dX10_least_121 rfl (fun hc3 => ?_) (fun hc3 => ?_)
            · have h := h.1 hc3
              refine r_iload_n (pc := 128) hC 2 dX10_least_128 rfl rfl ?_
              refine r_if_ne (pc := 129) (tgt := 136) hC dX10_least_129 rfl (fun hc2 => ?_) (fun hc2 => ?_)
              · have h := h.1 hc2
                refine r_iload_n (pc := 136) hC 2 dX10_least_136 rfl rfl ?_
                refine r_iconst (pc := 137) hC dX10_least_137 (rng_lit rfl) ?_
                refine r_ic_ne (pc := 138) (tgt := 146) hC dX10_least_138 rfl (fun hc1 => ?_) (fun hc1 => ?_)
                · have h := h.1 hc1
                  refine r_aload_n (pc := 146) hC 0 dX10_least_146 rfl rfl ?_
                  refine r_iload_n (pc := 147) hC 3 dX10_least_147 rfl rfl ?_
                  refine r_iload (pc := 148) hC dX10_least_148 rfl ?_
                  refine r_callVi (pc := 150) hC [aI x8, aI x9] [] dX10_least_150 ml_RX10_303 my_X10_longOf mi_X10_longOf lM_0 rfl rfl ⟨Nat.le_of_ble_eq_true rfl, Nat.le_of_ble_eq_true rfl⟩ ⟨Nat.le_of_ble_eq_true rfl, Nat.le_of_ble_eq_true rfl⟩ (Nat.le_of_ble_eq_true rfl) rfl (s_M_longOf l _ _ _ _ h) (fun r11 w1 hq => ?_)
                  obtain ⟨e9, h⟩ := hq
                  rw [e9]
                  refine r_conv (w2 := (wI w 0 0 m_thrown_7)) rfl ?_
                  exact r_reti (pc := 153) (kd := 0) hC hQ dX10_least_153 hr hk (by decide) (Or.inl rfl) ⟨m_thrown_7, rfl, h⟩
                have h := h.2 hc1
                refine r_iload (pc := 141) hC dX10_least_141 rfl ?_
                refine r_goto (tgt := 153) (pc := 143) hC dX10_least_143 rfl ?_
                refine r_conv (w2 := (wI w 0 0 m_thrown_7)) rfl ?_
                exact r_reti (pc := 153) (kd := 0) hC hQ dX10_least_153 hr hk (by decide) (Or.inl rfl) ⟨m_thrown_7, rfl, h⟩
              have h := h.2 hc2
              refine r_iload_n (pc := 132) hC 3 dX10_least_132 rfl rfl ?_
              refine r_goto (tgt := 153) (pc := 133) hC dX10_least_133 rfl ?_
              refine r_conv (w2 := (wI w 0 0 m_thrown_7)) rfl ?_
              exact r_reti (pc := 153) (kd := 0) hC hQ dX10_least_153 hr hk (by decide) (Or.inl rfl) ⟨m_thrown_7, rfl, h⟩
            have h := h.2 hc3
            refine r_iconst (pc := 124) hC dX10_least_124 (rng_lit rfl) ?_
            refine r_goto (tgt := 153) (pc := 125) hC dX10_least_125 rfl ?_
            refine r_conv (w2 := (wI w 0 0 m_thrown_7)) rfl ?_
            exact r_reti (pc := 153) (kd := 0) hC hQ dX10_least_153 hr hk (by decide) (Or.inl rfl) ⟨m_thrown_7, rfl, h⟩
          have h := h.2 hc7
          refine r_aload_n (pc := 59) hC 0 dX10_least_59 rfl rfl ?_
          refine r_iload_n (pc := 60) hC 1 dX10_least_60 rfl rfl ?_
          refine r_iload (pc := 61) hC dX10_least_61 rfl ?_
          refine r_callVi (pc := 63) hC [aI a1, aI x10] [] dX10_least_63 ml_RX10_300 my_X10_coveredBy mi_X10_coveredBy lM_0 rfl rfl ⟨Nat.le_of_ble_eq_true rfl, Nat.le_of_ble_eq_true rfl⟩ ⟨Nat.le_of_ble_eq_true rfl, Nat.le_of_ble_eq_true rfl⟩ (Nat.le_of_ble_eq_true rfl) rfl (s_M_coveredBy l _ _ _ _ h) (fun r12 w1 hq => ?_)
          obtain ⟨e9, h⟩ := hq
          rw [e9]
          refine r_istore (ls2 := [some (aR 0), some (aI a1), some (aI a2), some (aI x8), some (aI x9), some (aI x10), some (aI r12)]) (pc := 66) hC dX10_least_66 (by decide) rfl rfl ?_
          refine r_aload_n (pc := 68) hC 0 dX10_least_68 rfl rfl ?_
          refine r_iload_n (pc := 69) hC 1 dX10_least_69 rfl rfl ?_
          refine r_iload (pc := 70) hC dX10_least_70 rfl ?_
          refine r_iload (pc := 72) hC dX10_least_72 rfl ?_
          refine r_callVi (pc := 74) hC [aI a1, aI x10, aI r12] [] dX10_least_74 ml_RX10_316 my_X10_isMinimal mi_X10_isMinimal lM_0 rfl rfl ⟨Nat.le_of_ble_eq_true rfl, Nat.le_of_ble_eq_true rfl⟩ ⟨Nat.le_of_ble_eq_true rfl, Nat.le_of_ble_eq_true rfl⟩ (Nat.le_of_ble_eq_true rfl) rfl (s_M_isMinimal l _ _ _ _ _ h) (fun r13 w1 hq => ?_)
          obtain ⟨e9, h⟩ := hq
          rw [e9]
          obtain ⟨J3, hJ3, h⟩ := h
          have S3 : ∀ (x14 : Int) (x15 : Int), J3 x14 x15 → Wd p l e (rmD 3) s m args below meth c Q 0 0 7 D cA ad A LM (wI w 0 0 m_thrown_7) 113 [some (aR 0), some (aI a1), some (aI a2), some (aI x14), some (aI x15), some (aI x10), none] [] := by
            intro x14 x15 hj
            have h := hJ3 x14 x15 hj
            refine r_iinc (ls2 := [some (aR 0), some (aI a1), some (aI a2), some (aI x14), some (aI x15), some (aI (x10 + 1)), none]) (pc := 113) hC dX10_least_113 rfl (by decide) rfl h.1 rfl ?_
            have h := h.2
            refine r_goto (tgt := 50) (pc := 116) hC dX10_least_116 rfl ?_
            exact r_to [true, true, true, true, true, true, false] rfl rfl (ih2 x14 x15 (x10 + 1) (Nat.lt_of_lt_of_le h.2 (Nat.le_of_lt_succ hn2)) h.1)
          refine r_if_eq (pc := 77) (tgt := 113) hC dX10_least_77 rfl (fun hc6 => ?_) (fun hc6 => ?_)
          · have h := h.1 hc6
            exact r_to [true, true, true, true, true, true, false] rfl rfl (S3 x8 x9 h)
          have h := h.2 hc6
          refine r_iload_n (pc := 80) hC 3 dX10_least_80 rfl rfl ?_
          refine r_iconst (pc := 81) hC dX10_least_81 (rng_lit rfl) ?_
          obtain ⟨J4, hJ4, h⟩ := h
          have S4 : J4 → Wd p l e (rmD 3) s m args below meth c Q 0 0 7 D cA ad A LM (wI w 0 0 m_thrown_7) 106 [some (aR 0), some (aI a1), some (aI a2), none, none, some (aI x10), some (aI r12)] [] := by
            intro hj
            have h := hJ4 hj
            refine r_iload (pc := 106) hC dX10_least_106 rfl ?_
            refine r_istore_n (ls2 := [some (aR 0), some (aI a1), some (aI a2), some (aI x10), none, some (aI x10), some (aI r12)]) (pc := 108) hC 3 dX10_least_108 rfl (by decide) rfl rfl ?_
            refine r_iload (pc := 109) hC dX10_least_109 rfl ?_
            refine r_istore (ls2 := [some (aR 0), some (aI a1), some (aI a2), some (aI x10), some (aI r12), some (aI x10), some (aI r12)]) (pc := 111) hC dX10_least_111 (by decide) rfl rfl ?_
            exact r_to [true, true, true, true, true, true, false] rfl rfl (S3 x10 r12 h)
          refine r_ic_eq (pc := 82) (tgt := 106) hC dX10_least_82 rfl (fun hc5 => ?_) (fun hc5 => ?_)
          · have h := h.1 hc5
            exact r_to [true, true, true, false, false, true, true] rfl rfl (S4 h)
          have h := h.2 hc5
          refine r_aload_n (pc := 85) hC 0 dX10_least_85 rfl rfl ?_
          refine r_iload (pc := 86) hC dX10_least_86 rfl ?_
          refine r_iload (pc := 88) hC dX10_least_88 rfl ?_
          refine r_callVi (pc := 90) hC [aI x10, aI r12] [] dX10_least_90 ml_RX10_303 my_X10_longOf mi_X10_longOf lM_0 rfl rfl ⟨Nat.le_of_ble_eq_true rfl, Nat.le_of_ble_eq_true rfl⟩ ⟨Nat.le_of_ble_eq_true rfl, Nat.le_of_ble_eq_true rfl⟩ (Nat.le_of_ble_eq_true rfl) rfl (s_M_longOf l _ _ _ _ h) (fun r16 w1 hq => ?_)
          obtain ⟨e9, h⟩ := hq
          rw [e9]
          refine r_aload_n (pc := 93) hC 0 dX10_least_93 rfl rfl ?_
          refine r_iload_n (pc := 94) hC 3 dX10_least_94 rfl rfl ?_
          refine r_iload (pc := 95) hC dX10_least_95 rfl ?_
          refine r_callVi (pc := 97) hC [aI x8, aI x9] [aI r16] dX10_least_97 ml_RX10_303 my_X10_longOf mi_X10_longOf lM_0 rfl rfl ⟨Nat.le_of_ble_eq_true rfl, Nat.le_of_ble_eq_true rfl⟩ ⟨Nat.le_of_ble_eq_true rfl, Nat.le_of_ble_eq_true rfl⟩ (Nat.le_of_ble_eq_true rfl) rfl (s_M_longOf l _ _ _ _ h) (fun r17 w1 hq => ?_)
          obtain ⟨e9, h⟩ := hq
          rw [e9]
          refine r_ic_lt (pc := 100) (tgt := 106) hC dX10_least_100 rfl (fun hc4 => ?_) (fun hc4 => ?_)
          · have h := h.1 hc4
            exact r_to [true, true, true, false, false, true, true] rfl rfl (S4 h)
          have h := h.2 hc4
          refine r_goto (tgt := 113) (pc := 103) hC dX10_least_103 rfl ?_
          exact r_to [true, true, true, true, true, true, false] rfl rfl (S3 x8 x9 h)
      exact r_to [true, true, true, true, true, true, false] rfl rfl (S2 _ (-1) (-1) 0 (Nat.lt_succ_self _) hI2)
    have h := h.2 hc8
    refine r_iconst (pc := 40) hC dX10_least_40 (rng_lit rfl) ?_
    refine r_conv (w2 := (wI w 0 0 m_thrown_7)) rfl ?_
    exact r_reti (pc := 41) (kd := 0) hC hQ dX10_least_41 hr hk (by decide) (Or.inl rfl) ⟨m_thrown_7, rfl, h⟩
  refine r_if_ne (pc := 12) (tgt := 19) hC dX10_least_12 rfl (fun hc10 => ?_) (fun hc10 => ?_)
  · have h := h.1 hc10
    refine r_iconst (pc := 19) hC dX10_least_19 (rng_lit rfl) ?_
    exact r_to [true, true, true, false, false, false, false] rfl rfl (S1 0 h)
  have h := h.2 hc10
  refine r_iconst (pc := 15) hC dX10_least_15 (rng_lit rfl) ?_
  refine r_goto (tgt := 20) (pc := 16) hC dX10_least_16 rfl ?_
  exact r_to [true, true, true, false, false, false, false] rfl rfl (S1 1 h)
def wp_M_most (m_wordFrom : (Nat → Int)) (m_wordTo : (Nat → Int)) (m_terms : (Nat → Int)) (m_isMatch : (Nat → Int)) (m_thrown : Int) (m_words : Int) (m_items : Int) (a1 : Int) (Q : Int → Int → Prop) : Prop := wp_M_in a1 1 600 (fun (r1 : Int) => jn1 (fun (J1 : Int → Prop) => (¬ r1 = 0 → J1 0) ∧ (r1 = 0 → J1 1)) (fun (y2 : Int) => wp_M_throwsIf 0 y2 1 (fun (r3 : Int) (m_thrown_4 : Int) => (r3 = 0 → lpw2 (fun (x5 : Int) (x6 : Int) (k2 : Int → Int → Prop) => (m_words ≤ x6 → Q x5 m_thrown_4) ∧ (¬ m_words ≤ x6 → lpw2 (fun (x7 : Int) (x8 : Int) (k3 : Int → Int → Prop) => jn0 (fun (J4 : Prop) => (m_words ≤ x8 → J4) ∧ (¬ m_words ≤ x8 → wp_M_longOf m_wordFrom m_wordTo x6 x8 (fun (r12 : Int) => (a1 < r12 → J4) ∧ (¬ a1 < r12 → lpw2 (fun (x13 : Int) (x14 : Int) (k6 : Int → Int → Prop) => (m_items ≤ x14 → (rng (x8 + 1)) ∧ (k3 x13 (x8 + 1))) ∧ (¬ m_items ≤ x14 → wp_M_endsAt m_terms m_isMatch x14 x8 x6 (fun (r15 : Int) => jn1 (fun (J7 : Int → Prop) => (r15 = 0 → J7 0) ∧ (¬ r15 = 0 → J7 (iShl 1 x14))) (fun (y16 : Int) => (rng (x14 + 1)) ∧ (k6 (iOr x13 y16) (x14 + 1)))))) x7 0)))) (wp_M_bits x7 (fun (r9 : Int) => jn1 (fun (J5 : Int → Prop) => (r9 ≤ x5 → J5 x5) ∧ (¬ r9 ≤ x5 → wp_M_bits x7 (fun (r11 : Int) => J5 r11))) (fun (y10 : Int) => (rng (x6 + 1)) ∧ (k2 y10 (x6 + 1)))))) 0 x6)) 0 0) ∧ (¬ r3 = 0 → Q 0 m_thrown_4))))
set_option maxHeartbeats 4000000 in
set_option maxRecDepth 20000 in
theorem s_M_most (l : Launch) (w : St) (a1 : Int) (P : Int → Int → Prop) (h : wp_M_most (w.1 5) (w.1 6) (w.1 13) (w.1 27) (w.1 0 0) (w.1 0 12) (w.1 0 29) a1 P) : Cn l yX10_most cX10_most 7 (some .int) 1 LM w [aR 0, aI a1] (okI (fun r w1 => ∃ (o0 : Int), w1 = (wI w 0 0 o0) ∧ P r o0)) := by
  unfold wp_M_most at h
  refine Cn.of2 [some (aR 0), some (aI a1), none, none, none, none, none] (by decide) (Nat.le_of_ble_eq_true rfl) rfl (fun p e s m args below meth c D cA ad A Q hQ hC hr hk => ?_)
  refine r_aload_n (pc := 0) hC 0 dX10_most_0 rfl rfl ?_
  refine r_iconst (pc := 1) hC dX10_most_1 (rng_lit rfl) ?_
  refine r_put (kd := 0) (pc := 2) hC dX10_most_2 pl_RX10_142 lM_0 rfl (by decide) (Or.inl rfl) ?_
  refine r_aload_n (pc := 5) hC 0 dX10_most_5 rfl rfl ?_
  refine r_iload_n (pc := 6) hC 1 dX10_most_6 rfl rfl ?_
  refine r_iconst (pc := 7) hC dX10_most_7 (rng_lit rfl) ?_
  refine r_sipush (pc := 8) hC dX10_most_8 ⟨rfl, rng_lit rfl⟩ ?_
  refine r_callSi (pc := 11) hC [aI a1, aI 1, aI 600] [aR 0] dX10_most_11 ml_RX10_151 my_X10_in ms_X10_in rfl ⟨Nat.le_of_ble_eq_true rfl, Nat.le_of_ble_eq_true rfl⟩ ⟨Nat.le_of_ble_eq_true rfl, Nat.le_of_ble_eq_true rfl⟩ (Nat.le_of_ble_eq_true rfl) rfl (s_M_in l _ _ _ _ _ h) (fun r1 w1 hq => ?_)
  obtain ⟨e9, h⟩ := hq
  rw [e9]
  obtain ⟨J1, hJ1, h⟩ := h
  have S1 : ∀ (y2 : Int), J1 y2 → Wd p l e (rmD 1) s m args below meth c Q 0 0 7 D cA ad A LM (wI w 0 0 0) 22 [some (aR 0), some (aI a1), none, none, none, none, none] [aI y2, aR 0] := by
    intro y2 hj
    have h := hJ1 y2 hj
    refine r_iconst (pc := 22) hC dX10_most_22 (rng_lit rfl) ?_
    refine r_callVi (pc := 23) hC [aI y2, aI 1] [] dX10_most_23 ml_RX10_309 my_X10_throwsIf mi_X10_throwsIf lM_0 rfl rfl ⟨Nat.le_of_ble_eq_true rfl, Nat.le_of_ble_eq_true rfl⟩ ⟨Nat.le_of_ble_eq_true rfl, Nat.le_of_ble_eq_true rfl⟩ (Nat.le_of_ble_eq_true rfl) rfl (s_M_throwsIf l _ _ _ _ h) (fun r3 w1 hq => ?_)
    obtain ⟨m_thrown_4, e9, h⟩ := hq
    rw [e9]
    refine r_if_eq (pc := 26) (tgt := 31) hC dX10_most_26 rfl (fun hc7 => ?_) (fun hc7 => ?_)
    · have h := h.1 hc7
      refine r_iconst (pc := 31) hC dX10_most_31 (rng_lit rfl) ?_
      refine r_istore_n (ls2 := [some (aR 0), some (aI a1), some (aI 0), none, none, none, none]) (pc := 32) hC 2 dX10_most_32 rfl (by decide) rfl rfl ?_
      refine r_iconst (pc := 33) hC dX10_most_33 (rng_lit rfl) ?_
      refine r_istore_n (ls2 := [some (aR 0), some (aI a1), some (aI 0), some (aI 0), none, none, none]) (pc := 34) hC 3 dX10_most_34 rfl (by decide) rfl rfl ?_
      obtain ⟨I2, μ2, hI2, hB2⟩ := h
      have S2 : ∀ (nn : Nat) (x5 : Int) (x6 : Int), μ2 x5 x6 < nn → I2 x5 x6 → Wd p l e (rmD 1) s m args below meth c Q 0 0 7 D cA ad A LM (wI w 0 0 m_thrown_4) 35 [some (aR 0), some (aI a1), some (aI x5), some (aI x6), none, none, none] [] := by
        intro nn
        induction nn with
        | zero => intro x5 x6 hn; exact absurd hn (Nat.not_lt_zero _)
        | succ nn ih2 =>
          intro x5 x6 hn2 hi
          have h := hB2 x5 x6 hi
          refine r_iload_n (pc := 35) hC 3 dX10_most_35 rfl rfl ?_
          refine r_aload_n (pc := 36) hC 0 dX10_most_36 rfl rfl ?_
          refine r_get (kd := 0) (v := (w.1 0 12)) (pc := 37) hC dX10_most_37 fl_RX10_179 lM_0 rfl rfl ?_
          refine r_ic_ge (pc := 40) (tgt := 143) hC dX10_most_40 rfl (fun hc6 => ?_) (fun hc6 => ?_)
          · have h := h.1 hc6
            refine r_iload_n (pc := 143) hC 2 dX10_most_143 rfl rfl ?_
            refine r_conv (w2 := (wI w 0 0 m_thrown_4)) rfl ?_
            exact r_reti (pc := 144) (kd := 0) hC hQ dX10_most_144 hr hk (by decide) (Or.inl rfl) ⟨m_thrown_4, rfl, h⟩
          have h := h.2 hc6
          refine r_iconst (pc := 43) hC dX10_most_43 (rng_lit rfl) ?_
          refine r_istore (ls2 := [some (aR 0), some (aI a1), some (aI x5), some (aI x6), some (aI 0), none, none]) (pc := 44) hC dX10_most_44 (by decide) rfl rfl ?_
          refine r_iload_n (pc := 46) hC 3 dX10_most_46 rfl rfl ?_
          refine r_istore (ls2 := [some (aR 0), some (aI a1), some (aI x5), some (aI x6), some (aI 0), some (aI x6), none]) (pc := 47) hC dX10_most_47 (by decide) rfl rfl ?_
          obtain ⟨I3, μ3, hI3, hB3⟩ := h
          have S3 : ∀ (nn : Nat) (x7 : Int) (x8 : Int), μ3 x7 x8 < nn → I3 x7 x8 → Wd p l e (rmD 1) s m args below meth c Q 0 0 7 D cA ad A LM (wI w 0 0 m_thrown_4) 49 [some (aR 0), some (aI a1), some (aI x5), some (aI x6), some (aI x7), some (aI x8), none] [] := by
            intro nn
            induction nn with
            | zero => intro x7 x8 hn; exact absurd hn (Nat.not_lt_zero _)
            | succ nn ih3 =>
              intro x7 x8 hn3 hi
              have h := hB3 x7 x8 hi
              refine r_iload (pc := 49) hC dX10_most_49 rfl ?_
              refine r_aload_n (pc := 51) hC 0 dX10_most_51 rfl rfl ?_
              refine r_get (kd := 0) (v := (w.1 0 12)) (pc := 52) hC dX10_most_52 fl_RX10_179 lM_0 rfl rfl ?_
              obtain ⟨J4, hJ4, h⟩ := h
              have S4 : J4 → Wd p l e (rmD 1) s m args below meth c Q 0 0 7 D cA ad A LM (wI w 0 0 m_thrown_4) 118 [some (aR 0), some (aI a1), some (aI x5), some (aI x6), some (aI x7), none, none] [] := by
                intro hj
                have h := hJ4 hj
                refine r_iload (pc := 118) hC dX10_most_118 rfl ?_
                refine r_callSi (pc := 120) hC [aI x7] [] dX10_most_120 ml_RX10_319 my_X10_bits ms_X10_bits rfl ⟨Nat.le_of_ble_eq_true rfl, Nat.le_of_ble_eq_true rfl⟩ ⟨Nat.le_of_ble_eq_true rfl, Nat.le_of_ble_eq_true rfl⟩ (Nat.le_of_ble_eq_true rfl) rfl (s_M_bits l _ _ _ h) (fun r9 w1 hq => ?_)
                obtain ⟨e9, h⟩ := hq
                rw [e9]
                refine r_iload_n (pc := 123) hC 2 dX10_most_123 rfl rfl ?_
                obtain ⟨J5, hJ5, h⟩ := h
                have S5 : ∀ (y10 : Int), J5 y10 → Wd p l e (rmD 1) s m args below meth c Q 0 0 7 D cA ad A LM (wI w 0 0 m_thrown_4) 136 [some (aR 0), some (aI a1), none, some (aI x6), none, none, none] [aI y10] := by
                  intro y10 hj
                  have h := hJ5 y10 hj
                  refine r_istore_n (ls2 := [some (aR 0), some (aI a1), some (aI y10), some (aI x6), none, none, none]) (pc := 136) hC 2 dX10_most_136 rfl (by decide) rfl rfl ?_
                  refine r_iinc (ls2 := [some (aR 0), some (aI a1), some (aI y10), some (aI (x6 + 1)), none, none, none]) (pc := 137) hC dX10_most_137 rfl (by decide) rfl h.1 rfl ?_
                  have h := h.2
                  refine r_goto (tgt := 35) (pc := 140) hC dX10_most_140 rfl ?_
                  exact r_to [true, true, true, true, false, false, false] rfl rfl (ih2 y10 (x6 + 1) (Nat.lt_of_lt_of_le h.2 (Nat.le_of_lt_succ hn2)) h.1)
                refine r_ic_le (pc := 124) (tgt := 135) hC dX10_most_124 rfl (fun hc1 => ?_) (fun hc1 => ?_)
                · have h := h.1 hc1
                  refine r_iload_n (pc := 135) hC 2 dX10_most_135 rfl rfl ?_
                  exact r_to [true, true, false, true, false, false, false] rfl rfl (S5 x5 h)
                have h := h.2 hc1
                refine r_iload (pc := 127) hC dX10_most_127 rfl ?_
                refine r_callSi (pc := 129) hC [aI x7] [] dX10_most_129 ml_RX10_319 my_X10_bits ms_X10_bits rfl ⟨Nat.le_of_ble_eq_true rfl, Nat.le_of_ble_eq_true rfl⟩ ⟨Nat.le_of_ble_eq_true rfl, Nat.le_of_ble_eq_true rfl⟩ (Nat.le_of_ble_eq_true rfl) rfl (s_M_bits l _ _ _ h) (fun r11 w1 hq => ?_)
                obtain ⟨e9, h⟩ := hq
                rw [e9]
                refine r_goto (tgt := 136) (pc := 132) hC dX10_most_132 rfl ?_
                exact r_to [true, true, false, true, false, false, false] rfl rfl (S5 r11 h)
              refine r_ic_ge (pc := 55) (tgt := 118) hC dX10_most_55 rfl (fun hc5 => ?_) (fun hc5 => ?_)
              · have h := h.1 hc5
                exact r_to [true, true, true, true, true, false, false] rfl rfl (S4 h)
              have h := h.2 hc5
              refine r_aload_n (pc := 58) hC 0 dX10_most_58 rfl rfl ?_
              refine r_iload_n (pc := 59) hC 3 dX10_most_59 rfl rfl ?_
              refine r_iload (pc := 60) hC dX10_most_60 rfl ?_
              refine r_callVi (pc := 62) hC [aI x6, aI x8] [] dX10_most_62 ml_RX10_303 my_X10_longOf mi_X10_longOf lM_0 rfl rfl ⟨Nat.le_of_ble_eq_true rfl, Nat.le_of_ble_eq_true rfl⟩ ⟨Nat.le_of_ble_eq_true rfl, Nat.le_of_ble_eq_true rfl⟩ (Nat.le_of_ble_eq_true rfl) rfl (s_M_longOf l _ _ _ _ h) (fun r12 w1 hq => ?_)
              obtain ⟨e9, h⟩ := hq
              rw [e9]
              refine r_iload_n (pc := 65) hC 1 dX10_most_65 rfl rfl ?_
              refine r_ic_gt (pc := 66) (tgt := 118) hC dX10_most_66 rfl (fun hc4 => ?_) (fun hc4 => ?_)
              · have h := h.1 hc4
                exact r_to [true, true, true, true, true, false, false] rfl rfl (S4 h)
              have h := h.2 hc4
              refine r_iconst (pc := 69) hC dX10_most_69 (rng_lit rfl) ?_
              refine r_istore (ls2 := [some (aR 0), some (aI a1), some (aI x5), some (aI x6), some (aI x7), some (aI x8), some (aI 0)]) (pc := 70) hC dX10_most_70 (by decide) rfl rfl ?_
              obtain ⟨I6, μ6, hI6, hB6⟩ := h
              have S6 : ∀ (nn : Nat) (x13 : Int) (x14 : Int), μ6 x13 x14 < nn → I6 x13 x14 → Wd p l e (rmD 1) s m args below meth c Q 0 0 7 D cA ad A LM (wI w 0 0 m_thrown_4) 72 [some (aR 0), some (aI a1), some (aI x5), some (aI x6), some (aI x13), some (aI x8), some (aI x14)] [] := by
                intro nn
                induction nn with
                | zero => intro x13 x14 hn; exact absurd hn (Nat.not_lt_zero _)
                | succ nn ih6 =>
                  intro x13 x14 hn6 hi
                  have h := hB6 x13 x14 hi
                  refine r_iload (pc := 72) hC dX10_most_72 rfl ?_
                  refine r_aload_n (pc := 74) hC 0 dX10_most_74 rfl rfl ?_
                  refine r_get (kd := 0) (v := (w.1 0 29)) (pc := 75) hC dX10_most_75 fl_RX10_271 lM_0 rfl rfl ?_
                  refine r_ic_ge (pc := 78) (tgt := 112) hC dX10_most_78 rfl (fun hc3 => ?_) (fun hc3 => ?_)
                  · have h := h.1 hc3
                    refine r_iinc (ls2 := [some (aR 0), some (aI a1), some (aI x5), some (aI x6), some (aI x13), some (aI (x8 + 1)), some (aI x14)]) (pc := 112) hC dX10_most_112 rfl (by decide) rfl h.1 rfl ?_
                    have h := h.2
                    refine r_goto (tgt := 49) (pc := 115) hC dX10_most_115 rfl ?_
                    exact r_to [true, true, true, true, true, true, false] rfl rfl (ih3 x13 (x8 + 1) (Nat.lt_of_lt_of_le h.2 (Nat.le_of_lt_succ hn3)) h.1)
                  have h := h.2 hc3
                  refine r_iload (pc := 81) hC dX10_most_81 rfl ?_
                  refine r_aload_n (pc := 83) hC 0 dX10_most_83 rfl rfl ?_
                  refine r_iload (pc := 84) hC dX10_most_84 rfl ?_
                  refine r_iload (pc := 86) hC dX10_most_86 rfl ?_
                  refine r_iload_n (pc := 88) hC 3 dX10_most_88 rfl rfl ?_
                  refine r_callVi (pc := 89) hC [aI x14, aI x8, aI x6] [aI x13] dX10_most_89 ml_RX10_297 my_X10_endsAt mi_X10_endsAt lM_0 rfl rfl ⟨Nat.le_of_ble_eq_true rfl, Nat.le_of_ble_eq_true rfl⟩ ⟨Nat.le_of_ble_eq_true rfl, Nat.le_of_ble_eq_true rfl⟩ (Nat.le_of_ble_eq_true rfl) rfl (s_M_endsAt l _ _ _ _ _ h) (fun r15 w1 hq => ?_)
                  obtain ⟨e9, h⟩ := hq
                  rw [e9]
                  obtain ⟨J7, hJ7, h⟩ := h
                  have S7 : ∀ (y16 : Int), J7 y16 → Wd p l e (rmD 1) s m args below meth c Q 0 0 7 D cA ad A LM (wI w 0 0 m_thrown_4) 103 [some (aR 0), some (aI a1), some (aI x5), some (aI x6), none, some (aI x8), some (aI x14)] [aI y16, aI x13] := by
                    intro y16 hj
                    have h := hJ7 y16 hj
                    refine r_ior (pc := 103) hC dX10_most_103 ?_
                    refine r_istore (ls2 := [some (aR 0), some (aI a1), some (aI x5), some (aI x6), some (aI (iOr x13 y16)), some (aI x8), some (aI x14)]) (pc := 104) hC dX10_most_104 (by decide) rfl rfl ?_
                    refine r_iinc (ls2 := [some (aR 0), some (aI a1), some (aI x5), some (aI x6), some (aI (iOr x13 y16)), some (aI x8), some (aI (x14 + 1))]) (pc := 106) hC dX10_most_106 rfl (by decide) rfl h.1 rfl ?_
                    have h := h.2
                    refine r_goto (tgt := 72) (pc := 109) hC dX10_most_109 rfl ?_
                    exact r_to [true, true, true, true, true, true, true] rfl rfl (ih6 (iOr x13 y16) (x14 + 1) (Nat.lt_of_lt_of_le h.2 (Nat.le_of_lt_succ hn6)) h.1)
                  refine r_if_eq (pc := 92) (tgt := 102) hC dX10_most_92 rfl (fun hc2 => ?_) (fun hc2 => ?_)
                  · have h := h.1 hc2
                    refine r_iconst (pc := 102) hC dX10_most_102 (rng_lit rfl) ?_
                    exact r_to [true, true, true, true, false, true, true] rfl rfl (S7 0 h)
                  have h := h.2 hc2
                  refine r_iconst (pc := 95) hC dX10_most_95 (rng_lit rfl) ?_
                  refine r_iload (pc := 96) hC dX10_most_96 rfl ?_
                  refine r_ishl (pc := 98) hC dX10_most_98 ?_
                  refine r_goto (tgt := 103) (pc := 99) hC dX10_most_99 rfl ?_
                  exact r_to [true, true, true, true, false, true, true] rfl rfl (S7 (iShl 1 x14) h)
              exact r_to [true, true, true, true, true, true, true] rfl rfl (S6 _ x7 0 (Nat.lt_succ_self _) hI6)
          exact r_to [true, true, true, true, true, true, false] rfl rfl (S3 _ 0 x6 (Nat.lt_succ_self _) hI3)
      exact r_to [true, true, true, true, false, false, false] rfl rfl (S2 _ 0 0 (Nat.lt_succ_self _) hI2)
    have h := h.2 hc7
    refine r_iconst (pc := 29) hC dX10_most_29 (rng_lit rfl) ?_
    refine r_conv (w2 := (wI w 0 0 m_thrown_4)) rfl ?_
    exact r_reti (pc := 30) (kd := 0) hC hQ dX10_most_30 hr hk (by decide) (Or.inl rfl) ⟨m_thrown_4, rfl, h⟩
  refine r_if_ne (pc := 14) (tgt := 21) hC dX10_most_14 rfl (fun hc8 => ?_) (fun hc8 => ?_)
  · have h := h.1 hc8
    refine r_iconst (pc := 21) hC dX10_most_21 (rng_lit rfl) ?_
    exact r_to [true, true, false, false, false, false, false] rfl rfl (S1 0 h)
  have h := h.2 hc8
  refine r_iconst (pc := 17) hC dX10_most_17 (rng_lit rfl) ?_
  refine r_goto (tgt := 22) (pc := 18) hC dX10_most_18 rfl ?_
  exact r_to [true, true, false, false, false, false, false] rfl rfl (S1 1 h)
def wp_M_widest (m_wordFrom : (Nat → Int)) (m_wordTo : (Nat → Int)) (m_weight : (Nat → Int)) (m_terms : (Nat → Int)) (m_isMatch : (Nat → Int)) (m_inWindow : (Nat → Int)) (m_window : (Nat → Int)) (m_thrown : Int) (m_words : Int) (m_items : Int) (a1 : Int) (a2 : Int) (Q : Int → (Nat → Int) → (Nat → Int) → Int → Prop) : Prop := wp_M_in a2 0 3 (fun (r1 : Int) => jn1 (fun (J1 : Int → Prop) => (¬ r1 = 0 → J1 0) ∧ (r1 = 0 → J1 1)) (fun (y2 : Int) => wp_M_throwsIf 0 y2 1 (fun (r3 : Int) (m_thrown_4 : Int) => (¬ r3 = 0 → Q 0 m_inWindow m_window m_thrown_4) ∧ (r3 = 0 → wp_M_in a1 1 600 (fun (r5 : Int) => jn1 (fun (J2 : Int → Prop) => (¬ r5 = 0 → J2 0) ∧ (r5 = 0 → J2 1)) (fun (y6 : Int) => wp_M_throwsIf m_thrown_4 y6 2 (fun (r7 : Int) (m_thrown_8 : Int) => (r7 = 0 → (rng (m_words - 1)) ∧ (wp_M_widestIn m_wordFrom m_wordTo m_weight m_terms m_isMatch m_inWindow m_window m_items 0 (m_words - 1) a1 (fun (r9 : Int) (m_inWindow_10 : (Nat → Int)) (m_window_11 : (Nat → Int)) => (r9 = 0 → (¬ a2 = 3 → Q (-1) m_inWindow_10 m_window_11 m_thrown_8) ∧ (a2 = 3 → Q 0 m_inWindow_10 m_window_11 m_thrown_8)) ∧ (¬ r9 = 0 → (0 ≤ a2 ∧ a2 < 4) ∧ (Q (m_window_11 (Int.toNat a2)) m_inWindow_10 m_window_11 m_thrown_8))))) ∧ (¬ r7 = 0 → Q 0 m_inWindow m_window m_thrown_8))))))))
set_option maxHeartbeats 4000000 in
set_option maxRecDepth 20000 in
theorem s_M_widest (l : Launch) (w : St) (a1 : Int) (a2 : Int) (P : Int → (Nat → Int) → (Nat → Int) → Int → Prop) (h : wp_M_widest (w.1 5) (w.1 6) (w.1 12) (w.1 13) (w.1 27) (w.1 30) (w.1 32) (w.1 0 0) (w.1 0 12) (w.1 0 29) a1 a2 P) : Cn l yX10_widest cX10_widest 3 (some .int) 3 LM w [aR 0, aI a1, aI a2] (okI (fun r w1 => ∃ (o0 : (Nat → Int)) (o1 : (Nat → Int)) (o2 : Int), w1 = (wI (wA (wA w 30 o0) 32 o1) 0 0 o2) ∧ P r o0 o1 o2)) := by
  unfold wp_M_widest at h
  refine Cn.of2 [some (aR 0), some (aI a1), some (aI a2)] (by decide) (Nat.le_of_ble_eq_true rfl) rfl (fun p e s m args below meth c D cA ad A Q hQ hC hr hk => ?_)
  refine r_aload_n (pc := 0) hC 0 dX10_widest_0 rfl rfl ?_
  refine r_iconst (pc := 1) hC dX10_widest_1 (rng_lit rfl) ?_
  refine r_put (kd := 0) (pc := 2) hC dX10_widest_2 pl_RX10_142 lM_0 rfl (by decide) (Or.inl rfl) ?_
  refine r_aload_n (pc := 5) hC 0 dX10_widest_5 rfl rfl ?_
  refine r_iload_n (pc := 6) hC 2 dX10_widest_6 rfl rfl ?_
  refine r_iconst (pc := 7) hC dX10_widest_7 (rng_lit rfl) ?_
  refine r_iconst (pc := 8) hC dX10_widest_8 (rng_lit rfl) ?_
  refine r_callSi (pc := 9) hC [aI a2, aI 0, aI 3] [aR 0] dX10_widest_9 ml_RX10_151 my_X10_in ms_X10_in rfl ⟨Nat.le_of_ble_eq_true rfl, Nat.le_of_ble_eq_true rfl⟩ ⟨Nat.le_of_ble_eq_true rfl, Nat.le_of_ble_eq_true rfl⟩ (Nat.le_of_ble_eq_true rfl) rfl (s_M_in l _ _ _ _ _ h) (fun r1 w1 hq => ?_)
  obtain ⟨e9, h⟩ := hq
  rw [e9]
  obtain ⟨J1, hJ1, h⟩ := h
  have S1 : ∀ (y2 : Int), J1 y2 → Wd p l e (rmD 3) s m args below meth c Q 0 0 3 D cA ad A LM (wI w 0 0 0) 20 [some (aR 0), some (aI a1), some (aI a2)] [aI y2, aR 0] := by
    intro y2 hj
    have h := hJ1 y2 hj
    refine r_iconst (pc := 20) hC dX10_widest_20 (rng_lit rfl) ?_
    refine r_callVi (pc := 21) hC [aI y2, aI 1] [] dX10_widest_21 ml_RX10_309 my_X10_throwsIf mi_X10_throwsIf lM_0 rfl rfl ⟨Nat.le_of_ble_eq_true rfl, Nat.le_of_ble_eq_true rfl⟩ ⟨Nat.le_of_ble_eq_true rfl, Nat.le_of_ble_eq_true rfl⟩ (Nat.le_of_ble_eq_true rfl) rfl (s_M_throwsIf l _ _ _ _ h) (fun r3 w1 hq => ?_)
    obtain ⟨m_thrown_4, e9, h⟩ := hq
    rw [e9]
    refine r_if_ne (pc := 24) (tgt := 51) hC dX10_widest_24 rfl (fun hc5 => ?_) (fun hc5 => ?_)
    · have h := h.1 hc5
      refine r_iconst (pc := 51) hC dX10_widest_51 (rng_lit rfl) ?_
      refine r_conv (w2 := (wI (wA (wA w 30 (w.1 30)) 32 (w.1 32)) 0 0 m_thrown_4)) rfl ?_
      exact r_reti (pc := 52) (kd := 0) hC hQ dX10_widest_52 hr hk (by decide) (Or.inl rfl) ⟨(w.1 30), (w.1 32), m_thrown_4, rfl, h⟩
    have h := h.2 hc5
    refine r_aload_n (pc := 27) hC 0 dX10_widest_27 rfl rfl ?_
    refine r_iload_n (pc := 28) hC 1 dX10_widest_28 rfl rfl ?_
    refine r_iconst (pc := 29) hC dX10_widest_29 (rng_lit rfl) ?_
    refine r_sipush (pc := 30) hC dX10_widest_30 ⟨rfl, rng_lit rfl⟩ ?_
    refine r_callSi (pc := 33) hC [aI a1, aI 1, aI 600] [aR 0] dX10_widest_33 ml_RX10_151 my_X10_in ms_X10_in rfl ⟨Nat.le_of_ble_eq_true rfl, Nat.le_of_ble_eq_true rfl⟩ ⟨Nat.le_of_ble_eq_true rfl, Nat.le_of_ble_eq_true rfl⟩ (Nat.le_of_ble_eq_true rfl) rfl (s_M_in l _ _ _ _ _ h) (fun r5 w1 hq => ?_)
    obtain ⟨e9, h⟩ := hq
    rw [e9]
    obtain ⟨J2, hJ2, h⟩ := h
    have S2 : ∀ (y6 : Int), J2 y6 → Wd p l e (rmD 3) s m args below meth c Q 0 0 3 D cA ad A LM (wI w 0 0 m_thrown_4) 44 [some (aR 0), some (aI a1), some (aI a2)] [aI y6, aR 0] := by
      intro y6 hj
      have h := hJ2 y6 hj
      refine r_iconst (pc := 44) hC dX10_widest_44 (rng_lit rfl) ?_
      refine r_callVi (pc := 45) hC [aI y6, aI 2] [] dX10_widest_45 ml_RX10_309 my_X10_throwsIf mi_X10_throwsIf lM_0 rfl rfl ⟨Nat.le_of_ble_eq_true rfl, Nat.le_of_ble_eq_true rfl⟩ ⟨Nat.le_of_ble_eq_true rfl, Nat.le_of_ble_eq_true rfl⟩ (Nat.le_of_ble_eq_true rfl) rfl (s_M_throwsIf l _ _ _ _ h) (fun r7 w1 hq => ?_)
      obtain ⟨m_thrown_8, e9, h⟩ := hq
      rw [e9]
      refine r_if_eq (pc := 48) (tgt := 53) hC dX10_widest_48 rfl (fun hc3 => ?_) (fun hc3 => ?_)
      · have h := h.1 hc3
        refine r_aload_n (pc := 53) hC 0 dX10_widest_53 rfl rfl ?_
        refine r_iconst (pc := 54) hC dX10_widest_54 (rng_lit rfl) ?_
        refine r_aload_n (pc := 55) hC 0 dX10_widest_55 rfl rfl ?_
        refine r_get (kd := 0) (v := (w.1 0 12)) (pc := 56) hC dX10_widest_56 fl_RX10_179 lM_0 rfl rfl ?_
        refine r_iconst (pc := 59) hC dX10_widest_59 (rng_lit rfl) ?_
        refine r_isub (pc := 60) hC dX10_widest_60 h.1 ?_
        have h := h.2
        refine r_iload_n (pc := 61) hC 1 dX10_widest_61 rfl rfl ?_
        refine r_callVi (pc := 62) hC [aI 0, aI ((w.1 0 12) - 1), aI a1] [] dX10_widest_62 ml_RX10_322 my_X10_widestIn mi_X10_widestIn lM_0 rfl rfl ⟨Nat.le_of_ble_eq_true rfl, Nat.le_of_ble_eq_true rfl⟩ ⟨Nat.le_of_ble_eq_true rfl, Nat.le_of_ble_eq_true rfl⟩ (Nat.le_of_ble_eq_true rfl) rfl (s_M_widestIn l _ _ _ _ _ h) (fun r9 w1 hq => ?_)
        obtain ⟨m_inWindow_10, m_window_11, e9, h⟩ := hq
        rw [e9]
        refine r_if_eq (pc := 65) (tgt := 77) hC dX10_widest_65 rfl (fun hc2 => ?_) (fun hc2 => ?_)
        · have h := h.1 hc2
          refine r_iload_n (pc := 77) hC 2 dX10_widest_77 rfl rfl ?_
          refine r_iconst (pc := 78) hC dX10_widest_78 (rng_lit rfl) ?_
          refine r_ic_ne (pc := 79) (tgt := 86) hC dX10_widest_79 rfl (fun hc1 => ?_) (fun hc1 => ?_)
          · have h := h.1 hc1
            refine r_iconst (pc := 86) hC dX10_widest_86 (rng_lit rfl) ?_
            refine r_conv (w2 := (wI (wA (wA w 30 m_inWindow_10) 32 m_window_11) 0 0 m_thrown_8)) rfl ?_
            exact r_reti (pc := 87) (kd := 0) hC hQ dX10_widest_87 hr hk (by decide) (Or.inl rfl) ⟨m_inWindow_10, m_window_11, m_thrown_8, rfl, h⟩
          have h := h.2 hc1
          refine r_iconst (pc := 82) hC dX10_widest_82 (rng_lit rfl) ?_
          refine r_goto (tgt := 87) (pc := 83) hC dX10_widest_83 rfl ?_
          refine r_conv (w2 := (wI (wA (wA w 30 m_inWindow_10) 32 m_window_11) 0 0 m_thrown_8)) rfl ?_
          exact r_reti (pc := 87) (kd := 0) hC hQ dX10_widest_87 hr hk (by decide) (Or.inl rfl) ⟨m_inWindow_10, m_window_11, m_thrown_8, rfl, h⟩
        have h := h.2 hc2
        refine r_aload_n (pc := 68) hC 0 dX10_widest_68 rfl rfl ?_
        refine r_getr (r := 32) (pc := 69) hC dX10_widest_69 fl_RX10_109 lM_0 rfl ?_
        refine r_iload_n (pc := 72) hC 2 dX10_widest_72 rfl rfl ?_
        refine r_iald (v := (m_window_11 (Int.toNat a2))) (pc := 73) hC dX10_widest_73 lM_32 h.1.1 h.1.2 rfl ?_
        have h := h.2
        refine r_goto (tgt := 87) (pc := 74) hC dX10_widest_74 rfl ?_
        refine r_conv (w2 := (wI (wA (wA w 30 m_inWindow_10) 32 m_window_11) 0 0 m_thrown_8)) rfl ?_
        exact r_reti (pc := 87) (kd := 0) hC hQ dX10_widest_87 hr hk (by decide) (Or.inl rfl) ⟨m_inWindow_10, m_window_11, m_thrown_8, rfl, h⟩
      have h := h.2 hc3
      refine r_iconst (pc := 51) hC dX10_widest_51 (rng_lit rfl) ?_
      refine r_conv (w2 := (wI (wA (wA w 30 (w.1 30)) 32 (w.1 32)) 0 0 m_thrown_8)) rfl ?_
      exact r_reti (pc := 52) (kd := 0) hC hQ dX10_widest_52 hr hk (by decide) (Or.inl rfl) ⟨(w.1 30), (w.1 32), m_thrown_8, rfl, h⟩
    refine r_if_ne (pc := 36) (tgt := 43) hC dX10_widest_36 rfl (fun hc4 => ?_) (fun hc4 => ?_)
    · have h := h.1 hc4
      refine r_iconst (pc := 43) hC dX10_widest_43 (rng_lit rfl) ?_
      exact r_to [true, true, true] rfl rfl (S2 0 h)
    have h := h.2 hc4
    refine r_iconst (pc := 39) hC dX10_widest_39 (rng_lit rfl) ?_
    refine r_goto (tgt := 44) (pc := 40) hC dX10_widest_40 rfl ?_
    exact r_to [true, true, true] rfl rfl (S2 1 h)
  refine r_if_ne (pc := 12) (tgt := 19) hC dX10_widest_12 rfl (fun hc6 => ?_) (fun hc6 => ?_)
  · have h := h.1 hc6
    refine r_iconst (pc := 19) hC dX10_widest_19 (rng_lit rfl) ?_
    exact r_to [true, true, true] rfl rfl (S1 0 h)
  have h := h.2 hc6
  refine r_iconst (pc := 15) hC dX10_widest_15 (rng_lit rfl) ?_
  refine r_goto (tgt := 20) (pc := 16) hC dX10_widest_16 rfl ?_
  exact r_to [true, true, true] rfl rfl (S1 1 h)
def wp_M_firstWord (m_sentenceOf : (Nat → Int)) (m_words : Int) (a1 : Int) (Q : Int → Prop) : Prop := lpw1 (fun (x1 : Int) (k1 : Int → Prop) => (m_words ≤ x1 → Q (-1)) ∧ (¬ m_words ≤ x1 → (0 ≤ x1 ∧ x1 < 100) ∧ ((¬ (m_sentenceOf (Int.toNat x1)) = a1 → (rng (x1 + 1)) ∧ (k1 (x1 + 1))) ∧ ((m_sentenceOf (Int.toNat x1)) = a1 → Q x1)))) 0
set_option maxHeartbeats 4000000 in
set_option maxRecDepth 20000 in
theorem s_M_firstWord (l : Launch) (w : St) (a1 : Int) (P : Int → Prop) (h : wp_M_firstWord (w.1 7) (w.1 0 12) a1 P) : Cn l yX10_firstWord cX10_firstWord 3 (some .int) 0 LM w [aR 0, aI a1] (okI (fun r w1 => w1 = w ∧ P r)) := by
  unfold wp_M_firstWord at h
  refine Cn.of2 [some (aR 0), some (aI a1), none] (by decide) (Nat.le_of_ble_eq_true rfl) rfl (fun p e s m args below meth c D cA ad A Q hQ hC hr hk => ?_)
  refine r_iconst (pc := 0) hC dX10_firstWord_0 (rng_lit rfl) ?_
  refine r_istore_n (ls2 := [some (aR 0), some (aI a1), some (aI 0)]) (pc := 1) hC 2 dX10_firstWord_1 rfl (by decide) rfl rfl ?_
  obtain ⟨I1, μ1, hI1, hB1⟩ := h
  have S1 : ∀ (nn : Nat) (x1 : Int), μ1 x1 < nn → I1 x1 → Wd p l e (rmD 0) s m args below meth c Q 0 0 3 D cA ad A LM w 2 [some (aR 0), some (aI a1), some (aI x1)] [] := by
    intro nn
    induction nn with
    | zero => intro x1 hn; exact absurd hn (Nat.not_lt_zero _)
    | succ nn ih1 =>
      intro x1 hn1 hi
      have h := hB1 x1 hi
      refine r_iload_n (pc := 2) hC 2 dX10_firstWord_2 rfl rfl ?_
      refine r_aload_n (pc := 3) hC 0 dX10_firstWord_3 rfl rfl ?_
      refine r_get (kd := 0) (v := (w.1 0 12)) (pc := 4) hC dX10_firstWord_4 fl_RX10_179 lM_0 rfl rfl ?_
      refine r_ic_ge (pc := 7) (tgt := 28) hC dX10_firstWord_7 rfl (fun hc2 => ?_) (fun hc2 => ?_)
      · have h := h.1 hc2
        refine r_iconst (pc := 28) hC dX10_firstWord_28 (rng_lit rfl) ?_
        exact r_reti (pc := 29) (kd := 0) hC hQ dX10_firstWord_29 hr hk (by decide) (Or.inl rfl) ⟨rfl, h⟩
      have h := h.2 hc2
      refine r_aload_n (pc := 10) hC 0 dX10_firstWord_10 rfl rfl ?_
      refine r_getr (r := 7) (pc := 11) hC dX10_firstWord_11 fl_RX10_29 lM_0 rfl ?_
      refine r_iload_n (pc := 14) hC 2 dX10_firstWord_14 rfl rfl ?_
      refine r_iald (v := ((w.1 7) (Int.toNat x1))) (pc := 15) hC dX10_firstWord_15 lM_7 h.1.1 h.1.2 rfl ?_
      have h := h.2
      refine r_iload_n (pc := 16) hC 1 dX10_firstWord_16 rfl rfl ?_
      refine r_ic_ne (pc := 17) (tgt := 22) hC dX10_firstWord_17 rfl (fun hc1 => ?_) (fun hc1 => ?_)
      · have h := h.1 hc1
        refine r_iinc (ls2 := [some (aR 0), some (aI a1), some (aI (x1 + 1))]) (pc := 22) hC dX10_firstWord_22 rfl (by decide) rfl h.1 rfl ?_
        have h := h.2
        refine r_goto (tgt := 2) (pc := 25) hC dX10_firstWord_25 rfl ?_
        exact r_to [true, true, true] rfl rfl (ih1 (x1 + 1) (Nat.lt_of_lt_of_le h.2 (Nat.le_of_lt_succ hn1)) h.1)
      have h := h.2 hc1
      refine r_iload_n (pc := 20) hC 2 dX10_firstWord_20 rfl rfl ?_
      exact r_reti (pc := 21) (kd := 0) hC hQ dX10_firstWord_21 hr hk (by decide) (Or.inl rfl) ⟨rfl, h⟩
  exact r_to [true, true, true] rfl rfl (S1 _ 0 (Nat.lt_succ_self _) hI1)
def wp_M_wordsIn (m_sentenceOf : (Nat → Int)) (m_words : Int) (a1 : Int) (Q : Int → Prop) : Prop := lpw2 (fun (x1 : Int) (x2 : Int) (k1 : Int → Int → Prop) => (m_words ≤ x2 → Q x1) ∧ (¬ m_words ≤ x2 → (0 ≤ x2 ∧ x2 < 100) ∧ (jn1 (fun (J2 : Int → Prop) => (¬ (m_sentenceOf (Int.toNat x2)) = a1 → J2 0) ∧ ((m_sentenceOf (Int.toNat x2)) = a1 → J2 1)) (fun (y3 : Int) => (rng (x1 + y3)) ∧ ((rng (x2 + 1)) ∧ (k1 (x1 + y3) (x2 + 1))))))) 0 0
set_option maxHeartbeats 4000000 in
set_option maxRecDepth 20000 in
theorem s_M_wordsIn (l : Launch) (w : St) (a1 : Int) (P : Int → Prop) (h : wp_M_wordsIn (w.1 7) (w.1 0 12) a1 P) : Cn l yX10_wordsIn cX10_wordsIn 4 (some .int) 0 LM w [aR 0, aI a1] (okI (fun r w1 => w1 = w ∧ P r)) := by
  unfold wp_M_wordsIn at h
  refine Cn.of2 [some (aR 0), some (aI a1), none, none] (by decide) (Nat.le_of_ble_eq_true rfl) rfl (fun p e s m args below meth c D cA ad A Q hQ hC hr hk => ?_)
  refine r_iconst (pc := 0) hC dX10_wordsIn_0 (rng_lit rfl) ?_
  refine r_istore_n (ls2 := [some (aR 0), some (aI a1), some (aI 0), none]) (pc := 1) hC 2 dX10_wordsIn_1 rfl (by decide) rfl rfl ?_
  refine r_iconst (pc := 2) hC dX10_wordsIn_2 (rng_lit rfl) ?_
  refine r_istore_n (ls2 := [some (aR 0), some (aI a1), some (aI 0), some (aI 0)]) (pc := 3) hC 3 dX10_wordsIn_3 rfl (by decide) rfl rfl ?_
  obtain ⟨I1, μ1, hI1, hB1⟩ := h
  have S1 : ∀ (nn : Nat) (x1 : Int) (x2 : Int), μ1 x1 x2 < nn → I1 x1 x2 → Wd p l e (rmD 0) s m args below meth c Q 0 0 4 D cA ad A LM w 4 [some (aR 0), some (aI a1), some (aI x1), some (aI x2)] [] := by
    intro nn
    induction nn with
    | zero => intro x1 x2 hn; exact absurd hn (Nat.not_lt_zero _)
    | succ nn ih1 =>
      intro x1 x2 hn1 hi
      have h := hB1 x1 x2 hi
      refine r_iload_n (pc := 4) hC 3 dX10_wordsIn_4 rfl rfl ?_
      refine r_aload_n (pc := 5) hC 0 dX10_wordsIn_5 rfl rfl ?_
      refine r_get (kd := 0) (v := (w.1 0 12)) (pc := 6) hC dX10_wordsIn_6 fl_RX10_179 lM_0 rfl rfl ?_
      refine r_ic_ge (pc := 9) (tgt := 36) hC dX10_wordsIn_9 rfl (fun hc2 => ?_) (fun hc2 => ?_)
      · have h := h.1 hc2
        refine r_iload_n (pc := 36) hC 2 dX10_wordsIn_36 rfl rfl ?_
        exact r_reti (pc := 37) (kd := 0) hC hQ dX10_wordsIn_37 hr hk (by decide) (Or.inl rfl) ⟨rfl, h⟩
      have h := h.2 hc2
      refine r_iload_n (pc := 12) hC 2 dX10_wordsIn_12 rfl rfl ?_
      refine r_aload_n (pc := 13) hC 0 dX10_wordsIn_13 rfl rfl ?_
      refine r_getr (r := 7) (pc := 14) hC dX10_wordsIn_14 fl_RX10_29 lM_0 rfl ?_
      refine r_iload_n (pc := 17) hC 3 dX10_wordsIn_17 rfl rfl ?_
      refine r_iald (v := ((w.1 7) (Int.toNat x2))) (pc := 18) hC dX10_wordsIn_18 lM_7 h.1.1 h.1.2 rfl ?_
      have h := h.2
      refine r_iload_n (pc := 19) hC 1 dX10_wordsIn_19 rfl rfl ?_
      obtain ⟨J2, hJ2, h⟩ := h
      have S2 : ∀ (y3 : Int), J2 y3 → Wd p l e (rmD 0) s m args below meth c Q 0 0 4 D cA ad A LM w 28 [some (aR 0), some (aI a1), none, some (aI x2)] [aI y3, aI x1] := by
        intro y3 hj
        have h := hJ2 y3 hj
        refine r_iadd (pc := 28) hC dX10_wordsIn_28 h.1 ?_
        have h := h.2
        refine r_istore_n (ls2 := [some (aR 0), some (aI a1), some (aI (x1 + y3)), some (aI x2)]) (pc := 29) hC 2 dX10_wordsIn_29 rfl (by decide) rfl rfl ?_
        refine r_iinc (ls2 := [some (aR 0), some (aI a1), some (aI (x1 + y3)), some (aI (x2 + 1))]) (pc := 30) hC dX10_wordsIn_30 rfl (by decide) rfl h.1 rfl ?_
        have h := h.2
        refine r_goto (tgt := 4) (pc := 33) hC dX10_wordsIn_33 rfl ?_
        exact r_to [true, true, true, true] rfl rfl (ih1 (x1 + y3) (x2 + 1) (Nat.lt_of_lt_of_le h.2 (Nat.le_of_lt_succ hn1)) h.1)
      refine r_ic_ne (pc := 20) (tgt := 27) hC dX10_wordsIn_20 rfl (fun hc1 => ?_) (fun hc1 => ?_)
      · have h := h.1 hc1
        refine r_iconst (pc := 27) hC dX10_wordsIn_27 (rng_lit rfl) ?_
        exact r_to [true, true, false, true] rfl rfl (S2 0 h)
      have h := h.2 hc1
      refine r_iconst (pc := 23) hC dX10_wordsIn_23 (rng_lit rfl) ?_
      refine r_goto (tgt := 28) (pc := 24) hC dX10_wordsIn_24 rfl ?_
      exact r_to [true, true, false, true] rfl rfl (S2 1 h)
  exact r_to [true, true, true, true] rfl rfl (S1 _ 0 0 (Nat.lt_succ_self _) hI1)
