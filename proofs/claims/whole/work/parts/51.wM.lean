def wp_M_isStop (m_page : (Nat → Int)) (m_signAt : (Nat → Int)) (m_signs : Int) (a1 : Int) (Q : Int → Prop) : Prop := wp_M_plain m_page m_signAt m_signs a1 (fun (r1 : Int) => jn0 (fun (J1 : Prop) => (r1 = 46 → J1) ∧ (¬ r1 = 46 → (r1 = 33 → J1) ∧ (¬ r1 = 33 → (¬ r1 = 63 → Q 0) ∧ (r1 = 63 → J1)))) (Q 1))
set_option maxHeartbeats 4000000 in
set_option maxRecDepth 20000 in
theorem s_M_isStop (l : Launch) (w : St) (a1 : Int) (P : Int → Prop) (h : wp_M_isStop (w.1 3) (w.1 4) (w.1 0 7) a1 P) : Cn l yX10_isStop cX10_isStop 3 (some .boolean) 2 LM w [aR 0, aI a1] (okI (fun r w1 => w1 = w ∧ P r)) := by
  unfold wp_M_isStop at h
  refine Cn.of2 [some (aR 0), some (aI a1), none] (by decide) (Nat.le_of_ble_eq_true rfl) rfl (fun p e s m args below meth c D cA ad A Q hQ hC hr hk => ?_)
  refine r_aload_n (pc := 0) hC 0 dX10_isStop_0 rfl rfl ?_
  refine r_iload_n (pc := 1) hC 1 dX10_isStop_1 rfl rfl ?_
  refine r_callVi (pc := 2) hC [aI a1] [] dX10_isStop_2 ml_RX10_166 my_X10_plain mi_X10_plain lM_0 rfl rfl ⟨Nat.le_of_ble_eq_true rfl, Nat.le_of_ble_eq_true rfl⟩ ⟨Nat.le_of_ble_eq_true rfl, Nat.le_of_ble_eq_true rfl⟩ (Nat.le_of_ble_eq_true rfl) rfl (s_M_plain l _ _ _ h) (fun r1 w1 hq => ?_)
  obtain ⟨e9, h⟩ := hq
  rw [e9]
  refine r_istore_n (ls2 := [some (aR 0), some (aI a1), some (aI r1)]) (pc := 5) hC 2 dX10_isStop_5 rfl (by decide) rfl rfl ?_
  refine r_iload_n (pc := 6) hC 2 dX10_isStop_6 rfl rfl ?_
  refine r_bipush (pc := 7) hC dX10_isStop_7 ⟨rfl, rng_lit rfl⟩ ?_
  obtain ⟨J1, hJ1, h⟩ := h
  have S1 : J1 → Wd p l e (rmD 2) s m args below meth c Q 0 0 3 D cA ad A LM w 24 [none, none, none] [] := by
    intro hj
    have h := hJ1 hj
    refine r_iconst (pc := 24) hC dX10_isStop_24 (rng_lit rfl) ?_
    refine r_goto (tgt := 29) (pc := 25) hC dX10_isStop_25 rfl ?_
    exact r_reti (pc := 29) (kd := 1) hC hQ dX10_isStop_29 hr hk (by decide) (Or.inr okK1_1) ⟨rfl, h⟩
  refine r_ic_eq (pc := 9) (tgt := 24) hC dX10_isStop_9 rfl (fun hc3 => ?_) (fun hc3 => ?_)
  · have h := h.1 hc3
    exact r_to [false, false, false] rfl rfl (S1 h)
  have h := h.2 hc3
  refine r_iload_n (pc := 12) hC 2 dX10_isStop_12 rfl rfl ?_
  refine r_bipush (pc := 13) hC dX10_isStop_13 ⟨rfl, rng_lit rfl⟩ ?_
  refine r_ic_eq (pc := 15) (tgt := 24) hC dX10_isStop_15 rfl (fun hc2 => ?_) (fun hc2 => ?_)
  · have h := h.1 hc2
    exact r_to [false, false, false] rfl rfl (S1 h)
  have h := h.2 hc2
  refine r_iload_n (pc := 18) hC 2 dX10_isStop_18 rfl rfl ?_
  refine r_bipush (pc := 19) hC dX10_isStop_19 ⟨rfl, rng_lit rfl⟩ ?_
  refine r_ic_ne (pc := 21) (tgt := 28) hC dX10_isStop_21 rfl (fun hc1 => ?_) (fun hc1 => ?_)
  · have h := h.1 hc1
    refine r_iconst (pc := 28) hC dX10_isStop_28 (rng_lit rfl) ?_
    exact r_reti (pc := 29) (kd := 1) hC hQ dX10_isStop_29 hr hk (by decide) (Or.inr okK1_0) ⟨rfl, h⟩
  have h := h.2 hc1
  exact r_to [false, false, false] rfl rfl (S1 h)
def wp_M_isClosing (m_page : (Nat → Int)) (m_signAt : (Nat → Int)) (m_signs : Int) (a1 : Int) (Q : Int → Prop) : Prop := wp_M_isStop m_page m_signAt m_signs a1 (fun (r1 : Int) => jn0 (fun (J1 : Prop) => (¬ r1 = 0 → J1) ∧ (r1 = 0 → wp_M_plain m_page m_signAt m_signs a1 (fun (r2 : Int) => (r2 = 41 → J1) ∧ (¬ r2 = 41 → wp_M_plain m_page m_signAt m_signs a1 (fun (r3 : Int) => (¬ r3 = 34 → Q 0) ∧ (r3 = 34 → J1)))))) (Q 1))
set_option maxHeartbeats 4000000 in
set_option maxRecDepth 20000 in
theorem s_M_isClosing (l : Launch) (w : St) (a1 : Int) (P : Int → Prop) (h : wp_M_isClosing (w.1 3) (w.1 4) (w.1 0 7) a1 P) : Cn l yX10_isClosing cX10_isClosing 2 (some .boolean) 3 LM w [aR 0, aI a1] (okI (fun r w1 => w1 = w ∧ P r)) := by
  unfold wp_M_isClosing at h
  refine Cn.of2 [some (aR 0), some (aI a1)] (by decide) (Nat.le_of_ble_eq_true rfl) rfl (fun p e s m args below meth c D cA ad A Q hQ hC hr hk => ?_)
  refine r_aload_n (pc := 0) hC 0 dX10_isClosing_0 rfl rfl ?_
  refine r_iload_n (pc := 1) hC 1 dX10_isClosing_1 rfl rfl ?_
  refine r_callVi (pc := 2) hC [aI a1] [] dX10_isClosing_2 ml_RX10_188 my_X10_isStop mi_X10_isStop lM_0 rfl rfl ⟨Nat.le_of_ble_eq_true rfl, Nat.le_of_ble_eq_true rfl⟩ ⟨Nat.le_of_ble_eq_true rfl, Nat.le_of_ble_eq_true rfl⟩ (Nat.le_of_ble_eq_true rfl) rfl (s_M_isStop l _ _ _ h) (fun r1 w1 hq => ?_)
  obtain ⟨e9, h⟩ := hq
  rw [e9]
  obtain ⟨J1, hJ1, h⟩ := h
  have S1 : J1 → Wd p l e (rmD 3) s m args below meth c Q 0 0 2 D cA ad A LM w 28 [none, none] [] := by
    intro hj
    have h := hJ1 hj
    refine r_iconst (pc := 28) hC dX10_isClosing_28 (rng_lit rfl) ?_
    refine r_goto (tgt := 33) (pc := 29) hC dX10_isClosing_29 rfl ?_
    exact r_reti (pc := 33) (kd := 1) hC hQ dX10_isClosing_33 hr hk (by decide) (Or.inr okK1_1) ⟨rfl, h⟩
  refine r_if_ne (pc := 5) (tgt := 28) hC dX10_isClosing_5 rfl (fun hc3 => ?_) (fun hc3 => ?_)
  · have h := h.1 hc3
    exact r_to [false, false] rfl rfl (S1 h)
  have h := h.2 hc3
  refine r_aload_n (pc := 8) hC 0 dX10_isClosing_8 rfl rfl ?_
  refine r_iload_n (pc := 9) hC 1 dX10_isClosing_9 rfl rfl ?_
  refine r_callVi (pc := 10) hC [aI a1] [] dX10_isClosing_10 ml_RX10_166 my_X10_plain mi_X10_plain lM_0 rfl rfl ⟨Nat.le_of_ble_eq_true rfl, Nat.le_of_ble_eq_true rfl⟩ ⟨Nat.le_of_ble_eq_true rfl, Nat.le_of_ble_eq_true rfl⟩ (Nat.le_of_ble_eq_true rfl) rfl (s_M_plain l _ _ _ h) (fun r2 w1 hq => ?_)
  obtain ⟨e9, h⟩ := hq
  rw [e9]
  refine r_bipush (pc := 13) hC dX10_isClosing_13 ⟨rfl, rng_lit rfl⟩ ?_
  refine r_ic_eq (pc := 15) (tgt := 28) hC dX10_isClosing_15 rfl (fun hc2 => ?_) (fun hc2 => ?_)
  · have h := h.1 hc2
    exact r_to [false, false] rfl rfl (S1 h)
  have h := h.2 hc2
  refine r_aload_n (pc := 18) hC 0 dX10_isClosing_18 rfl rfl ?_
  refine r_iload_n (pc := 19) hC 1 dX10_isClosing_19 rfl rfl ?_
  refine r_callVi (pc := 20) hC [aI a1] [] dX10_isClosing_20 ml_RX10_166 my_X10_plain mi_X10_plain lM_0 rfl rfl ⟨Nat.le_of_ble_eq_true rfl, Nat.le_of_ble_eq_true rfl⟩ ⟨Nat.le_of_ble_eq_true rfl, Nat.le_of_ble_eq_true rfl⟩ (Nat.le_of_ble_eq_true rfl) rfl (s_M_plain l _ _ _ h) (fun r3 w1 hq => ?_)
  obtain ⟨e9, h⟩ := hq
  rw [e9]
  refine r_bipush (pc := 23) hC dX10_isClosing_23 ⟨rfl, rng_lit rfl⟩ ?_
  refine r_ic_ne (pc := 25) (tgt := 32) hC dX10_isClosing_25 rfl (fun hc1 => ?_) (fun hc1 => ?_)
  · have h := h.1 hc1
    refine r_iconst (pc := 32) hC dX10_isClosing_32 (rng_lit rfl) ?_
    exact r_reti (pc := 33) (kd := 1) hC hQ dX10_isClosing_33 hr hk (by decide) (Or.inr okK1_0) ⟨rfl, h⟩
  have h := h.2 hc1
  exact r_to [false, false] rfl rfl (S1 h)
def wp_M_isInitial (m_page : (Nat → Int)) (m_signAt : (Nat → Int)) (m_signs : Int) (a1 : Int) (Q : Int → Prop) : Prop := wp_M_plain m_page m_signAt m_signs a1 (fun (r1 : Int) => (¬ r1 = 46 → Q 0) ∧ (r1 = 46 → (rng (a1 - 1)) ∧ (wp_M_isLetter m_page m_signAt m_signs (a1 - 1) (fun (r2 : Int) => (r2 = 0 → Q 0) ∧ (¬ r2 = 0 → (rng (a1 - 2)) ∧ (wp_M_isLetter m_page m_signAt m_signs (a1 - 2) (fun (r3 : Int) => (¬ r3 = 0 → Q 0) ∧ (r3 = 0 → (rng (a1 + 1)) ∧ (wp_M_isClosing m_page m_signAt m_signs (a1 + 1) (fun (r4 : Int) => (¬ r4 = 0 → Q 0) ∧ (r4 = 0 → Q 1)))))))))))
set_option maxHeartbeats 4000000 in
set_option maxRecDepth 20000 in
theorem s_M_isInitial (l : Launch) (w : St) (a1 : Int) (P : Int → Prop) (h : wp_M_isInitial (w.1 3) (w.1 4) (w.1 0 7) a1 P) : Cn l yX10_isInitial cX10_isInitial 2 (some .boolean) 4 LM w [aR 0, aI a1] (okI (fun r w1 => w1 = w ∧ P r)) := by
  unfold wp_M_isInitial at h
  refine Cn.of2 [some (aR 0), some (aI a1)] (by decide) (Nat.le_of_ble_eq_true rfl) rfl (fun p e s m args below meth c D cA ad A Q hQ hC hr hk => ?_)
  refine r_aload_n (pc := 0) hC 0 dX10_isInitial_0 rfl rfl ?_
  refine r_iload_n (pc := 1) hC 1 dX10_isInitial_1 rfl rfl ?_
  refine r_callVi (pc := 2) hC [aI a1] [] dX10_isInitial_2 ml_RX10_166 my_X10_plain mi_X10_plain lM_0 rfl rfl ⟨Nat.le_of_ble_eq_true rfl, Nat.le_of_ble_eq_true rfl⟩ ⟨Nat.le_of_ble_eq_true rfl, Nat.le_of_ble_eq_true rfl⟩ (Nat.le_of_ble_eq_true rfl) rfl (s_M_plain l _ _ _ h) (fun r1 w1 hq => ?_)
  obtain ⟨e9, h⟩ := hq
  rw [e9]
  refine r_bipush (pc := 5) hC dX10_isInitial_5 ⟨rfl, rng_lit rfl⟩ ?_
  refine r_ic_ne (pc := 7) (tgt := 44) hC dX10_isInitial_7 rfl (fun hc4 => ?_) (fun hc4 => ?_)
  · have h := h.1 hc4
    refine r_iconst (pc := 44) hC dX10_isInitial_44 (rng_lit rfl) ?_
    exact r_reti (pc := 45) (kd := 1) hC hQ dX10_isInitial_45 hr hk (by decide) (Or.inr okK1_0) ⟨rfl, h⟩
  have h := h.2 hc4
  refine r_aload_n (pc := 10) hC 0 dX10_isInitial_10 rfl rfl ?_
  refine r_iload_n (pc := 11) hC 1 dX10_isInitial_11 rfl rfl ?_
  refine r_iconst (pc := 12) hC dX10_isInitial_12 (rng_lit rfl) ?_
  refine r_isub (pc := 13) hC dX10_isInitial_13 h.1 ?_
  have h := h.2
  refine r_callVi (pc := 14) hC [aI (a1 - 1)] [] dX10_isInitial_14 ml_RX10_182 my_X10_isLetter mi_X10_isLetter lM_0 rfl rfl ⟨Nat.le_of_ble_eq_true rfl, Nat.le_of_ble_eq_true rfl⟩ ⟨Nat.le_of_ble_eq_true rfl, Nat.le_of_ble_eq_true rfl⟩ (Nat.le_of_ble_eq_true rfl) rfl (s_M_isLetter l _ _ _ h) (fun r2 w1 hq => ?_)
  obtain ⟨e9, h⟩ := hq
  rw [e9]
  refine r_if_eq (pc := 17) (tgt := 44) hC dX10_isInitial_17 rfl (fun hc3 => ?_) (fun hc3 => ?_)
  · have h := h.1 hc3
    refine r_iconst (pc := 44) hC dX10_isInitial_44 (rng_lit rfl) ?_
    exact r_reti (pc := 45) (kd := 1) hC hQ dX10_isInitial_45 hr hk (by decide) (Or.inr okK1_0) ⟨rfl, h⟩
  have h := h.2 hc3
  refine r_aload_n (pc := 20) hC 0 dX10_isInitial_20 rfl rfl ?_
  refine r_iload_n (pc := 21) hC 1 dX10_isInitial_21 rfl rfl ?_
  refine r_iconst (pc := 22) hC dX10_isInitial_22 (rng_lit rfl) ?_
  refine r_isub (pc := 23) hC dX10_isInitial_23 h.1 ?_
  have h := h.2
  refine r_callVi (pc := 24) hC [aI (a1 - 2)] [] dX10_isInitial_24 ml_RX10_182 my_X10_isLetter mi_X10_isLetter lM_0 rfl rfl ⟨Nat.le_of_ble_eq_true rfl, Nat.le_of_ble_eq_true rfl⟩ ⟨Nat.le_of_ble_eq_true rfl, Nat.le_of_ble_eq_true rfl⟩ (Nat.le_of_ble_eq_true rfl) rfl (s_M_isLetter l _ _ _ h) (fun r3 w1 hq => ?_)
  obtain ⟨e9, h⟩ := hq
  rw [e9]
  refine r_if_ne (pc := 27) (tgt := 44) hC dX10_isInitial_27 rfl (fun hc2 => ?_) (fun hc2 => ?_)
  · have h := h.1 hc2
    refine r_iconst (pc := 44) hC dX10_isInitial_44 (rng_lit rfl) ?_
    exact r_reti (pc := 45) (kd := 1) hC hQ dX10_isInitial_45 hr hk (by decide) (Or.inr okK1_0) ⟨rfl, h⟩
  have h := h.2 hc2
  refine r_aload_n (pc := 30) hC 0 dX10_isInitial_30 rfl rfl ?_
  refine r_iload_n (pc := 31) hC 1 dX10_isInitial_31 rfl rfl ?_
  refine r_iconst (pc := 32) hC dX10_isInitial_32 (rng_lit rfl) ?_
  refine r_iadd (pc := 33) hC dX10_isInitial_33 h.1 ?_
  have h := h.2
  refine r_callVi (pc := 34) hC [aI (a1 + 1)] [] dX10_isInitial_34 ml_RX10_191 my_X10_isClosing mi_X10_isClosing lM_0 rfl rfl ⟨Nat.le_of_ble_eq_true rfl, Nat.le_of_ble_eq_true rfl⟩ ⟨Nat.le_of_ble_eq_true rfl, Nat.le_of_ble_eq_true rfl⟩ (Nat.le_of_ble_eq_true rfl) rfl (s_M_isClosing l _ _ _ h) (fun r4 w1 hq => ?_)
  obtain ⟨e9, h⟩ := hq
  rw [e9]
  refine r_if_ne (pc := 37) (tgt := 44) hC dX10_isInitial_37 rfl (fun hc1 => ?_) (fun hc1 => ?_)
  · have h := h.1 hc1
    refine r_iconst (pc := 44) hC dX10_isInitial_44 (rng_lit rfl) ?_
    exact r_reti (pc := 45) (kd := 1) hC hQ dX10_isInitial_45 hr hk (by decide) (Or.inr okK1_0) ⟨rfl, h⟩
  have h := h.2 hc1
  refine r_iconst (pc := 40) hC dX10_isInitial_40 (rng_lit rfl) ?_
  refine r_goto (tgt := 45) (pc := 41) hC dX10_isInitial_41 rfl ?_
  exact r_reti (pc := 45) (kd := 1) hC hQ dX10_isInitial_45 hr hk (by decide) (Or.inr okK1_1) ⟨rfl, h⟩
def wp_M_isGap (m_page : (Nat → Int)) (m_signAt : (Nat → Int)) (m_signs : Int) (a1 : Int) (Q : Int → Prop) : Prop := wp_M_plain m_page m_signAt m_signs a1 (fun (r1 : Int) => (r1 = 10 → (rng (a1 + 1)) ∧ (lpw1 (fun (x2 : Int) (k1 : Int → Prop) => wp_M_plain m_page m_signAt m_signs x2 (fun (r3 : Int) => jn0 (fun (J2 : Prop) => (r3 = 9 → J2) ∧ (¬ r3 = 9 → wp_M_plain m_page m_signAt m_signs x2 (fun (r4 : Int) => (¬ r4 = 32 → wp_M_plain m_page m_signAt m_signs x2 (fun (r5 : Int) => (¬ r5 = 10 → Q 0) ∧ (r5 = 10 → Q 1))) ∧ (r4 = 32 → J2)))) ((rng (x2 + 1)) ∧ (k1 (x2 + 1))))) (a1 + 1))) ∧ (¬ r1 = 10 → Q 0))
set_option maxHeartbeats 4000000 in
set_option maxRecDepth 20000 in
theorem s_M_isGap (l : Launch) (w : St) (a1 : Int) (P : Int → Prop) (h : wp_M_isGap (w.1 3) (w.1 4) (w.1 0 7) a1 P) : Cn l yX10_isGap cX10_isGap 3 (some .boolean) 2 LM w [aR 0, aI a1] (okI (fun r w1 => w1 = w ∧ P r)) := by
  unfold wp_M_isGap at h
  refine Cn.of2 [some (aR 0), some (aI a1), none] (by decide) (Nat.le_of_ble_eq_true rfl) rfl (fun p e s m args below meth c D cA ad A Q hQ hC hr hk => ?_)
  refine r_aload_n (pc := 0) hC 0 dX10_isGap_0 rfl rfl ?_
  refine r_iload_n (pc := 1) hC 1 dX10_isGap_1 rfl rfl ?_
  refine r_callVi (pc := 2) hC [aI a1] [] dX10_isGap_2 ml_RX10_166 my_X10_plain mi_X10_plain lM_0 rfl rfl ⟨Nat.le_of_ble_eq_true rfl, Nat.le_of_ble_eq_true rfl⟩ ⟨Nat.le_of_ble_eq_true rfl, Nat.le_of_ble_eq_true rfl⟩ (Nat.le_of_ble_eq_true rfl) rfl (s_M_plain l _ _ _ h) (fun r1 w1 hq => ?_)
  obtain ⟨e9, h⟩ := hq
  rw [e9]
  refine r_bipush (pc := 5) hC dX10_isGap_5 ⟨rfl, rng_lit rfl⟩ ?_
  refine r_ic_eq (pc := 7) (tgt := 12) hC dX10_isGap_7 rfl (fun hc4 => ?_) (fun hc4 => ?_)
  · have h := h.1 hc4
    refine r_iload_n (pc := 12) hC 1 dX10_isGap_12 rfl rfl ?_
    refine r_iconst (pc := 13) hC dX10_isGap_13 (rng_lit rfl) ?_
    refine r_iadd (pc := 14) hC dX10_isGap_14 h.1 ?_
    have h := h.2
    refine r_istore_n (ls2 := [some (aR 0), some (aI a1), some (aI (a1 + 1))]) (pc := 15) hC 2 dX10_isGap_15 rfl (by decide) rfl rfl ?_
    obtain ⟨I1, μ1, hI1, hB1⟩ := h
    have S1 : ∀ (nn : Nat) (x2 : Int), μ1 x2 < nn → I1 x2 → Wd p l e (rmD 2) s m args below meth c Q 0 0 3 D cA ad A LM w 16 [some (aR 0), none, some (aI x2)] [] := by
      intro nn
      induction nn with
      | zero => intro x2 hn; exact absurd hn (Nat.not_lt_zero _)
      | succ nn ih1 =>
        intro x2 hn1 hi
        have h := hB1 x2 hi
        refine r_aload_n (pc := 16) hC 0 dX10_isGap_16 rfl rfl ?_
        refine r_iload_n (pc := 17) hC 2 dX10_isGap_17 rfl rfl ?_
        refine r_callVi (pc := 18) hC [aI x2] [] dX10_isGap_18 ml_RX10_166 my_X10_plain mi_X10_plain lM_0 rfl rfl ⟨Nat.le_of_ble_eq_true rfl, Nat.le_of_ble_eq_true rfl⟩ ⟨Nat.le_of_ble_eq_true rfl, Nat.le_of_ble_eq_true rfl⟩ (Nat.le_of_ble_eq_true rfl) rfl (s_M_plain l _ _ _ h) (fun r3 w1 hq => ?_)
        obtain ⟨e9, h⟩ := hq
        rw [e9]
        refine r_bipush (pc := 21) hC dX10_isGap_21 ⟨rfl, rng_lit rfl⟩ ?_
        obtain ⟨J2, hJ2, h⟩ := h
        have S2 : J2 → Wd p l e (rmD 2) s m args below meth c Q 0 0 3 D cA ad A LM w 36 [some (aR 0), none, some (aI x2)] [] := by
          intro hj
          have h := hJ2 hj
          refine r_iinc (ls2 := [some (aR 0), none, some (aI (x2 + 1))]) (pc := 36) hC dX10_isGap_36 rfl (by decide) rfl h.1 rfl ?_
          have h := h.2
          refine r_goto (tgt := 16) (pc := 39) hC dX10_isGap_39 rfl ?_
          exact r_to [true, false, true] rfl rfl (ih1 (x2 + 1) (Nat.lt_of_lt_of_le h.2 (Nat.le_of_lt_succ hn1)) h.1)
        refine r_ic_eq (pc := 23) (tgt := 36) hC dX10_isGap_23 rfl (fun hc3 => ?_) (fun hc3 => ?_)
        · have h := h.1 hc3
          exact r_to [true, false, true] rfl rfl (S2 h)
        have h := h.2 hc3
        refine r_aload_n (pc := 26) hC 0 dX10_isGap_26 rfl rfl ?_
        refine r_iload_n (pc := 27) hC 2 dX10_isGap_27 rfl rfl ?_
        refine r_callVi (pc := 28) hC [aI x2] [] dX10_isGap_28 ml_RX10_166 my_X10_plain mi_X10_plain lM_0 rfl rfl ⟨Nat.le_of_ble_eq_true rfl, Nat.le_of_ble_eq_true rfl⟩ ⟨Nat.le_of_ble_eq_true rfl, Nat.le_of_ble_eq_true rfl⟩ (Nat.le_of_ble_eq_true rfl) rfl (s_M_plain l _ _ _ h) (fun r4 w1 hq => ?_)
        obtain ⟨e9, h⟩ := hq
        rw [e9]
        refine r_bipush (pc := 31) hC dX10_isGap_31 ⟨rfl, rng_lit rfl⟩ ?_
        refine r_ic_ne (pc := 33) (tgt := 42) hC dX10_isGap_33 rfl (fun hc2 => ?_) (fun hc2 => ?_)
        · have h := h.1 hc2
          refine r_aload_n (pc := 42) hC 0 dX10_isGap_42 rfl rfl ?_
          refine r_iload_n (pc := 43) hC 2 dX10_isGap_43 rfl rfl ?_
          refine r_callVi (pc := 44) hC [aI x2] [] dX10_isGap_44 ml_RX10_166 my_X10_plain mi_X10_plain lM_0 rfl rfl ⟨Nat.le_of_ble_eq_true rfl, Nat.le_of_ble_eq_true rfl⟩ ⟨Nat.le_of_ble_eq_true rfl, Nat.le_of_ble_eq_true rfl⟩ (Nat.le_of_ble_eq_true rfl) rfl (s_M_plain l _ _ _ h) (fun r5 w1 hq => ?_)
          obtain ⟨e9, h⟩ := hq
          rw [e9]
          refine r_bipush (pc := 47) hC dX10_isGap_47 ⟨rfl, rng_lit rfl⟩ ?_
          refine r_ic_ne (pc := 49) (tgt := 56) hC dX10_isGap_49 rfl (fun hc1 => ?_) (fun hc1 => ?_)
          · have h := h.1 hc1
            refine r_iconst (pc := 56) hC dX10_isGap_56 (rng_lit rfl) ?_
            exact r_reti (pc := 57) (kd := 1) hC hQ dX10_isGap_57 hr hk (by decide) (Or.inr okK1_0) ⟨rfl, h⟩
          have h := h.2 hc1
          refine r_iconst (pc := 52) hC dX10_isGap_52 (rng_lit rfl) ?_
          refine r_goto (tgt := 57) (pc := 53) hC dX10_isGap_53 rfl ?_
          exact r_reti (pc := 57) (kd := 1) hC hQ dX10_isGap_57 hr hk (by decide) (Or.inr okK1_1) ⟨rfl, h⟩
        have h := h.2 hc2
        exact r_to [true, false, true] rfl rfl (S2 h)
    exact r_to [true, false, true] rfl rfl (S1 _ (a1 + 1) (Nat.lt_succ_self _) hI1)
  have h := h.2 hc4
  refine r_iconst (pc := 10) hC dX10_isGap_10 (rng_lit rfl) ?_
  exact r_reti (pc := 11) (kd := 1) hC hQ dX10_isGap_11 hr hk (by decide) (Or.inr okK1_0) ⟨rfl, h⟩
def wp_M_endOf (m_page : (Nat → Int)) (m_signAt : (Nat → Int)) (m_signs : Int) (a1 : Int) (Q : Int → Prop) : Prop := lpw1 (fun (x1 : Int) (k1 : Int → Prop) => (m_signs ≤ x1 → Q m_signs) ∧ (¬ m_signs ≤ x1 → wp_M_isGap m_page m_signAt m_signs x1 (fun (r2 : Int) => (r2 = 0 → wp_M_isStop m_page m_signAt m_signs x1 (fun (r3 : Int) => jn0 (fun (J2 : Prop) => (r3 = 0 → J2) ∧ (¬ r3 = 0 → wp_M_isInitial m_page m_signAt m_signs x1 (fun (r4 : Int) => (r4 = 0 → (rng (x1 + 1)) ∧ (lpw1 (fun (x5 : Int) (k3 : Int → Prop) => wp_M_isClosing m_page m_signAt m_signs x5 (fun (r6 : Int) => (r6 = 0 → (m_signs ≤ x5 → Q x5) ∧ (¬ m_signs ≤ x5 → wp_M_isBlank m_page m_signAt m_signs x5 (fun (r7 : Int) => (r7 = 0 → J2) ∧ (¬ r7 = 0 → Q x5)))) ∧ (¬ r6 = 0 → (rng (x5 + 1)) ∧ (k3 (x5 + 1))))) (x1 + 1))) ∧ (¬ r4 = 0 → J2)))) ((rng (x1 + 1)) ∧ (k1 (x1 + 1))))) ∧ (¬ r2 = 0 → Q x1)))) a1
set_option maxHeartbeats 4000000 in
set_option maxRecDepth 20000 in
theorem s_M_endOf (l : Launch) (w : St) (a1 : Int) (P : Int → Prop) (h : wp_M_endOf (w.1 3) (w.1 4) (w.1 0 7) a1 P) : Cn l yX10_endOf cX10_endOf 4 (some .int) 5 LM w [aR 0, aI a1] (okI (fun r w1 => w1 = w ∧ P r)) := by
  unfold wp_M_endOf at h
  refine Cn.of2 [some (aR 0), some (aI a1), none, none] (by decide) (Nat.le_of_ble_eq_true rfl) rfl (fun p e s m args below meth c D cA ad A Q hQ hC hr hk => ?_)
  refine r_iload_n (pc := 0) hC 1 dX10_endOf_0 rfl rfl ?_
  refine r_istore_n (ls2 := [some (aR 0), some (aI a1), some (aI a1), none]) (pc := 1) hC 2 dX10_endOf_1 rfl (by decide) rfl rfl ?_
  obtain ⟨I1, μ1, hI1, hB1⟩ := h
  have S1 : ∀ (nn : Nat) (x1 : Int), μ1 x1 < nn → I1 x1 → Wd p l e (rmD 5) s m args below meth c Q 0 0 4 D cA ad A LM w 2 [some (aR 0), none, some (aI x1), none] [] := by
    intro nn
    induction nn with
    | zero => intro x1 hn; exact absurd hn (Nat.not_lt_zero _)
    | succ nn ih1 =>
      intro x1 hn1 hi
      have h := hB1 x1 hi
      refine r_iload_n (pc := 2) hC 2 dX10_endOf_2 rfl rfl ?_
      refine r_aload_n (pc := 3) hC 0 dX10_endOf_3 rfl rfl ?_
      refine r_get (kd := 0) (v := (w.1 0 7)) (pc := 4) hC dX10_endOf_4 fl_RX10_155 lM_0 rfl rfl ?_
      refine r_ic_ge (pc := 7) (tgt := 81) hC dX10_endOf_7 rfl (fun hc7 => ?_) (fun hc7 => ?_)
      · have h := h.1 hc7
        refine r_aload_n (pc := 81) hC 0 dX10_endOf_81 rfl rfl ?_
        refine r_get (kd := 0) (v := (w.1 0 7)) (pc := 82) hC dX10_endOf_82 fl_RX10_155 lM_0 rfl rfl ?_
        exact r_reti (pc := 85) (kd := 0) hC hQ dX10_endOf_85 hr hk (by decide) (Or.inl rfl) ⟨rfl, h⟩
      have h := h.2 hc7
      refine r_aload_n (pc := 10) hC 0 dX10_endOf_10 rfl rfl ?_
      refine r_iload_n (pc := 11) hC 2 dX10_endOf_11 rfl rfl ?_
      refine r_callVi (pc := 12) hC [aI x1] [] dX10_endOf_12 ml_RX10_194 my_X10_isGap mi_X10_isGap lM_0 rfl rfl ⟨Nat.le_of_ble_eq_true rfl, Nat.le_of_ble_eq_true rfl⟩ ⟨Nat.le_of_ble_eq_true rfl, Nat.le_of_ble_eq_true rfl⟩ (Nat.le_of_ble_eq_true rfl) rfl (s_M_isGap l _ _ _ h) (fun r2 w1 hq => ?_)
      obtain ⟨e9, h⟩ := hq
      rw [e9]
      refine r_if_eq (pc := 15) (tgt := 20) hC dX10_endOf_15 rfl (fun hc6 => ?_) (fun hc6 => ?_)
      · have h := h.1 hc6
        refine r_aload_n (pc := 20) hC 0 dX10_endOf_20 rfl rfl ?_
        refine r_iload_n (pc := 21) hC 2 dX10_endOf_21 rfl rfl ?_
        refine r_callVi (pc := 22) hC [aI x1] [] dX10_endOf_22 ml_RX10_188 my_X10_isStop mi_X10_isStop lM_0 rfl rfl ⟨Nat.le_of_ble_eq_true rfl, Nat.le_of_ble_eq_true rfl⟩ ⟨Nat.le_of_ble_eq_true rfl, Nat.le_of_ble_eq_true rfl⟩ (Nat.le_of_ble_eq_true rfl) rfl (s_M_isStop l _ _ _ h) (fun r3 w1 hq => ?_)
        obtain ⟨e9, h⟩ := hq
        rw [e9]
        obtain ⟨J2, hJ2, h⟩ := h
        have S2 : J2 → Wd p l e (rmD 5) s m args below meth c Q 0 0 4 D cA ad A LM w 75 [some (aR 0), none, some (aI x1), none] [] := by
          intro hj
          have h := hJ2 hj
          refine r_iinc (ls2 := [some (aR 0), none, some (aI (x1 + 1)), none]) (pc := 75) hC dX10_endOf_75 rfl (by decide) rfl h.1 rfl ?_
          have h := h.2
          refine r_goto (tgt := 2) (pc := 78) hC dX10_endOf_78 rfl ?_
          exact r_to [true, false, true, false] rfl rfl (ih1 (x1 + 1) (Nat.lt_of_lt_of_le h.2 (Nat.le_of_lt_succ hn1)) h.1)
        refine r_if_eq (pc := 25) (tgt := 75) hC dX10_endOf_25 rfl (fun hc5 => ?_) (fun hc5 => ?_)
        · have h := h.1 hc5
          exact r_to [true, false, true, false] rfl rfl (S2 h)
        have h := h.2 hc5
        refine r_aload_n (pc := 28) hC 0 dX10_endOf_28 rfl rfl ?_
        refine r_iload_n (pc := 29) hC 2 dX10_endOf_29 rfl rfl ?_
        refine r_callVi (pc := 30) hC [aI x1] [] dX10_endOf_30 ml_RX10_197 my_X10_isInitial mi_X10_isInitial lM_0 rfl rfl ⟨Nat.le_of_ble_eq_true rfl, Nat.le_of_ble_eq_true rfl⟩ ⟨Nat.le_of_ble_eq_true rfl, Nat.le_of_ble_eq_true rfl⟩ (Nat.le_of_ble_eq_true rfl) rfl (s_M_isInitial l _ _ _ h) (fun r4 w1 hq => ?_)
        obtain ⟨e9, h⟩ := hq
        rw [e9]
        refine r_if_eq (pc := 33) (tgt := 39) hC dX10_endOf_33 rfl (fun hc4 => ?_) (fun hc4 => ?_)
        · have h := h.1 hc4
          refine r_iload_n (pc := 39) hC 2 dX10_endOf_39 rfl rfl ?_
          refine r_iconst (pc := 40) hC dX10_endOf_40 (rng_lit rfl) ?_
          refine r_iadd (pc := 41) hC dX10_endOf_41 h.1 ?_
          have h := h.2
          refine r_istore_n (ls2 := [some (aR 0), none, some (aI x1), some (aI (x1 + 1))]) (pc := 42) hC 3 dX10_endOf_42 rfl (by decide) rfl rfl ?_
          obtain ⟨I3, μ3, hI3, hB3⟩ := h
          have S3 : ∀ (nn : Nat) (x5 : Int), μ3 x5 < nn → I3 x5 → Wd p l e (rmD 5) s m args below meth c Q 0 0 4 D cA ad A LM w 43 [some (aR 0), none, some (aI x1), some (aI x5)] [] := by
            intro nn
            induction nn with
            | zero => intro x5 hn; exact absurd hn (Nat.not_lt_zero _)
            | succ nn ih3 =>
              intro x5 hn3 hi
              have h := hB3 x5 hi
              refine r_aload_n (pc := 43) hC 0 dX10_endOf_43 rfl rfl ?_
              refine r_iload_n (pc := 44) hC 3 dX10_endOf_44 rfl rfl ?_
              refine r_callVi (pc := 45) hC [aI x5] [] dX10_endOf_45 ml_RX10_191 my_X10_isClosing mi_X10_isClosing lM_0 rfl rfl ⟨Nat.le_of_ble_eq_true rfl, Nat.le_of_ble_eq_true rfl⟩ ⟨Nat.le_of_ble_eq_true rfl, Nat.le_of_ble_eq_true rfl⟩ (Nat.le_of_ble_eq_true rfl) rfl (s_M_isClosing l _ _ _ h) (fun r6 w1 hq => ?_)
              obtain ⟨e9, h⟩ := hq
              rw [e9]
              refine r_if_eq (pc := 48) (tgt := 57) hC dX10_endOf_48 rfl (fun hc3 => ?_) (fun hc3 => ?_)
              · have h := h.1 hc3
                refine r_iload_n (pc := 57) hC 3 dX10_endOf_57 rfl rfl ?_
                refine r_aload_n (pc := 58) hC 0 dX10_endOf_58 rfl rfl ?_
                refine r_get (kd := 0) (v := (w.1 0 7)) (pc := 59) hC dX10_endOf_59 fl_RX10_155 lM_0 rfl rfl ?_
                refine r_ic_ge (pc := 62) (tgt := 73) hC dX10_endOf_62 rfl (fun hc2 => ?_) (fun hc2 => ?_)
                · have h := h.1 hc2
                  refine r_iload_n (pc := 73) hC 3 dX10_endOf_73 rfl rfl ?_
                  exact r_reti (pc := 74) (kd := 0) hC hQ dX10_endOf_74 hr hk (by decide) (Or.inl rfl) ⟨rfl, h⟩
                have h := h.2 hc2
                refine r_aload_n (pc := 65) hC 0 dX10_endOf_65 rfl rfl ?_
                refine r_iload_n (pc := 66) hC 3 dX10_endOf_66 rfl rfl ?_
                refine r_callVi (pc := 67) hC [aI x5] [] dX10_endOf_67 ml_RX10_200 my_X10_isBlank mi_X10_isBlank lM_0 rfl rfl ⟨Nat.le_of_ble_eq_true rfl, Nat.le_of_ble_eq_true rfl⟩ ⟨Nat.le_of_ble_eq_true rfl, Nat.le_of_ble_eq_true rfl⟩ (Nat.le_of_ble_eq_true rfl) rfl (s_M_isBlank l _ _ _ h) (fun r7 w1 hq => ?_)
                obtain ⟨e9, h⟩ := hq
                rw [e9]
                refine r_if_eq (pc := 70) (tgt := 75) hC dX10_endOf_70 rfl (fun hc1 => ?_) (fun hc1 => ?_)
                · have h := h.1 hc1
                  exact r_to [true, false, true, false] rfl rfl (S2 h)
                have h := h.2 hc1
                refine r_iload_n (pc := 73) hC 3 dX10_endOf_73 rfl rfl ?_
                exact r_reti (pc := 74) (kd := 0) hC hQ dX10_endOf_74 hr hk (by decide) (Or.inl rfl) ⟨rfl, h⟩
              have h := h.2 hc3
              refine r_iinc (ls2 := [some (aR 0), none, some (aI x1), some (aI (x5 + 1))]) (pc := 51) hC dX10_endOf_51 rfl (by decide) rfl h.1 rfl ?_
              have h := h.2
              refine r_goto (tgt := 43) (pc := 54) hC dX10_endOf_54 rfl ?_
              exact r_to [true, false, true, true] rfl rfl (ih3 (x5 + 1) (Nat.lt_of_lt_of_le h.2 (Nat.le_of_lt_succ hn3)) h.1)
          exact r_to [true, false, true, true] rfl rfl (S3 _ (x1 + 1) (Nat.lt_succ_self _) hI3)
        have h := h.2 hc4
        refine r_goto (tgt := 75) (pc := 36) hC dX10_endOf_36 rfl ?_
        exact r_to [true, false, true, false] rfl rfl (S2 h)
      have h := h.2 hc6
      refine r_iload_n (pc := 18) hC 2 dX10_endOf_18 rfl rfl ?_
      exact r_reti (pc := 19) (kd := 0) hC hQ dX10_endOf_19 hr hk (by decide) (Or.inl rfl) ⟨rfl, h⟩
  exact r_to [true, false, true, false] rfl rfl (S1 _ a1 (Nat.lt_succ_self _) hI1)
def wp_M_laysSentences (m_page : (Nat → Int)) (m_signAt : (Nat → Int)) (m_wordFrom : (Nat → Int)) (m_sentenceOf : (Nat → Int)) (m_likeOf : (Nat → Int)) (m_from : (Nat → Int)) (m_to : (Nat → Int)) (m_hasWord : (Nat → Int)) (m_signs : Int) (m_words : Int) (m_sentences : Int) (Q : (Nat → Int) → (Nat → Int) → (Nat → Int) → (Nat → Int) → Int → Prop) : Prop := lpw4 (fun (m_from_1 : (Nat → Int)) (m_to_2 : (Nat → Int)) (m_sentences_3 : Int) (x4 : Int) (k1 : (Nat → Int) → (Nat → Int) → Int → Int → Prop) => jn0 (fun (J2 : Prop) => (14 ≤ m_sentences_3 → J2) ∧ (¬ 14 ≤ m_sentences_3 → lpw1 (fun (x15 : Int) (k9 : Int → Prop) => wp_M_isBlank m_page m_signAt m_signs x15 (fun (r16 : Int) => (r16 = 0 → (x15 < m_signs → wp_M_endOf m_page m_signAt m_signs x15 (fun (r17 : Int) => (0 ≤ m_sentences_3 ∧ m_sentences_3 < 14) ∧ ((0 ≤ m_sentences_3 ∧ m_sentences_3 < 14) ∧ (lpw1 (fun (m_to_18 : (Nat → Int)) (k10 : (Nat → Int) → Prop) => (0 ≤ m_sentences_3 ∧ m_sentences_3 < 14) ∧ ((rng ((m_to_18 (Int.toNat m_sentences_3)) - 1)) ∧ (wp_M_isBlank m_page m_signAt m_signs ((m_to_18 (Int.toNat m_sentences_3)) - 1) (fun (r19 : Int) => (r19 = 0 → (rng (m_sentences_3 + 1)) ∧ (k1 (uI m_from_1 m_sentences_3 x15) m_to_18 (m_sentences_3 + 1) r17)) ∧ (¬ r19 = 0 → (0 ≤ m_sentences_3 ∧ m_sentences_3 < 14) ∧ ((rng ((m_to_18 (Int.toNat m_sentences_3)) - 1)) ∧ ((0 ≤ m_sentences_3 ∧ m_sentences_3 < 14) ∧ (k10 (uI m_to_18 m_sentences_3 ((m_to_18 (Int.toNat m_sentences_3)) - 1)))))))))) (uI m_to_2 m_sentences_3 r17))))) ∧ (¬ x15 < m_signs → J2)) ∧ (¬ r16 = 0 → (rng (x15 + 1)) ∧ (k9 (x15 + 1))))) x4)) (lpw2 (fun (m_sentenceOf_5 : (Nat → Int)) (x6 : Int) (k3 : (Nat → Int) → Int → Prop) => (m_words ≤ x6 → lpw2 (fun (m_hasWord_7 : (Nat → Int)) (x8 : Int) (k4 : (Nat → Int) → Int → Prop) => (1400 ≤ x8 → lpw2 (fun (m_hasWord_9 : (Nat → Int)) (x10 : Int) (k5 : (Nat → Int) → Int → Prop) => (m_words ≤ x10 → Q m_sentenceOf_5 m_from_1 m_to_2 m_hasWord_9 m_sentences_3) ∧ (¬ m_words ≤ x10 → (0 ≤ x10 ∧ x10 < 100) ∧ (jn1 (fun (J6 : (Nat → Int) → Prop) => ((m_sentenceOf_5 (Int.toNat x10)) = (-1) → J6 m_hasWord_9) ∧ (¬ (m_sentenceOf_5 (Int.toNat x10)) = (-1) → (0 ≤ x10 ∧ x10 < 100) ∧ ((rng (100 * (m_sentenceOf_5 (Int.toNat x10)))) ∧ ((0 ≤ x10 ∧ x10 < 100) ∧ ((rng ((100 * (m_sentenceOf_5 (Int.toNat x10))) + (m_likeOf (Int.toNat x10)))) ∧ ((0 ≤ ((100 * (m_sentenceOf_5 (Int.toNat x10))) + (m_likeOf (Int.toNat x10))) ∧ ((100 * (m_sentenceOf_5 (Int.toNat x10))) + (m_likeOf (Int.toNat x10))) < 1400) ∧ (J6 (uI m_hasWord_9 ((100 * (m_sentenceOf_5 (Int.toNat x10))) + (m_likeOf (Int.toNat x10))) 1)))))))) (fun (m_hasWord_11 : (Nat → Int)) => (rng (x10 + 1)) ∧ (k5 m_hasWord_11 (x10 + 1)))))) m_hasWord_7 0) ∧ (¬ 1400 ≤ x8 → (0 ≤ x8 ∧ x8 < 1400) ∧ ((rng (x8 + 1)) ∧ (k4 (uI m_hasWord_7 x8 0) (x8 + 1))))) m_hasWord 0) ∧ (¬ m_words ≤ x6 → (0 ≤ x6 ∧ x6 < 100) ∧ (lpw2 (fun (m_sentenceOf_12 : (Nat → Int)) (x13 : Int) (k7 : (Nat → Int) → Int → Prop) => (m_sentences_3 ≤ x13 → (rng (x6 + 1)) ∧ (k3 m_sentenceOf_12 (x6 + 1))) ∧ (¬ m_sentences_3 ≤ x13 → (0 ≤ x6 ∧ x6 < 100) ∧ ((0 ≤ x13 ∧ x13 < 14) ∧ (jn1 (fun (J8 : (Nat → Int) → Prop) => ((m_wordFrom (Int.toNat x6)) < (m_from_1 (Int.toNat x13)) → J8 m_sentenceOf_12) ∧ (¬ (m_wordFrom (Int.toNat x6)) < (m_from_1 (Int.toNat x13)) → (0 ≤ x6 ∧ x6 < 100) ∧ ((0 ≤ x13 ∧ x13 < 14) ∧ (((m_to_2 (Int.toNat x13)) ≤ (m_wordFrom (Int.toNat x6)) → J8 m_sentenceOf_12) ∧ (¬ (m_to_2 (Int.toNat x13)) ≤ (m_wordFrom (Int.toNat x6)) → (0 ≤ x6 ∧ x6 < 100) ∧ (J8 (uI m_sentenceOf_12 x6 x13))))))) (fun (m_sentenceOf_14 : (Nat → Int)) => (rng (x13 + 1)) ∧ (k7 m_sentenceOf_14 (x13 + 1))))))) (uI m_sentenceOf_5 x6 (-1)) 0))) m_sentenceOf 0)) m_from m_to 0 0
set_option maxHeartbeats 4000000 in
set_option maxRecDepth 20000 in
theorem s_M_laysSentences (l : Launch) (w : St) (P : (Nat → Int) → (Nat → Int) → (Nat → Int) → (Nat → Int) → Int → Prop) (h : wp_M_laysSentences (w.1 3) (w.1 4) (w.1 5) (w.1 7) (w.1 8) (w.1 9) (w.1 10) (w.1 11) (w.1 0 7) (w.1 0 12) (w.1 0 16) P) : Cn l yX10_laysSentences cX10_laysSentences 4 none 6 LM w [aR 0] (okV (fun w1 => ∃ (o0 : (Nat → Int)) (o1 : (Nat → Int)) (o2 : (Nat → Int)) (o3 : (Nat → Int)) (o4 : Int), w1 = (wI (wA (wA (wA (wA w 7 o0) 9 o1) 10 o2) 11 o3) 0 16 o4) ∧ P o0 o1 o2 o3 o4)) := by
  unfold wp_M_laysSentences at h
  refine Cn.of2 [some (aR 0), none, none, none] (by decide) (Nat.le_of_ble_eq_true rfl) rfl (fun p e s m args below meth c D cA ad A Q hQ hC hr hk => ?_)
  refine r_aload_n (pc := 0) hC 0 dX10_laysSentences_0 rfl rfl ?_
  refine r_iconst (pc := 1) hC dX10_laysSentences_1 (rng_lit rfl) ?_
  refine r_put (kd := 0) (pc := 2) hC dX10_laysSentences_2 pl_RX10_203 lM_0 rfl (by decide) (Or.inl rfl) ?_
  refine r_iconst (pc := 5) hC dX10_laysSentences_5 (rng_lit rfl) ?_
  refine r_istore_n (ls2 := [some (aR 0), some (aI 0), none, none]) (pc := 6) hC 1 dX10_laysSentences_6 rfl (by decide) rfl rfl ?_
  obtain ⟨I1, μ1, hI1, hB1⟩ := h
  have S1 : ∀ (nn : Nat) (m_from_1 : (Nat → Int)) (m_to_2 : (Nat → Int)) (m_sentences_3 : Int) (x4 : Int), μ1 m_from_1 m_to_2 m_sentences_3 x4 < nn → I1 m_from_1 m_to_2 m_sentences_3 x4 → Wd p l e (rmD 6) s m args below meth c Q 0 0 4 D cA ad A LM (wI (wA (wA w 9 m_from_1) 10 m_to_2) 0 16 m_sentences_3) 7 [some (aR 0), some (aI x4), none, none] [] := by
    intro nn
    induction nn with
    | zero => intro m_from_1 m_to_2 m_sentences_3 x4 hn; exact absurd hn (Nat.not_lt_zero _)
    | succ nn ih1 =>
      intro m_from_1 m_to_2 m_sentences_3 x4 hn1 hi
      have h := hB1 m_from_1 m_to_2 m_sentences_3 x4 hi
      refine r_aload_n (pc := 7) hC 0 dX10_laysSentences_7 rfl rfl ?_
      refine r_get (kd := 0) (v := m_sentences_3) (pc := 8) hC dX10_laysSentences_8 fl_RX10_203 lM_0 rfl rfl ?_
      refine r_bipush (pc := 11) hC dX10_laysSentences_11 ⟨rfl, rng_lit rfl⟩ ?_
      obtain ⟨J2, hJ2, h⟩ := h
      have S2 : J2 → Wd p l e (rmD 6) s m args below meth c Q 0 0 4 D cA ad A LM (wI (wA (wA w 9 m_from_1) 10 m_to_2) 0 16 m_sentences_3) 116 [some (aR 0), none, none, none] [] := by
        intro hj
        have h := hJ2 hj
        refine r_iconst (pc := 116) hC dX10_laysSentences_116 (rng_lit rfl) ?_
        refine r_istore_n (ls2 := [some (aR 0), none, some (aI 0), none]) (pc := 117) hC 2 dX10_laysSentences_117 rfl (by decide) rfl rfl ?_
        obtain ⟨I3, μ3, hI3, hB3⟩ := h
        have S3 : ∀ (nn : Nat) (m_sentenceOf_5 : (Nat → Int)) (x6 : Int), μ3 m_sentenceOf_5 x6 < nn → I3 m_sentenceOf_5 x6 → Wd p l e (rmD 6) s m args below meth c Q 0 0 4 D cA ad A LM (wI (wA (wA (wA w 7 m_sentenceOf_5) 9 m_from_1) 10 m_to_2) 0 16 m_sentences_3) 118 [some (aR 0), none, some (aI x6), none] [] := by
          intro nn
          induction nn with
          | zero => intro m_sentenceOf_5 x6 hn; exact absurd hn (Nat.not_lt_zero _)
          | succ nn ih3 =>
            intro m_sentenceOf_5 x6 hn3 hi
            have h := hB3 m_sentenceOf_5 x6 hi
            refine r_iload_n (pc := 118) hC 2 dX10_laysSentences_118 rfl rfl ?_
            refine r_aload_n (pc := 119) hC 0 dX10_laysSentences_119 rfl rfl ?_
            refine r_get (kd := 0) (v := (w.1 0 12)) (pc := 120) hC dX10_laysSentences_120 fl_RX10_179 lM_0 rfl rfl ?_
            refine r_ic_ge (pc := 123) (tgt := 192) hC dX10_laysSentences_123 rfl (fun hc7 => ?_) (fun hc7 => ?_)
            · have h := h.1 hc7
              refine r_iconst (pc := 192) hC dX10_laysSentences_192 (rng_lit rfl) ?_
              refine r_istore_n (ls2 := [some (aR 0), none, some (aI 0), none]) (pc := 193) hC 2 dX10_laysSentences_193 rfl (by decide) rfl rfl ?_
              obtain ⟨I4, μ4, hI4, hB4⟩ := h
              have S4 : ∀ (nn : Nat) (m_hasWord_7 : (Nat → Int)) (x8 : Int), μ4 m_hasWord_7 x8 < nn → I4 m_hasWord_7 x8 → Wd p l e (rmD 6) s m args below meth c Q 0 0 4 D cA ad A LM (wI (wA (wA (wA (wA w 7 m_sentenceOf_5) 9 m_from_1) 10 m_to_2) 11 m_hasWord_7) 0 16 m_sentences_3) 194 [some (aR 0), none, some (aI x8), none] [] := by
                intro nn
                induction nn with
                | zero => intro m_hasWord_7 x8 hn; exact absurd hn (Nat.not_lt_zero _)
                | succ nn ih4 =>
                  intro m_hasWord_7 x8 hn4 hi
                  have h := hB4 m_hasWord_7 x8 hi
                  refine r_iload_n (pc := 194) hC 2 dX10_laysSentences_194 rfl rfl ?_
                  refine r_sipush (pc := 195) hC dX10_laysSentences_195 ⟨rfl, rng_lit rfl⟩ ?_
                  refine r_ic_ge (pc := 198) (tgt := 214) hC dX10_laysSentences_198 rfl (fun hc3 => ?_) (fun hc3 => ?_)
                  · have h := h.1 hc3
                    refine r_iconst (pc := 214) hC dX10_laysSentences_214 (rng_lit rfl) ?_
                    refine r_istore_n (ls2 := [some (aR 0), none, some (aI 0), none]) (pc := 215) hC 2 dX10_laysSentences_215 rfl (by decide) rfl rfl ?_
                    obtain ⟨I5, μ5, hI5, hB5⟩ := h
                    have S5 : ∀ (nn : Nat) (m_hasWord_9 : (Nat → Int)) (x10 : Int), μ5 m_hasWord_9 x10 < nn → I5 m_hasWord_9 x10 → Wd p l e (rmD 6) s m args below meth c Q 0 0 4 D cA ad A LM (wI (wA (wA (wA (wA w 7 m_sentenceOf_5) 9 m_from_1) 10 m_to_2) 11 m_hasWord_9) 0 16 m_sentences_3) 216 [some (aR 0), none, some (aI x10), none] [] := by
                      intro nn
                      induction nn with
                      | zero => intro m_hasWord_9 x10 hn; exact absurd hn (Nat.not_lt_zero _)
                      | succ nn ih5 =>
                        intro m_hasWord_9 x10 hn5 hi
                        have h := hB5 m_hasWord_9 x10 hi
                        refine r_iload_n (pc := 216) hC 2 dX10_laysSentences_216 rfl rfl ?_
                        refine r_aload_n (pc := 217) hC 0 dX10_laysSentences_217 rfl rfl ?_
                        refine r_get (kd := 0) (v := (w.1 0 12)) (pc := 218) hC dX10_laysSentences_218 fl_RX10_179 lM_0 rfl rfl ?_
                        refine r_ic_ge (pc := 221) (tgt := 262) hC dX10_laysSentences_221 rfl (fun hc2 => ?_) (fun hc2 => ?_)
                        · have h := h.1 hc2
                          refine r_conv (w2 := (wI (wA (wA (wA (wA w 7 m_sentenceOf_5) 9 m_from_1) 10 m_to_2) 11 m_hasWord_9) 0 16 m_sentences_3)) rfl ?_
                          exact r_retv (pc := 262) hC hQ dX10_laysSentences_262 hr hk ⟨m_sentenceOf_5, m_from_1, m_to_2, m_hasWord_9, m_sentences_3, rfl, h⟩
                        have h := h.2 hc2
                        refine r_aload_n (pc := 224) hC 0 dX10_laysSentences_224 rfl rfl ?_
                        refine r_getr (r := 7) (pc := 225) hC dX10_laysSentences_225 fl_RX10_29 lM_0 rfl ?_
                        refine r_iload_n (pc := 228) hC 2 dX10_laysSentences_228 rfl rfl ?_
                        refine r_iald (v := (m_sentenceOf_5 (Int.toNat x10))) (pc := 229) hC dX10_laysSentences_229 lM_7 h.1.1 h.1.2 rfl ?_
                        have h := h.2
                        refine r_iconst (pc := 230) hC dX10_laysSentences_230 (rng_lit rfl) ?_
                        obtain ⟨J6, hJ6, h⟩ := h
                        have S6 : ∀ (m_hasWord_11 : (Nat → Int)), J6 m_hasWord_11 → Wd p l e (rmD 6) s m args below meth c Q 0 0 4 D cA ad A LM (wI (wA (wA (wA (wA w 7 m_sentenceOf_5) 9 m_from_1) 10 m_to_2) 11 m_hasWord_11) 0 16 m_sentences_3) 256 [some (aR 0), none, some (aI x10), none] [] := by
                          intro m_hasWord_11 hj
                          have h := hJ6 m_hasWord_11 hj
                          refine r_iinc (ls2 := [some (aR 0), none, some (aI (x10 + 1)), none]) (pc := 256) hC dX10_laysSentences_256 rfl (by decide) rfl h.1 rfl ?_
                          have h := h.2
                          refine r_goto (tgt := 216) (pc := 259) hC dX10_laysSentences_259 rfl ?_
                          exact r_to [true, false, true, false] rfl rfl (ih5 m_hasWord_11 (x10 + 1) (Nat.lt_of_lt_of_le h.2 (Nat.le_of_lt_succ hn5)) h.1)
                        refine r_ic_eq (pc := 231) (tgt := 256) hC dX10_laysSentences_231 rfl (fun hc1 => ?_) (fun hc1 => ?_)
                        · have h := h.1 hc1
                          exact r_to [true, false, true, false] rfl rfl (S6 m_hasWord_9 h)
                        have h := h.2 hc1
                        refine r_aload_n (pc := 234) hC 0 dX10_laysSentences_234 rfl rfl ?_
                        refine r_getr (r := 11) (pc := 235) hC dX10_laysSentences_235 fl_RX10_41 lM_0 rfl ?_
                        refine r_bipush (pc := 238) hC dX10_laysSentences_238 ⟨rfl, rng_lit rfl⟩ ?_
                        refine r_aload_n (pc := 240) hC 0 dX10_laysSentences_240 rfl rfl ?_
                        refine r_getr (r := 7) (pc := 241) hC dX10_laysSentences_241 fl_RX10_29 lM_0 rfl ?_
                        refine r_iload_n (pc := 244) hC 2 dX10_laysSentences_244 rfl rfl ?_
                        refine r_iald (v := (m_sentenceOf_5 (Int.toNat x10))) (pc := 245) hC dX10_laysSentences_245 lM_7 h.1.1 h.1.2 rfl ?_
                        have h := h.2
                        refine r_imul (pc := 246) hC dX10_laysSentences_246 h.1 ?_
                        have h := h.2
                        refine r_aload_n (pc := 247) hC 0 dX10_laysSentences_247 rfl rfl ?_
                        refine r_getr (r := 8) (pc := 248) hC dX10_laysSentences_248 fl_RX10_32 lM_0 rfl ?_
                        refine r_iload_n (pc := 251) hC 2 dX10_laysSentences_251 rfl rfl ?_
                        refine r_iald (v := ((w.1 8) (Int.toNat x10))) (pc := 252) hC dX10_laysSentences_252 lM_8 h.1.1 h.1.2 rfl ?_
                        have h := h.2
                        refine r_iadd (pc := 253) hC dX10_laysSentences_253 h.1 ?_
                        have h := h.2
                        refine r_iconst (pc := 254) hC dX10_laysSentences_254 (rng_lit rfl) ?_
                        refine r_zast (pc := 255) hC dX10_laysSentences_255 lM_11 h.1.1 h.1.2 okK1_1 ?_
                        have h := h.2
                        exact r_to [true, false, true, false] rfl rfl (S6 (uI m_hasWord_9 ((100 * (m_sentenceOf_5 (Int.toNat x10))) + ((w.1 8) (Int.toNat x10))) 1) h)
                    exact r_to [true, false, true, false] rfl rfl (S5 _ m_hasWord_7 0 (Nat.lt_succ_self _) hI5)
                  have h := h.2 hc3
                  refine r_aload_n (pc := 201) hC 0 dX10_laysSentences_201 rfl rfl ?_
                  refine r_getr (r := 11) (pc := 202) hC dX10_laysSentences_202 fl_RX10_41 lM_0 rfl ?_
                  refine r_iload_n (pc := 205) hC 2 dX10_laysSentences_205 rfl rfl ?_
                  refine r_iconst (pc := 206) hC dX10_laysSentences_206 (rng_lit rfl) ?_
                  refine r_zast (pc := 207) hC dX10_laysSentences_207 lM_11 h.1.1 h.1.2 okK1_0 ?_
                  have h := h.2
                  refine r_iinc (ls2 := [some (aR 0), none, some (aI (x8 + 1)), none]) (pc := 208) hC dX10_laysSentences_208 rfl (by decide) rfl h.1 rfl ?_
                  have h := h.2
                  refine r_goto (tgt := 194) (pc := 211) hC dX10_laysSentences_211 rfl ?_
                  exact r_to [true, false, true, false] rfl rfl (ih4 (uI m_hasWord_7 x8 0) (x8 + 1) (Nat.lt_of_lt_of_le h.2 (Nat.le_of_lt_succ hn4)) h.1)
              exact r_to [true, false, true, false] rfl rfl (S4 _ (w.1 11) 0 (Nat.lt_succ_self _) hI4)
            have h := h.2 hc7
            refine r_aload_n (pc := 126) hC 0 dX10_laysSentences_126 rfl rfl ?_
            refine r_getr (r := 7) (pc := 127) hC dX10_laysSentences_127 fl_RX10_29 lM_0 rfl ?_
            refine r_iload_n (pc := 130) hC 2 dX10_laysSentences_130 rfl rfl ?_
            refine r_iconst (pc := 131) hC dX10_laysSentences_131 (rng_lit rfl) ?_
            refine r_iast (pc := 132) hC dX10_laysSentences_132 lM_7 h.1.1 h.1.2 ?_
            have h := h.2
            refine r_iconst (pc := 133) hC dX10_laysSentences_133 (rng_lit rfl) ?_
            refine r_istore_n (ls2 := [some (aR 0), none, some (aI x6), some (aI 0)]) (pc := 134) hC 3 dX10_laysSentences_134 rfl (by decide) rfl rfl ?_
            obtain ⟨I7, μ7, hI7, hB7⟩ := h
            have S7 : ∀ (nn : Nat) (m_sentenceOf_12 : (Nat → Int)) (x13 : Int), μ7 m_sentenceOf_12 x13 < nn → I7 m_sentenceOf_12 x13 → Wd p l e (rmD 6) s m args below meth c Q 0 0 4 D cA ad A LM (wI (wA (wA (wA w 7 m_sentenceOf_12) 9 m_from_1) 10 m_to_2) 0 16 m_sentences_3) 135 [some (aR 0), none, some (aI x6), some (aI x13)] [] := by
              intro nn
              induction nn with
              | zero => intro m_sentenceOf_12 x13 hn; exact absurd hn (Nat.not_lt_zero _)
              | succ nn ih7 =>
                intro m_sentenceOf_12 x13 hn7 hi
                have h := hB7 m_sentenceOf_12 x13 hi
                refine r_iload_n (pc := 135) hC 3 dX10_laysSentences_135 rfl rfl ?_
                refine r_aload_n (pc := 136) hC 0 dX10_laysSentences_136 rfl rfl ?_
                refine r_get (kd := 0) (v := m_sentences_3) (pc := 137) hC dX10_laysSentences_137 fl_RX10_203 lM_0 rfl rfl ?_
                refine r_ic_ge (pc := 140) (tgt := 186) hC dX10_laysSentences_140 rfl (fun hc6 => ?_) (fun hc6 => ?_)
                · have h := h.1 hc6
                  refine r_iinc (ls2 := [some (aR 0), none, some (aI (x6 + 1)), some (aI x13)]) (pc := 186) hC dX10_laysSentences_186 rfl (by decide) rfl h.1 rfl ?_
                  have h := h.2
                  refine r_goto (tgt := 118) (pc := 189) hC dX10_laysSentences_189 rfl ?_
                  exact r_to [true, false, true, false] rfl rfl (ih3 m_sentenceOf_12 (x6 + 1) (Nat.lt_of_lt_of_le h.2 (Nat.le_of_lt_succ hn3)) h.1)
                have h := h.2 hc6
                refine r_aload_n (pc := 143) hC 0 dX10_laysSentences_143 rfl rfl ?_
                refine r_getr (r := 5) (pc := 144) hC dX10_laysSentences_144 fl_RX10_23 lM_0 rfl ?_
                refine r_iload_n (pc := 147) hC 2 dX10_laysSentences_147 rfl rfl ?_
                refine r_iald (v := ((w.1 5) (Int.toNat x6))) (pc := 148) hC dX10_laysSentences_148 lM_5 h.1.1 h.1.2 rfl ?_
                have h := h.2
                refine r_aload_n (pc := 149) hC 0 dX10_laysSentences_149 rfl rfl ?_
                refine r_getr (r := 9) (pc := 150) hC dX10_laysSentences_150 fl_RX10_35 lM_0 rfl ?_
                refine r_iload_n (pc := 153) hC 3 dX10_laysSentences_153 rfl rfl ?_
                refine r_iald (v := (m_from_1 (Int.toNat x13))) (pc := 154) hC dX10_laysSentences_154 lM_9 h.1.1 h.1.2 rfl ?_
                have h := h.2
                obtain ⟨J8, hJ8, h⟩ := h
                have S8 : ∀ (m_sentenceOf_14 : (Nat → Int)), J8 m_sentenceOf_14 → Wd p l e (rmD 6) s m args below meth c Q 0 0 4 D cA ad A LM (wI (wA (wA (wA w 7 m_sentenceOf_14) 9 m_from_1) 10 m_to_2) 0 16 m_sentences_3) 180 [some (aR 0), none, some (aI x6), some (aI x13)] [] := by
                  intro m_sentenceOf_14 hj
                  have h := hJ8 m_sentenceOf_14 hj
                  refine r_iinc (ls2 := [some (aR 0), none, some (aI x6), some (aI (x13 + 1))]) (pc := 180) hC dX10_laysSentences_180 rfl (by decide) rfl h.1 rfl ?_
                  have h := h.2
                  refine r_goto (tgt := 135) (pc := 183) hC dX10_laysSentences_183 rfl ?_
                  exact r_to [true, false, true, true] rfl rfl (ih7 m_sentenceOf_14 (x13 + 1) (Nat.lt_of_lt_of_le h.2 (Nat.le_of_lt_succ hn7)) h.1)
                refine r_ic_lt (pc := 155) (tgt := 180) hC dX10_laysSentences_155 rfl (fun hc5 => ?_) (fun hc5 => ?_)
                · have h := h.1 hc5
                  exact r_to [true, false, true, true] rfl rfl (S8 m_sentenceOf_12 h)
                have h := h.2 hc5
                refine r_aload_n (pc := 158) hC 0 dX10_laysSentences_158 rfl rfl ?_
                refine r_getr (r := 5) (pc := 159) hC dX10_laysSentences_159 fl_RX10_23 lM_0 rfl ?_
                refine r_iload_n (pc := 162) hC 2 dX10_laysSentences_162 rfl rfl ?_
                refine r_iald (v := ((w.1 5) (Int.toNat x6))) (pc := 163) hC dX10_laysSentences_163 lM_5 h.1.1 h.1.2 rfl ?_
                have h := h.2
                refine r_aload_n (pc := 164) hC 0 dX10_laysSentences_164 rfl rfl ?_
                refine r_getr (r := 10) (pc := 165) hC dX10_laysSentences_165 fl_RX10_38 lM_0 rfl ?_
                refine r_iload_n (pc := 168) hC 3 dX10_laysSentences_168 rfl rfl ?_
                refine r_iald (v := (m_to_2 (Int.toNat x13))) (pc := 169) hC dX10_laysSentences_169 lM_10 h.1.1 h.1.2 rfl ?_
                have h := h.2
                refine r_ic_ge (pc := 170) (tgt := 180) hC dX10_laysSentences_170 rfl (fun hc4 => ?_) (fun hc4 => ?_)
                · have h := h.1 hc4
                  exact r_to [true, false, true, true] rfl rfl (S8 m_sentenceOf_12 h)
                have h := h.2 hc4
                refine r_aload_n (pc := 173) hC 0 dX10_laysSentences_173 rfl rfl ?_
                refine r_getr (r := 7) (pc := 174) hC dX10_laysSentences_174 fl_RX10_29 lM_0 rfl ?_
                refine r_iload_n (pc := 177) hC 2 dX10_laysSentences_177 rfl rfl ?_
                refine r_iload_n (pc := 178) hC 3 dX10_laysSentences_178 rfl rfl ?_
                refine r_iast (pc := 179) hC dX10_laysSentences_179 lM_7 h.1.1 h.1.2 ?_
                have h := h.2
                exact r_to [true, false, true, true] rfl rfl (S8 (uI m_sentenceOf_12 x6 x13) h)
            exact r_to [true, false, true, true] rfl rfl (S7 _ (uI m_sentenceOf_5 x6 (-1)) 0 (Nat.lt_succ_self _) hI7)
        exact r_to [true, false, true, false] rfl rfl (S3 _ (w.1 7) 0 (Nat.lt_succ_self _) hI3)
      refine r_ic_ge (pc := 13) (tgt := 116) hC dX10_laysSentences_13 rfl (fun hc11 => ?_) (fun hc11 => ?_)
      · have h := h.1 hc11
        exact r_to [true, false, false, false] rfl rfl (S2 h)
      have h := h.2 hc11
      obtain ⟨I9, μ9, hI9, hB9⟩ := h
      have S9 : ∀ (nn : Nat) (x15 : Int), μ9 x15 < nn → I9 x15 → Wd p l e (rmD 6) s m args below meth c Q 0 0 4 D cA ad A LM (wI (wA (wA w 9 m_from_1) 10 m_to_2) 0 16 m_sentences_3) 16 [some (aR 0), some (aI x15), none, none] [] := by
        intro nn
        induction nn with
        | zero => intro x15 hn; exact absurd hn (Nat.not_lt_zero _)
        | succ nn ih9 =>
          intro x15 hn9 hi
          have h := hB9 x15 hi
          refine r_aload_n (pc := 16) hC 0 dX10_laysSentences_16 rfl rfl ?_
          refine r_iload_n (pc := 17) hC 1 dX10_laysSentences_17 rfl rfl ?_
          refine r_callVi (pc := 18) hC [aI x15] [] dX10_laysSentences_18 ml_RX10_200 my_X10_isBlank mi_X10_isBlank lM_0 rfl rfl ⟨Nat.le_of_ble_eq_true rfl, Nat.le_of_ble_eq_true rfl⟩ ⟨Nat.le_of_ble_eq_true rfl, Nat.le_of_ble_eq_true rfl⟩ (Nat.le_of_ble_eq_true rfl) rfl (s_M_isBlank l _ _ _ h) (fun r16 w1 hq => ?_)
          obtain ⟨e9, h⟩ := hq
          rw [e9]
          refine r_if_eq (pc := 21) (tgt := 30) hC dX10_laysSentences_21 rfl (fun hc10 => ?_) (fun hc10 => ?_)
          · have h := h.1 hc10
            refine r_iload_n (pc := 30) hC 1 dX10_laysSentences_30 rfl rfl ?_
            refine r_aload_n (pc := 31) hC 0 dX10_laysSentences_31 rfl rfl ?_
            refine r_get (kd := 0) (v := (w.1 0 7)) (pc := 32) hC dX10_laysSentences_32 fl_RX10_155 lM_0 rfl rfl ?_
            refine r_ic_lt (pc := 35) (tgt := 41) hC dX10_laysSentences_35 rfl (fun hc9 => ?_) (fun hc9 => ?_)
            · have h := h.1 hc9
              refine r_aload_n (pc := 41) hC 0 dX10_laysSentences_41 rfl rfl ?_
              refine r_iload_n (pc := 42) hC 1 dX10_laysSentences_42 rfl rfl ?_
              refine r_callVi (pc := 43) hC [aI x15] [] dX10_laysSentences_43 ml_RX10_206 my_X10_endOf mi_X10_endOf lM_0 rfl rfl ⟨Nat.le_of_ble_eq_true rfl, Nat.le_of_ble_eq_true rfl⟩ ⟨Nat.le_of_ble_eq_true rfl, Nat.le_of_ble_eq_true rfl⟩ (Nat.le_of_ble_eq_true rfl) rfl (s_M_endOf l _ _ _ h) (fun r17 w1 hq => ?_)
              obtain ⟨e9, h⟩ := hq
              rw [e9]
              refine r_istore_n (ls2 := [some (aR 0), some (aI x15), some (aI r17), none]) (pc := 46) hC 2 dX10_laysSentences_46 rfl (by decide) rfl rfl ?_
              refine r_aload_n (pc := 47) hC 0 dX10_laysSentences_47 rfl rfl ?_
              refine r_getr (r := 9) (pc := 48) hC dX10_laysSentences_48 fl_RX10_35 lM_0 rfl ?_
              refine r_aload_n (pc := 51) hC 0 dX10_laysSentences_51 rfl rfl ?_
              refine r_get (kd := 0) (v := m_sentences_3) (pc := 52) hC dX10_laysSentences_52 fl_RX10_203 lM_0 rfl rfl ?_
              refine r_iload_n (pc := 55) hC 1 dX10_laysSentences_55 rfl rfl ?_
              refine r_iast (pc := 56) hC dX10_laysSentences_56 lM_9 h.1.1 h.1.2 ?_
              have h := h.2
              refine r_aload_n (pc := 57) hC 0 dX10_laysSentences_57 rfl rfl ?_
              refine r_getr (r := 10) (pc := 58) hC dX10_laysSentences_58 fl_RX10_38 lM_0 rfl ?_
              refine r_aload_n (pc := 61) hC 0 dX10_laysSentences_61 rfl rfl ?_
              refine r_get (kd := 0) (v := m_sentences_3) (pc := 62) hC dX10_laysSentences_62 fl_RX10_203 lM_0 rfl rfl ?_
              refine r_iload_n (pc := 65) hC 2 dX10_laysSentences_65 rfl rfl ?_
              refine r_iast (pc := 66) hC dX10_laysSentences_66 lM_10 h.1.1 h.1.2 ?_
              have h := h.2
              obtain ⟨I10, μ10, hI10, hB10⟩ := h
              have S10 : ∀ (nn : Nat) (m_to_18 : (Nat → Int)), μ10 m_to_18 < nn → I10 m_to_18 → Wd p l e (rmD 6) s m args below meth c Q 0 0 4 D cA ad A LM (wI (wA (wA w 9 (uI m_from_1 m_sentences_3 x15)) 10 m_to_18) 0 16 m_sentences_3) 67 [some (aR 0), none, some (aI r17), none] [] := by
                intro nn
                induction nn with
                | zero => intro m_to_18 hn; exact absurd hn (Nat.not_lt_zero _)
                | succ nn ih10 =>
                  intro m_to_18 hn10 hi
                  have h := hB10 m_to_18 hi
                  refine r_aload_n (pc := 67) hC 0 dX10_laysSentences_67 rfl rfl ?_
                  refine r_aload_n (pc := 68) hC 0 dX10_laysSentences_68 rfl rfl ?_
                  refine r_getr (r := 10) (pc := 69) hC dX10_laysSentences_69 fl_RX10_38 lM_0 rfl ?_
                  refine r_aload_n (pc := 72) hC 0 dX10_laysSentences_72 rfl rfl ?_
                  refine r_get (kd := 0) (v := m_sentences_3) (pc := 73) hC dX10_laysSentences_73 fl_RX10_203 lM_0 rfl rfl ?_
                  refine r_iald (v := (m_to_18 (Int.toNat m_sentences_3))) (pc := 76) hC dX10_laysSentences_76 lM_10 h.1.1 h.1.2 rfl ?_
                  have h := h.2
                  refine r_iconst (pc := 77) hC dX10_laysSentences_77 (rng_lit rfl) ?_
                  refine r_isub (pc := 78) hC dX10_laysSentences_78 h.1 ?_
                  have h := h.2
                  refine r_callVi (pc := 79) hC [aI ((m_to_18 (Int.toNat m_sentences_3)) - 1)] [] dX10_laysSentences_79 ml_RX10_200 my_X10_isBlank mi_X10_isBlank lM_0 rfl rfl ⟨Nat.le_of_ble_eq_true rfl, Nat.le_of_ble_eq_true rfl⟩ ⟨Nat.le_of_ble_eq_true rfl, Nat.le_of_ble_eq_true rfl⟩ (Nat.le_of_ble_eq_true rfl) rfl (s_M_isBlank l _ _ _ h) (fun r19 w1 hq => ?_)
                  obtain ⟨e9, h⟩ := hq
                  rw [e9]
                  refine r_if_eq (pc := 82) (tgt := 101) hC dX10_laysSentences_82 rfl (fun hc8 => ?_) (fun hc8 => ?_)
                  · have h := h.1 hc8
                    refine r_aload_n (pc := 101) hC 0 dX10_laysSentences_101 rfl rfl ?_
                    refine r_dup (pc := 102) hC dX10_laysSentences_102 rfl ?_
                    refine r_get (kd := 0) (v := m_sentences_3) (pc := 103) hC dX10_laysSentences_103 fl_RX10_203 lM_0 rfl rfl ?_
                    refine r_iconst (pc := 106) hC dX10_laysSentences_106 (rng_lit rfl) ?_
                    refine r_iadd (pc := 107) hC dX10_laysSentences_107 h.1 ?_
                    have h := h.2
                    refine r_put (kd := 0) (pc := 108) hC dX10_laysSentences_108 pl_RX10_203 lM_0 rfl (by decide) (Or.inl rfl) ?_
                    refine r_iload_n (pc := 111) hC 2 dX10_laysSentences_111 rfl rfl ?_
                    refine r_istore_n (ls2 := [some (aR 0), some (aI r17), some (aI r17), none]) (pc := 112) hC 1 dX10_laysSentences_112 rfl (by decide) rfl rfl ?_
                    refine r_goto (tgt := 7) (pc := 113) hC dX10_laysSentences_113 rfl ?_
                    exact r_to [true, true, false, false] rfl rfl (ih1 (uI m_from_1 m_sentences_3 x15) m_to_18 (m_sentences_3 + 1) r17 (Nat.lt_of_lt_of_le h.2 (Nat.le_of_lt_succ hn1)) h.1)
                  have h := h.2 hc8
                  refine r_aload_n (pc := 85) hC 0 dX10_laysSentences_85 rfl rfl ?_
                  refine r_getr (r := 10) (pc := 86) hC dX10_laysSentences_86 fl_RX10_38 lM_0 rfl ?_
                  refine r_aload_n (pc := 89) hC 0 dX10_laysSentences_89 rfl rfl ?_
                  refine r_get (kd := 0) (v := m_sentences_3) (pc := 90) hC dX10_laysSentences_90 fl_RX10_203 lM_0 rfl rfl ?_
                  refine r_dup2 (pc := 93) hC dX10_laysSentences_93 rfl rfl ?_
                  refine r_iald (v := (m_to_18 (Int.toNat m_sentences_3))) (pc := 94) hC dX10_laysSentences_94 lM_10 h.1.1 h.1.2 rfl ?_
                  have h := h.2
                  refine r_iconst (pc := 95) hC dX10_laysSentences_95 (rng_lit rfl) ?_
                  refine r_isub (pc := 96) hC dX10_laysSentences_96 h.1 ?_
                  have h := h.2
                  refine r_iast (pc := 97) hC dX10_laysSentences_97 lM_10 h.1.1 h.1.2 ?_
                  have h := h.2
                  refine r_goto (tgt := 67) (pc := 98) hC dX10_laysSentences_98 rfl ?_
                  exact r_to [true, false, true, false] rfl rfl (ih10 (uI m_to_18 m_sentences_3 ((m_to_18 (Int.toNat m_sentences_3)) - 1)) (Nat.lt_of_lt_of_le h.2 (Nat.le_of_lt_succ hn10)) h.1)
              exact r_to [true, false, true, false] rfl rfl (S10 _ (uI m_to_2 m_sentences_3 r17) (Nat.lt_succ_self _) hI10)
            have h := h.2 hc9
            refine r_goto (tgt := 116) (pc := 38) hC dX10_laysSentences_38 rfl ?_
            exact r_to [true, false, false, false] rfl rfl (S2 h)
          have h := h.2 hc10
          refine r_iinc (ls2 := [some (aR 0), some (aI (x15 + 1)), none, none]) (pc := 24) hC dX10_laysSentences_24 rfl (by decide) rfl h.1 rfl ?_
          have h := h.2
          refine r_goto (tgt := 16) (pc := 27) hC dX10_laysSentences_27 rfl ?_
          exact r_to [true, true, false, false] rfl rfl (ih9 (x15 + 1) (Nat.lt_of_lt_of_le h.2 (Nat.le_of_lt_succ hn9)) h.1)
      exact r_to [true, true, false, false] rfl rfl (S9 _ x4 (Nat.lt_succ_self _) hI9)
  exact r_to [true, true, false, false] rfl rfl (S1 _ (w.1 9) (w.1 10) 0 0 (Nat.lt_succ_self _) hI1)
def wp_M_fitsOne (m_page : (Nat → Int)) (m_signAt : (Nat → Int)) (m_wordFrom : (Nat → Int)) (m_wordTo : (Nat → Int)) (m_termMany : (Nat → Int)) (m_star : (Nat → Int)) (m_term : (Nat → Int)) (m_signs : Int) (a1 : Int) (a2 : Int) (a3 : Int) (Q : Int → Prop) : Prop := (rng (4 * a1)) ∧ ((rng ((4 * a1) + a2)) ∧ ((0 ≤ a3 ∧ a3 < 100) ∧ ((0 ≤ a3 ∧ a3 < 100) ∧ ((rng ((m_wordTo (Int.toNat a3)) - (m_wordFrom (Int.toNat a3)))) ∧ ((0 ≤ ((4 * a1) + a2) ∧ ((4 * a1) + a2) < 32) ∧ (jn1 (fun (J1 : Int → Prop) => ((m_star (Int.toNat ((4 * a1) + a2))) = 0 → (0 ≤ ((4 * a1) + a2) ∧ ((4 * a1) + a2) < 32) ∧ ((¬ ((m_wordTo (Int.toNat a3)) - (m_wordFrom (Int.toNat a3))) = (m_termMany (Int.toNat ((4 * a1) + a2))) → J1 0) ∧ (((m_wordTo (Int.toNat a3)) - (m_wordFrom (Int.toNat a3))) = (m_termMany (Int.toNat ((4 * a1) + a2))) → J1 1))) ∧ (¬ (m_star (Int.toNat ((4 * a1) + a2))) = 0 → (0 ≤ ((4 * a1) + a2) ∧ ((4 * a1) + a2) < 32) ∧ ((((m_wordTo (Int.toNat a3)) - (m_wordFrom (Int.toNat a3))) < (m_termMany (Int.toNat ((4 * a1) + a2))) → J1 0) ∧ (¬ ((m_wordTo (Int.toNat a3)) - (m_wordFrom (Int.toNat a3))) < (m_termMany (Int.toNat ((4 * a1) + a2))) → J1 1)))) (fun (y1 : Int) => lpw2 (fun (x2 : Int) (x3 : Int) (k2 : Int → Int → Prop) => (x2 = 0 → (0 ≤ x2 ∧ x2 ≤ 1) ∧ (Q x2)) ∧ (¬ x2 = 0 → (0 ≤ ((4 * a1) + a2) ∧ ((4 * a1) + a2) < 32) ∧ (((m_termMany (Int.toNat ((4 * a1) + a2))) ≤ x3 → (0 ≤ x2 ∧ x2 ≤ 1) ∧ (Q x2)) ∧ (¬ (m_termMany (Int.toNat ((4 * a1) + a2))) ≤ x3 → (0 ≤ a3 ∧ a3 < 100) ∧ ((rng ((m_wordFrom (Int.toNat a3)) + x3)) ∧ (wp_M_plain m_page m_signAt m_signs ((m_wordFrom (Int.toNat a3)) + x3) (fun (r4 : Int) => wp_M_small r4 (fun (r5 : Int) => (rng (12 * ((4 * a1) + a2))) ∧ ((rng ((12 * ((4 * a1) + a2)) + x3)) ∧ ((0 ≤ ((12 * ((4 * a1) + a2)) + x3) ∧ ((12 * ((4 * a1) + a2)) + x3) < 384) ∧ (jn1 (fun (J3 : Int → Prop) => (¬ r5 = (m_term (Int.toNat ((12 * ((4 * a1) + a2)) + x3))) → J3 0) ∧ (r5 = (m_term (Int.toNat ((12 * ((4 * a1) + a2)) + x3))) → J3 1)) (fun (y6 : Int) => (rng (x3 + 1)) ∧ (k2 y6 (x3 + 1)))))))))))))) y1 0)))))))
set_option maxHeartbeats 4000000 in
set_option maxRecDepth 20000 in
theorem s_M_fitsOne (l : Launch) (w : St) (a1 : Int) (a2 : Int) (a3 : Int) (P : Int → Prop) (h : wp_M_fitsOne (w.1 3) (w.1 4) (w.1 5) (w.1 6) (w.1 14) (w.1 16) (w.1 17) (w.1 0 7) a1 a2 a3 P) : Cn l yX10_fitsOne cX10_fitsOne 8 (some .boolean) 2 LM w [aR 0, aI a1, aI a2, aI a3] (okI (fun r w1 => w1 = w ∧ P r)) := by
  unfold wp_M_fitsOne at h
  refine Cn.of2 [some (aR 0), some (aI a1), some (aI a2), some (aI a3), none, none, none, none] (by decide) (Nat.le_of_ble_eq_true rfl) rfl (fun p e s m args below meth c D cA ad A Q hQ hC hr hk => ?_)
  refine r_iconst (pc := 0) hC dX10_fitsOne_0 (rng_lit rfl) ?_
  refine r_iload_n (pc := 1) hC 1 dX10_fitsOne_1 rfl rfl ?_
  refine r_imul (pc := 2) hC dX10_fitsOne_2 h.1 ?_
  have h := h.2
  refine r_iload_n (pc := 3) hC 2 dX10_fitsOne_3 rfl rfl ?_
  refine r_iadd (pc := 4) hC dX10_fitsOne_4 h.1 ?_
  have h := h.2
  refine r_istore (ls2 := [some (aR 0), some (aI a1), some (aI a2), some (aI a3), some (aI ((4 * a1) + a2)), none, none, none]) (pc := 5) hC dX10_fitsOne_5 (by decide) rfl rfl ?_
  refine r_aload_n (pc := 7) hC 0 dX10_fitsOne_7 rfl rfl ?_
  refine r_getr (r := 6) (pc := 8) hC dX10_fitsOne_8 fl_RX10_26 lM_0 rfl ?_
  refine r_iload_n (pc := 11) hC 3 dX10_fitsOne_11 rfl rfl ?_
  refine r_iald (v := ((w.1 6) (Int.toNat a3))) (pc := 12) hC dX10_fitsOne_12 lM_6 h.1.1 h.1.2 rfl ?_
  have h := h.2
  refine r_aload_n (pc := 13) hC 0 dX10_fitsOne_13 rfl rfl ?_
  refine r_getr (r := 5) (pc := 14) hC dX10_fitsOne_14 fl_RX10_23 lM_0 rfl ?_
  refine r_iload_n (pc := 17) hC 3 dX10_fitsOne_17 rfl rfl ?_
  refine r_iald (v := ((w.1 5) (Int.toNat a3))) (pc := 18) hC dX10_fitsOne_18 lM_5 h.1.1 h.1.2 rfl ?_
  have h := h.2
  refine r_isub (pc := 19) hC dX10_fitsOne_19 h.1 ?_
  have h := h.2
  refine r_istore (ls2 := [some (aR 0), some (aI a1), some (aI a2), some (aI a3), some (aI ((4 * a1) + a2)), some (aI (((w.1 6) (Int.toNat a3)) - ((w.1 5) (Int.toNat a3)))), none, none]) (pc := 20) hC dX10_fitsOne_20 (by decide) rfl rfl ?_
  refine r_aload_n (pc := 22) hC 0 dX10_fitsOne_22 rfl rfl ?_
  refine r_getr (r := 16) (pc := 23) hC dX10_fitsOne_23 fl_RX10_57 lM_0 rfl ?_
  refine r_iload (pc := 26) hC dX10_fitsOne_26 rfl ?_
  refine r_zald (v := ((w.1 16) (Int.toNat ((4 * a1) + a2)))) (pc := 28) hC dX10_fitsOne_28 lM_16 h.1.1 h.1.2 rfl ?_
  have h := h.2
  obtain ⟨J1, hJ1, h⟩ := h
  have S1 : ∀ (y1 : Int), J1 y1 → Wd p l e (rmD 2) s m args below meth c Q 0 0 8 D cA ad A LM w 69 [some (aR 0), none, none, some (aI a3), some (aI ((4 * a1) + a2)), none, none, none] [aI y1] := by
    intro y1 hj
    have h := hJ1 y1 hj
    refine r_istore (ls2 := [some (aR 0), none, none, some (aI a3), some (aI ((4 * a1) + a2)), none, some (aI y1), none]) (pc := 69) hC dX10_fitsOne_69 (by decide) rfl rfl ?_
    refine r_iconst (pc := 71) hC dX10_fitsOne_71 (rng_lit rfl) ?_
    refine r_istore (ls2 := [some (aR 0), none, none, some (aI a3), some (aI ((4 * a1) + a2)), none, some (aI y1), some (aI 0)]) (pc := 72) hC dX10_fitsOne_72 (by decide) rfl rfl ?_
    obtain ⟨I2, μ2, hI2, hB2⟩ := h
    have S2 : ∀ (nn : Nat) (x2 : Int) (x3 : Int), μ2 x2 x3 < nn → I2 x2 x3 → Wd p l e (rmD 2) s m args below meth c Q 0 0 8 D cA ad A LM w 74 [some (aR 0), none, none, some (aI a3), some (aI ((4 * a1) + a2)), none, some (aI x2), some (aI x3)] [] := by
      intro nn
      induction nn with
      | zero => intro x2 x3 hn; exact absurd hn (Nat.not_lt_zero _)
      | succ nn ih2 =>
        intro x2 x3 hn2 hi
        have h := hB2 x2 x3 hi
        refine r_iload (pc := 74) hC dX10_fitsOne_74 rfl ?_
        refine r_if_eq (pc := 76) (tgt := 136) hC dX10_fitsOne_76 rfl (fun hc3 => ?_) (fun hc3 => ?_)
        · have h := h.1 hc3
          refine r_iload (pc := 136) hC dX10_fitsOne_136 rfl ?_
          exact r_reti (pc := 138) (kd := 1) hC hQ dX10_fitsOne_138 hr hk (by decide) (Or.inr h.1) ⟨rfl, h.2⟩
        have h := h.2 hc3
        refine r_iload (pc := 79) hC dX10_fitsOne_79 rfl ?_
        refine r_aload_n (pc := 81) hC 0 dX10_fitsOne_81 rfl rfl ?_
        refine r_getr (r := 14) (pc := 82) hC dX10_fitsOne_82 fl_RX10_51 lM_0 rfl ?_
        refine r_iload (pc := 85) hC dX10_fitsOne_85 rfl ?_
        refine r_iald (v := ((w.1 14) (Int.toNat ((4 * a1) + a2)))) (pc := 87) hC dX10_fitsOne_87 lM_14 h.1.1 h.1.2 rfl ?_
        have h := h.2
        refine r_ic_ge (pc := 88) (tgt := 136) hC dX10_fitsOne_88 rfl (fun hc2 => ?_) (fun hc2 => ?_)
        · have h := h.1 hc2
          refine r_iload (pc := 136) hC dX10_fitsOne_136 rfl ?_
          exact r_reti (pc := 138) (kd := 1) hC hQ dX10_fitsOne_138 hr hk (by decide) (Or.inr h.1) ⟨rfl, h.2⟩
        have h := h.2 hc2
        refine r_aload_n (pc := 91) hC 0 dX10_fitsOne_91 rfl rfl ?_
        refine r_aload_n (pc := 92) hC 0 dX10_fitsOne_92 rfl rfl ?_
        refine r_getr (r := 5) (pc := 93) hC dX10_fitsOne_93 fl_RX10_23 lM_0 rfl ?_
        refine r_iload_n (pc := 96) hC 3 dX10_fitsOne_96 rfl rfl ?_
        refine r_iald (v := ((w.1 5) (Int.toNat a3))) (pc := 97) hC dX10_fitsOne_97 lM_5 h.1.1 h.1.2 rfl ?_
        have h := h.2
        refine r_iload (pc := 98) hC dX10_fitsOne_98 rfl ?_
        refine r_iadd (pc := 100) hC dX10_fitsOne_100 h.1 ?_
        have h := h.2
        refine r_callVi (pc := 101) hC [aI (((w.1 5) (Int.toNat a3)) + x3)] [] dX10_fitsOne_101 ml_RX10_166 my_X10_plain mi_X10_plain lM_0 rfl rfl ⟨Nat.le_of_ble_eq_true rfl, Nat.le_of_ble_eq_true rfl⟩ ⟨Nat.le_of_ble_eq_true rfl, Nat.le_of_ble_eq_true rfl⟩ (Nat.le_of_ble_eq_true rfl) rfl (s_M_plain l _ _ _ h) (fun r4 w1 hq => ?_)
        obtain ⟨e9, h⟩ := hq
        rw [e9]
        refine r_callSi (pc := 104) hC [aI r4] [] dX10_fitsOne_104 ml_RX10_169 my_X10_small ms_X10_small rfl ⟨Nat.le_of_ble_eq_true rfl, Nat.le_of_ble_eq_true rfl⟩ ⟨Nat.le_of_ble_eq_true rfl, Nat.le_of_ble_eq_true rfl⟩ (Nat.le_of_ble_eq_true rfl) rfl (s_M_small l _ _ _ h) (fun r5 w1 hq => ?_)
        obtain ⟨e9, h⟩ := hq
        rw [e9]
        refine r_aload_n (pc := 107) hC 0 dX10_fitsOne_107 rfl rfl ?_
        refine r_getr (r := 17) (pc := 108) hC dX10_fitsOne_108 fl_RX10_60 lM_0 rfl ?_
        refine r_bipush (pc := 111) hC dX10_fitsOne_111 ⟨rfl, rng_lit rfl⟩ ?_
        refine r_iload (pc := 113) hC dX10_fitsOne_113 rfl ?_
        refine r_imul (pc := 115) hC dX10_fitsOne_115 h.1 ?_
        have h := h.2
        refine r_iload (pc := 116) hC dX10_fitsOne_116 rfl ?_
        refine r_iadd (pc := 118) hC dX10_fitsOne_118 h.1 ?_
        have h := h.2
        refine r_bald (v := ((w.1 17) (Int.toNat ((12 * ((4 * a1) + a2)) + x3)))) (pc := 119) hC dX10_fitsOne_119 lM_17 h.1.1 h.1.2 rfl ?_
        have h := h.2
        obtain ⟨J3, hJ3, h⟩ := h
        have S3 : ∀ (y6 : Int), J3 y6 → Wd p l e (rmD 2) s m args below meth c Q 0 0 8 D cA ad A LM w 128 [some (aR 0), none, none, some (aI a3), some (aI ((4 * a1) + a2)), none, none, some (aI x3)] [aI y6] := by
          intro y6 hj
          have h := hJ3 y6 hj
          refine r_istore (ls2 := [some (aR 0), none, none, some (aI a3), some (aI ((4 * a1) + a2)), none, some (aI y6), some (aI x3)]) (pc := 128) hC dX10_fitsOne_128 (by decide) rfl rfl ?_
          refine r_iinc (ls2 := [some (aR 0), none, none, some (aI a3), some (aI ((4 * a1) + a2)), none, some (aI y6), some (aI (x3 + 1))]) (pc := 130) hC dX10_fitsOne_130 rfl (by decide) rfl h.1 rfl ?_
          have h := h.2
          refine r_goto (tgt := 74) (pc := 133) hC dX10_fitsOne_133 rfl ?_
          exact r_to [true, false, false, true, true, false, true, true] rfl rfl (ih2 y6 (x3 + 1) (Nat.lt_of_lt_of_le h.2 (Nat.le_of_lt_succ hn2)) h.1)
        refine r_ic_ne (pc := 120) (tgt := 127) hC dX10_fitsOne_120 rfl (fun hc1 => ?_) (fun hc1 => ?_)
        · have h := h.1 hc1
          refine r_iconst (pc := 127) hC dX10_fitsOne_127 (rng_lit rfl) ?_
          exact r_to [true, false, false, true, true, false, false, true] rfl rfl (S3 0 h)
        have h := h.2 hc1
        refine r_iconst (pc := 123) hC dX10_fitsOne_123 (rng_lit rfl) ?_
        refine r_goto (tgt := 128) (pc := 124) hC dX10_fitsOne_124 rfl ?_
        exact r_to [true, false, false, true, true, false, false, true] rfl rfl (S3 1 h)
    exact r_to [true, false, false, true, true, false, true, true] rfl rfl (S2 _ y1 0 (Nat.lt_succ_self _) hI2)
  refine r_if_eq (pc := 29) (tgt := 52) hC dX10_fitsOne_29 rfl (fun hc6 => ?_) (fun hc6 => ?_)
  · have h := h.1 hc6
    refine r_iload (pc := 52) hC dX10_fitsOne_52 rfl ?_
    refine r_aload_n (pc := 54) hC 0 dX10_fitsOne_54 rfl rfl ?_
    refine r_getr (r := 14) (pc := 55) hC dX10_fitsOne_55 fl_RX10_51 lM_0 rfl ?_
    refine r_iload (pc := 58) hC dX10_fitsOne_58 rfl ?_
    refine r_iald (v := ((w.1 14) (Int.toNat ((4 * a1) + a2)))) (pc := 60) hC dX10_fitsOne_60 lM_14 h.1.1 h.1.2 rfl ?_
    have h := h.2
    refine r_ic_ne (pc := 61) (tgt := 68) hC dX10_fitsOne_61 rfl (fun hc4 => ?_) (fun hc4 => ?_)
    · have h := h.1 hc4
      refine r_iconst (pc := 68) hC dX10_fitsOne_68 (rng_lit rfl) ?_
      exact r_to [true, false, false, true, true, false, false, false] rfl rfl (S1 0 h)
    have h := h.2 hc4
    refine r_iconst (pc := 64) hC dX10_fitsOne_64 (rng_lit rfl) ?_
    refine r_goto (tgt := 69) (pc := 65) hC dX10_fitsOne_65 rfl ?_
    exact r_to [true, false, false, true, true, false, false, false] rfl rfl (S1 1 h)
  have h := h.2 hc6
  refine r_iload (pc := 32) hC dX10_fitsOne_32 rfl ?_
  refine r_aload_n (pc := 34) hC 0 dX10_fitsOne_34 rfl rfl ?_
  refine r_getr (r := 14) (pc := 35) hC dX10_fitsOne_35 fl_RX10_51 lM_0 rfl ?_
  refine r_iload (pc := 38) hC dX10_fitsOne_38 rfl ?_
  refine r_iald (v := ((w.1 14) (Int.toNat ((4 * a1) + a2)))) (pc := 40) hC dX10_fitsOne_40 lM_14 h.1.1 h.1.2 rfl ?_
  have h := h.2
  refine r_ic_lt (pc := 41) (tgt := 48) hC dX10_fitsOne_41 rfl (fun hc5 => ?_) (fun hc5 => ?_)
  · have h := h.1 hc5
    refine r_iconst (pc := 48) hC dX10_fitsOne_48 (rng_lit rfl) ?_
    refine r_goto (tgt := 69) (pc := 49) hC dX10_fitsOne_49 rfl ?_
    exact r_to [true, false, false, true, true, false, false, false] rfl rfl (S1 0 h)
  have h := h.2 hc5
  refine r_iconst (pc := 44) hC dX10_fitsOne_44 (rng_lit rfl) ?_
  refine r_goto (tgt := 69) (pc := 45) hC dX10_fitsOne_45 rfl ?_
  exact r_to [true, false, false, true, true, false, false, false] rfl rfl (S1 1 h)
def wp_M_matchesAt (m_page : (Nat → Int)) (m_signAt : (Nat → Int)) (m_wordFrom : (Nat → Int)) (m_wordTo : (Nat → Int)) (m_sentenceOf : (Nat → Int)) (m_terms : (Nat → Int)) (m_termMany : (Nat → Int)) (m_star : (Nat → Int)) (m_term : (Nat → Int)) (m_signs : Int) (m_words : Int) (a1 : Int) (a2 : Int) (Q : Int → Prop) : Prop := (0 ≤ a1 ∧ a1 < 8) ∧ ((rng (a2 + (m_terms (Int.toNat a1)))) ∧ ((rng ((a2 + (m_terms (Int.toNat a1))) - 1)) ∧ ((m_words ≤ ((a2 + (m_terms (Int.toNat a1))) - 1) → Q 0) ∧ (¬ m_words ≤ ((a2 + (m_terms (Int.toNat a1))) - 1) → (0 ≤ a2 ∧ a2 < 100) ∧ ((¬ (m_sentenceOf (Int.toNat a2)) = (-1) → lpw1 (fun (x1 : Int) (k1 : Int → Prop) => (0 ≤ a1 ∧ a1 < 8) ∧ (((m_terms (Int.toNat a1)) ≤ x1 → Q 1) ∧ (¬ (m_terms (Int.toNat a1)) ≤ x1 → (rng (a2 + x1)) ∧ ((0 ≤ (a2 + x1) ∧ (a2 + x1) < 100) ∧ ((0 ≤ a2 ∧ a2 < 100) ∧ ((¬ (m_sentenceOf (Int.toNat (a2 + x1))) = (m_sentenceOf (Int.toNat a2)) → Q 0) ∧ ((m_sentenceOf (Int.toNat (a2 + x1))) = (m_sentenceOf (Int.toNat a2)) → (rng (a2 + x1)) ∧ (wp_M_fitsOne m_page m_signAt m_wordFrom m_wordTo m_termMany m_star m_term m_signs a1 x1 (a2 + x1) (fun (r2 : Int) => (¬ r2 = 0 → (rng (x1 + 1)) ∧ (k1 (x1 + 1))) ∧ (r2 = 0 → Q 0)))))))))) 0) ∧ ((m_sentenceOf (Int.toNat a2)) = (-1) → Q 0))))))
set_option maxHeartbeats 4000000 in
set_option maxRecDepth 20000 in
theorem s_M_matchesAt (l : Launch) (w : St) (a1 : Int) (a2 : Int) (P : Int → Prop) (h : wp_M_matchesAt (w.1 3) (w.1 4) (w.1 5) (w.1 6) (w.1 7) (w.1 13) (w.1 14) (w.1 16) (w.1 17) (w.1 0 7) (w.1 0 12) a1 a2 P) : Cn l yX10_matchesAt cX10_matchesAt 5 (some .boolean) 3 LM w [aR 0, aI a1, aI a2] (okI (fun r w1 => w1 = w ∧ P r)) := by
  unfold wp_M_matchesAt at h
  refine Cn.of2 [some (aR 0), some (aI a1), some (aI a2), none, none] (by decide) (Nat.le_of_ble_eq_true rfl) rfl (fun p e s m args below meth c D cA ad A Q hQ hC hr hk => ?_)
  refine r_iload_n (pc := 0) hC 2 dX10_matchesAt_0 rfl rfl ?_
  refine r_aload_n (pc := 1) hC 0 dX10_matchesAt_1 rfl rfl ?_
  refine r_getr (r := 13) (pc := 2) hC dX10_matchesAt_2 fl_RX10_48 lM_0 rfl ?_
  refine r_iload_n (pc := 5) hC 1 dX10_matchesAt_5 rfl rfl ?_
  refine r_iald (v := ((w.1 13) (Int.toNat a1))) (pc := 6) hC dX10_matchesAt_6 lM_13 h.1.1 h.1.2 rfl ?_
  have h := h.2
  refine r_iadd (pc := 7) hC dX10_matchesAt_7 h.1 ?_
  have h := h.2
  refine r_iconst (pc := 8) hC dX10_matchesAt_8 (rng_lit rfl) ?_
  refine r_isub (pc := 9) hC dX10_matchesAt_9 h.1 ?_
  have h := h.2
  refine r_istore_n (ls2 := [some (aR 0), some (aI a1), some (aI a2), some (aI ((a2 + ((w.1 13) (Int.toNat a1))) - 1)), none]) (pc := 10) hC 3 dX10_matchesAt_10 rfl (by decide) rfl rfl ?_
  refine r_iload_n (pc := 11) hC 3 dX10_matchesAt_11 rfl rfl ?_
  refine r_aload_n (pc := 12) hC 0 dX10_matchesAt_12 rfl rfl ?_
  refine r_get (kd := 0) (v := (w.1 0 12)) (pc := 13) hC dX10_matchesAt_13 fl_RX10_179 lM_0 rfl rfl ?_
  refine r_ic_ge (pc := 16) (tgt := 29) hC dX10_matchesAt_16 rfl (fun hc5 => ?_) (fun hc5 => ?_)
  · have h := h.1 hc5
    refine r_iconst (pc := 29) hC dX10_matchesAt_29 (rng_lit rfl) ?_
    exact r_reti (pc := 30) (kd := 1) hC hQ dX10_matchesAt_30 hr hk (by decide) (Or.inr okK1_0) ⟨rfl, h⟩
  have h := h.2 hc5
  refine r_aload_n (pc := 19) hC 0 dX10_matchesAt_19 rfl rfl ?_
  refine r_getr (r := 7) (pc := 20) hC dX10_matchesAt_20 fl_RX10_29 lM_0 rfl ?_
  refine r_iload_n (pc := 23) hC 2 dX10_matchesAt_23 rfl rfl ?_
  refine r_iald (v := ((w.1 7) (Int.toNat a2))) (pc := 24) hC dX10_matchesAt_24 lM_7 h.1.1 h.1.2 rfl ?_
  have h := h.2
  refine r_iconst (pc := 25) hC dX10_matchesAt_25 (rng_lit rfl) ?_
  refine r_ic_ne (pc := 26) (tgt := 31) hC dX10_matchesAt_26 rfl (fun hc4 => ?_) (fun hc4 => ?_)
  · have h := h.1 hc4
    refine r_iconst (pc := 31) hC dX10_matchesAt_31 (rng_lit rfl) ?_
    refine r_istore (ls2 := [some (aR 0), some (aI a1), some (aI a2), some (aI ((a2 + ((w.1 13) (Int.toNat a1))) - 1)), some (aI 0)]) (pc := 32) hC dX10_matchesAt_32 (by decide) rfl rfl ?_
    obtain ⟨I1, μ1, hI1, hB1⟩ := h
    have S1 : ∀ (nn : Nat) (x1 : Int), μ1 x1 < nn → I1 x1 → Wd p l e (rmD 3) s m args below meth c Q 0 0 5 D cA ad A LM w 34 [some (aR 0), some (aI a1), some (aI a2), none, some (aI x1)] [] := by
      intro nn
      induction nn with
      | zero => intro x1 hn; exact absurd hn (Nat.not_lt_zero _)
      | succ nn ih1 =>
        intro x1 hn1 hi
        have h := hB1 x1 hi
        refine r_iload (pc := 34) hC dX10_matchesAt_34 rfl ?_
        refine r_aload_n (pc := 36) hC 0 dX10_matchesAt_36 rfl rfl ?_
        refine r_getr (r := 13) (pc := 37) hC dX10_matchesAt_37 fl_RX10_48 lM_0 rfl ?_
        refine r_iload_n (pc := 40) hC 1 dX10_matchesAt_40 rfl rfl ?_
        refine r_iald (v := ((w.1 13) (Int.toNat a1))) (pc := 41) hC dX10_matchesAt_41 lM_13 h.1.1 h.1.2 rfl ?_
        have h := h.2
        refine r_ic_ge (pc := 42) (tgt := 85) hC dX10_matchesAt_42 rfl (fun hc3 => ?_) (fun hc3 => ?_)
        · have h := h.1 hc3
          refine r_iconst (pc := 85) hC dX10_matchesAt_85 (rng_lit rfl) ?_
          exact r_reti (pc := 86) (kd := 1) hC hQ dX10_matchesAt_86 hr hk (by decide) (Or.inr okK1_1) ⟨rfl, h⟩
        have h := h.2 hc3
        refine r_aload_n (pc := 45) hC 0 dX10_matchesAt_45 rfl rfl ?_
        refine r_getr (r := 7) (pc := 46) hC dX10_matchesAt_46 fl_RX10_29 lM_0 rfl ?_
        refine r_iload_n (pc := 49) hC 2 dX10_matchesAt_49 rfl rfl ?_
        refine r_iload (pc := 50) hC dX10_matchesAt_50 rfl ?_
        refine r_iadd (pc := 52) hC dX10_matchesAt_52 h.1 ?_
        have h := h.2
        refine r_iald (v := ((w.1 7) (Int.toNat (a2 + x1)))) (pc := 53) hC dX10_matchesAt_53 lM_7 h.1.1 h.1.2 rfl ?_
        have h := h.2
        refine r_aload_n (pc := 54) hC 0 dX10_matchesAt_54 rfl rfl ?_
        refine r_getr (r := 7) (pc := 55) hC dX10_matchesAt_55 fl_RX10_29 lM_0 rfl ?_
        refine r_iload_n (pc := 58) hC 2 dX10_matchesAt_58 rfl rfl ?_
        refine r_iald (v := ((w.1 7) (Int.toNat a2))) (pc := 59) hC dX10_matchesAt_59 lM_7 h.1.1 h.1.2 rfl ?_
        have h := h.2
        refine r_ic_ne (pc := 60) (tgt := 77) hC dX10_matchesAt_60 rfl (fun hc2 => ?_) (fun hc2 => ?_)
        · have h := h.1 hc2
          refine r_iconst (pc := 77) hC dX10_matchesAt_77 (rng_lit rfl) ?_
          exact r_reti (pc := 78) (kd := 1) hC hQ dX10_matchesAt_78 hr hk (by decide) (Or.inr okK1_0) ⟨rfl, h⟩
        have h := h.2 hc2
        refine r_aload_n (pc := 63) hC 0 dX10_matchesAt_63 rfl rfl ?_
        refine r_iload_n (pc := 64) hC 1 dX10_matchesAt_64 rfl rfl ?_
        refine r_iload (pc := 65) hC dX10_matchesAt_65 rfl ?_
        refine r_iload_n (pc := 67) hC 2 dX10_matchesAt_67 rfl rfl ?_
        refine r_iload (pc := 68) hC dX10_matchesAt_68 rfl ?_
        refine r_iadd (pc := 70) hC dX10_matchesAt_70 h.1 ?_
        have h := h.2
        refine r_callVi (pc := 71) hC [aI a1, aI x1, aI (a2 + x1)] [] dX10_matchesAt_71 ml_RX10_274 my_X10_fitsOne mi_X10_fitsOne lM_0 rfl rfl ⟨Nat.le_of_ble_eq_true rfl, Nat.le_of_ble_eq_true rfl⟩ ⟨Nat.le_of_ble_eq_true rfl, Nat.le_of_ble_eq_true rfl⟩ (Nat.le_of_ble_eq_true rfl) rfl (s_M_fitsOne l _ _ _ _ _ h) (fun r2 w1 hq => ?_)
        obtain ⟨e9, h⟩ := hq
        rw [e9]
        refine r_if_ne (pc := 74) (tgt := 79) hC dX10_matchesAt_74 rfl (fun hc1 => ?_) (fun hc1 => ?_)
        · have h := h.1 hc1
          refine r_iinc (ls2 := [some (aR 0), some (aI a1), some (aI a2), none, some (aI (x1 + 1))]) (pc := 79) hC dX10_matchesAt_79 rfl (by decide) rfl h.1 rfl ?_
          have h := h.2
          refine r_goto (tgt := 34) (pc := 82) hC dX10_matchesAt_82 rfl ?_
          exact r_to [true, true, true, false, true] rfl rfl (ih1 (x1 + 1) (Nat.lt_of_lt_of_le h.2 (Nat.le_of_lt_succ hn1)) h.1)
        have h := h.2 hc1
        refine r_iconst (pc := 77) hC dX10_matchesAt_77 (rng_lit rfl) ?_
        exact r_reti (pc := 78) (kd := 1) hC hQ dX10_matchesAt_78 hr hk (by decide) (Or.inr okK1_0) ⟨rfl, h⟩
    exact r_to [true, true, true, false, true] rfl rfl (S1 _ 0 (Nat.lt_succ_self _) hI1)
  have h := h.2 hc4
  refine r_iconst (pc := 29) hC dX10_matchesAt_29 (rng_lit rfl) ?_
  exact r_reti (pc := 30) (kd := 1) hC hQ dX10_matchesAt_30 hr hk (by decide) (Or.inr okK1_0) ⟨rfl, h⟩
