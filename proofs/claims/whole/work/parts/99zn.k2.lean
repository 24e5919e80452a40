/-! K: calls of both -/
theorem sti_pos {I set : Nat} (h : StI I set) : 0 < set := by
  obtain ⟨_, k, _, h2⟩ := h
  rcases Nat.eq_zero_or_pos set with e | e
  · rw [e, Nat.zero_testBit] at h2; cases h2
  · exact e
theorem K_word {l : Launch} (hl : l.stackTraces = false) {u v : St} (hR : Rel u v) (a1 a2 : Int) : Ct l yX9_word cX9_word 3 (some .int) 7 2 LX u [aR 0, aI a1, aI a2] (okI (fun r u' => Cn l yX10_word cX10_word 3 (some .int) 2 LM v [aR 0, aI a1, aI a2] (okI (fun r' v' => v'.1 0 0 = 0 ∧ r' = r ∧ Rel u' v')))) (fun x u' => ∃ k : Int, (x, k) ∈ ([(2, 2), (1, 1)] : List (Nat × Int)) ∧ Cn l yX10_word cX10_word 3 (some .int) 2 LM v [aR 0, aI a1, aI a2] (okI (fun r' v' => v'.1 0 0 = k ∧ Rel u' v'))) := by
  obtain ⟨hT, hF, hW, b, N, I, wt, tc, tz, lt, st, sf, bu, mo, li, ch, hP, hQ, hMt, hS, hBk, hLa, hLk⟩ := hR
  obtain ⟨fN, fQx, fQm, fTx, fTm, fRs, fTa, fB, fLe, fFt, fWl⟩ := facts hP hQ hMt
  obtain ⟨pb, pA, p14, p15, p16, p17, mE, ms, mw, mso, mal, mta, mha, m6, m7, m12, m16⟩ := id hP
  obtain ⟨qA, q6, mqA, m29, bo1, bo2, by1⟩ := id hQ
  obtain ⟨tI, t6, mmA, m39⟩ := id hMt
  obtain ⟨s4, s5, s6, s7, v50, v51, v52, v53, cS, moS, buS, tkS⟩ := id hS
  obtain ⟨hB, hLt, hSg, hWd, hAl, hSn, hPl⟩ := id pA
  have h100 : Wn b N ≤ 100 := by unfold Wn; omega
  have h14 := Sn_le b N
  have hX : wp_Picker_word (u.1 6) (u.1 7) (u.1 8) (u.1 9) (u.1 10) (u.1 32) (u.1 3 16) a1 a2 (fun r => ((0 ≤ a1 ∧ a1 < (Wn b N : Int)) ∧ (0 ≤ a2 ∧ a2 ≤ 5)) ∧ r = wvl b N I tc (mch b N tc tz lt st) a2 a1.toNat) (fun x => (x = 2 ∧ ((0 ≤ a1 ∧ a1 < (Wn b N : Int)) ∧ ¬ (0 ≤ a2 ∧ a2 ≤ 5))) ∨ (x = 1 ∧ (¬ (0 ≤ a1 ∧ a1 < (Wn b N : Int))))) := by
    rw [p16]
    exact b_word (bg := u.1 30) (en := u.1 31) (tl := u.2 33) fN hSg hWd hPl.1 hAl (fun w hw => (tI.1 w hw).2.2) (fun w e h1 h2 => ⟨⟨by omega, h2⟩, by rw [e, Int.toNat_natCast]⟩) (fun h1 h2 => .inl ⟨rfl, h1, h2⟩) (fun h => .inr ⟨rfl, h⟩)
  have hM : wp_M_word (v.1 4) (v.1 5) (v.1 6) (v.1 7) (v.1 8) (v.1 24) (v.1 25) (v.1 26) (v.1 0 0) (v.1 0 12) (v.1 0 39) a1 a2 (fun r o0 => (((0 ≤ a1 ∧ a1 < (Wn b N : Int)) ∧ (0 ≤ a2 ∧ a2 ≤ 5)) ∧ o0 = 0 ∧ r = wvl b N I tc (mch b N tc tz lt st) a2 a1.toNat) ∨ (o0 = 2 ∧ ((0 ≤ a1 ∧ a1 < (Wn b N : Int)) ∧ ¬ (0 ≤ a2 ∧ a2 ≤ 5))) ∨ (o0 = 1 ∧ (¬ (0 ≤ a1 ∧ a1 < (Wn b N : Int))))) := by
    rw [m12, m39]
    exact b_Mword fN ms mw mso mal fTm mmA (fun w e h1 h2 => .inl ⟨⟨by omega, h2⟩, rfl, by rw [e, Int.toNat_natCast]⟩) (fun h1 h2 => .inr (.inl ⟨rfl, h1, h2⟩)) (fun h => .inr (.inr ⟨rfl, h⟩))
  refine (s_Picker_word l hl u a1 a2 _ _ hX).mono (fun r w1 h => ?_) (fun x w1 h => ?_)
  · obtain ⟨z, e, rfl, hv⟩ := h
    refine ⟨_, rfl, z, e, (s_M_word l v a1 a2 _ hM).mono fun r2 w2 h2 => ?_⟩
    obtain ⟨z2, e2, n0, rfl, hv2⟩ := h2
    rcases hv2 with hv2 | hv2 | hv2
    · exact ⟨_, rfl, z2, e2, hv2.2.1, hv2.2.2.trans hv.2.symm, ⟨hT, hF, hW, b, N, I, wt, tc, tz, lt, st, sf, bu, mo, li, ch, hP, hQ, hMt, hS, hBk, hLa, hLk⟩⟩
    · exfalso; have g1 := hv.1; have g2 := hv2.2; omega
    · exfalso; have g1 := hv.1; have g2 := hv2.2; omega
  · obtain ⟨hpj, hE⟩ := h
    refine ⟨_, hpj, ?_⟩
    rcases hE with hE | hE
    · refine ⟨2, by rw [hE.1]; decide, (s_M_word l v a1 a2 _ hM).mono fun r2 w2 h2 => ?_⟩
      obtain ⟨z2, e2, n0, rfl, hv2⟩ := h2
      rcases hv2 with hv2 | hv2 | hv2
      · exfalso; have g1 := hv2.1; have g2 := hE.2; omega
      · exact ⟨_, rfl, z2, e2, hv2.1, ⟨hT, hF, hW, b, N, I, wt, tc, tz, lt, st, sf, bu, mo, li, ch, hP, hQ, hMt, hS, hBk, hLa, hLk⟩⟩
      · exfalso; have g1 := hv2.2; have g2 := hE.2; omega
    · refine ⟨1, by rw [hE.1]; decide, (s_M_word l v a1 a2 _ hM).mono fun r2 w2 h2 => ?_⟩
      obtain ⟨z2, e2, n0, rfl, hv2⟩ := h2
      rcases hv2 with hv2 | hv2 | hv2
      · exfalso; have g1 := hv2.1; have g2 := hE.2; omega
      · exfalso; have g1 := hv2.2; have g2 := hE.2; omega
      · exact ⟨_, rfl, z2, e2, hv2.1, ⟨hT, hF, hW, b, N, I, wt, tc, tz, lt, st, sf, bu, mo, li, ch, hP, hQ, hMt, hS, hBk, hLa, hLk⟩⟩
theorem K_match {l : Launch} (hl : l.stackTraces = false) {u v : St} (hR : Rel u v) (a1 a2 : Int) : Ct l yX9_match cX9_match 5 (some .int) 7 2 LX u [aR 0, aI a1, aI a2] (okI (fun r u' => Cn l yX10_match cX10_match 3 (some .int) 1 LM v [aR 0, aI a1, aI a2] (okI (fun r' v' => v'.1 0 0 = 0 ∧ r' = r ∧ Rel u' v')))) (fun x u' => ∃ k : Int, (x, k) ∈ ([(2, 2), (1, 1)] : List (Nat × Int)) ∧ Cn l yX10_match cX10_match 3 (some .int) 1 LM v [aR 0, aI a1, aI a2] (okI (fun r' v' => v'.1 0 0 = k ∧ Rel u' v'))) := by
  obtain ⟨hT, hF, hW, b, N, I, wt, tc, tz, lt, st, sf, bu, mo, li, ch, hP, hQ, hMt, hS, hBk, hLa, hLk⟩ := hR
  obtain ⟨fN, fQx, fQm, fTx, fTm, fRs, fTa, fB, fLe, fFt, fWl⟩ := facts hP hQ hMt
  obtain ⟨pb, pA, p14, p15, p16, p17, mE, ms, mw, mso, mal, mta, mha, m6, m7, m12, m16⟩ := id hP
  obtain ⟨qA, q6, mqA, m29, bo1, bo2, by1⟩ := id hQ
  obtain ⟨tI, t6, mmA, m39⟩ := id hMt
  obtain ⟨s4, s5, s6, s7, v50, v51, v52, v53, cS, moS, buS, tkS⟩ := id hS
  obtain ⟨hB, hLt, hSg, hWd, hAl, hSn, hPl⟩ := id pA
  have h100 : Wn b N ≤ 100 := by unfold Wn; omega
  have h14 := Sn_le b N
  have hX : wp_Picker_match (u.1 20) (u.1 30) (u.1 3 16) (u.1 18 6) (u.1 29 6) a1 a2 (fun r => ((0 ≤ a1 ∧ a1 < (M0 (Wn b N) I (mch b N tc tz lt st) : Int)) ∧ (0 ≤ a2 ∧ a2 ≤ 2)) ∧ r = mvl (Wn b N) I tc (mch b N tc tz lt st) a1.toNat a2) (fun x => (x = 2 ∧ ((0 ≤ a1 ∧ a1 < (M0 (Wn b N) I (mch b N tc tz lt st) : Int)) ∧ ¬ (0 ≤ a2 ∧ a2 ≤ 2))) ∨ (x = 1 ∧ (¬ (0 ≤ a1 ∧ a1 < (M0 (Wn b N) I (mch b N tc tz lt st) : Int))))) := by
    rw [p16, q6, t6]
    exact b_match h100 fTx (fun w hw => (tI.1 w hw).1) (fun w e h1 h2 => ⟨⟨by omega, h2⟩, by rw [e, Int.toNat_natCast]⟩) (fun h1 h2 => .inl ⟨rfl, h1, h2⟩) (fun h => .inr ⟨rfl, h⟩)
  have hM : wp_M_match (v.1 24) (v.1 25) (v.1 26) (v.1 0 0) (v.1 0 39) a1 a2 (fun r o0 => (((0 ≤ a1 ∧ a1 < (M0 (Wn b N) I (mch b N tc tz lt st) : Int)) ∧ (0 ≤ a2 ∧ a2 ≤ 2)) ∧ o0 = 0 ∧ r = mvl (Wn b N) I tc (mch b N tc tz lt st) a1.toNat a2) ∨ (o0 = 2 ∧ ((0 ≤ a1 ∧ a1 < (M0 (Wn b N) I (mch b N tc tz lt st) : Int)) ∧ ¬ (0 ≤ a2 ∧ a2 ≤ 2))) ∨ (o0 = 1 ∧ (¬ (0 ≤ a1 ∧ a1 < (M0 (Wn b N) I (mch b N tc tz lt st) : Int))))) := by
    rw [m39]
    exact b_Mmatch h100 fTm mmA (fun w e h1 h2 => .inl ⟨⟨by omega, h2⟩, rfl, by rw [e, Int.toNat_natCast]⟩) (fun h1 h2 => .inr (.inl ⟨rfl, h1, h2⟩)) (fun h => .inr (.inr ⟨rfl, h⟩))
  refine (s_Picker_match l hl u a1 a2 _ _ hX).mono (fun r w1 h => ?_) (fun x w1 h => ?_)
  · obtain ⟨z, e, rfl, hv⟩ := h
    refine ⟨_, rfl, z, e, (s_M_match l v a1 a2 _ hM).mono fun r2 w2 h2 => ?_⟩
    obtain ⟨z2, e2, n0, rfl, hv2⟩ := h2
    rcases hv2 with hv2 | hv2 | hv2
    · exact ⟨_, rfl, z2, e2, hv2.2.1, hv2.2.2.trans hv.2.symm, ⟨hT, hF, hW, b, N, I, wt, tc, tz, lt, st, sf, bu, mo, li, ch, hP, hQ, hMt, hS, hBk, hLa, hLk⟩⟩
    · exfalso; have g1 := hv.1; have g2 := hv2.2; omega
    · exfalso; have g1 := hv.1; have g2 := hv2.2; omega
  · obtain ⟨hpj, hE⟩ := h
    refine ⟨_, hpj, ?_⟩
    rcases hE with hE | hE
    · refine ⟨2, by rw [hE.1]; decide, (s_M_match l v a1 a2 _ hM).mono fun r2 w2 h2 => ?_⟩
      obtain ⟨z2, e2, n0, rfl, hv2⟩ := h2
      rcases hv2 with hv2 | hv2 | hv2
      · exfalso; have g1 := hv2.1; have g2 := hE.2; omega
      · exact ⟨_, rfl, z2, e2, hv2.1, ⟨hT, hF, hW, b, N, I, wt, tc, tz, lt, st, sf, bu, mo, li, ch, hP, hQ, hMt, hS, hBk, hLa, hLk⟩⟩
      · exfalso; have g1 := hv2.2; have g2 := hE.2; omega
    · refine ⟨1, by rw [hE.1]; decide, (s_M_match l v a1 a2 _ hM).mono fun r2 w2 h2 => ?_⟩
      obtain ⟨z2, e2, n0, rfl, hv2⟩ := h2
      rcases hv2 with hv2 | hv2 | hv2
      · exfalso; have g1 := hv2.1; have g2 := hE.2; omega
      · exfalso; have g1 := hv2.2; have g2 := hE.2; omega
      · exact ⟨_, rfl, z2, e2, hv2.1, ⟨hT, hF, hW, b, N, I, wt, tc, tz, lt, st, sf, bu, mo, li, ch, hP, hQ, hMt, hS, hBk, hLa, hLk⟩⟩
theorem K_item {l : Launch} (hl : l.stackTraces = false) {u v : St} (hR : Rel u v) (a1 a2 : Int) : Ct l yX9_item cX9_item 3 (some .int) 7 2 LX u [aR 0, aI a1, aI a2] (okI (fun r u' => Cn l yX10_item cX10_item 3 (some .int) 2 LM v [aR 0, aI a1, aI a2] (okI (fun r' v' => v'.1 0 0 = 0 ∧ r' = r ∧ Rel u' v')))) (fun x u' => ∃ k : Int, (x, k) ∈ ([(2, 2), (1, 1)] : List (Nat × Int)) ∧ Cn l yX10_item cX10_item 3 (some .int) 2 LM v [aR 0, aI a1, aI a2] (okI (fun r' v' => v'.1 0 0 = k ∧ Rel u' v'))) := by
  obtain ⟨hT, hF, hW, b, N, I, wt, tc, tz, lt, st, sf, bu, mo, li, ch, hP, hQ, hMt, hS, hBk, hLa, hLk⟩ := hR
  obtain ⟨fN, fQx, fQm, fTx, fTm, fRs, fTa, fB, fLe, fFt, fWl⟩ := facts hP hQ hMt
  obtain ⟨pb, pA, p14, p15, p16, p17, mE, ms, mw, mso, mal, mta, mha, m6, m7, m12, m16⟩ := id hP
  obtain ⟨qA, q6, mqA, m29, bo1, bo2, by1⟩ := id hQ
  obtain ⟨tI, t6, mmA, m39⟩ := id hMt
  obtain ⟨s4, s5, s6, s7, v50, v51, v52, v53, cS, moS, buS, tkS⟩ := id hS
  obtain ⟨hB, hLt, hSg, hWd, hAl, hSn, hPl⟩ := id pA
  have h100 : Wn b N ≤ 100 := by unfold Wn; omega
  have h14 := Sn_le b N
  have hX : wp_Picker_item (u.1 19) (u.1 20) (u.1 3 17) (u.1 18 5) (u.1 18 6) (u.2 33) a1 a2 (fun r => ((0 ≤ a1 ∧ a1 < (I : Int)) ∧ (0 ≤ a2 ∧ a2 ≤ 4)) ∧ r = ivl b N I wt tc sf (mch b N tc tz lt st) a2 a1.toNat) (fun x => (x = 2 ∧ ((0 ≤ a1 ∧ a1 < (I : Int)) ∧ ¬ (0 ≤ a2 ∧ a2 ≤ 4))) ∨ (x = 1 ∧ (¬ (0 ≤ a1 ∧ a1 < (I : Int))))) := by
    rw [p17, q6]
    exact b_item fN qA.1 (fun k hk => ⟨(qA.2 k hk).1.1, (qA.2 k hk).2.1.1, (qA.2 k hk).2.2.1⟩) tI (fun k w h1 h2 => (fRs k w h1 h2).1) (fun w e h1 h2 => ⟨⟨by omega, h2⟩, by rw [e, Int.toNat_natCast]⟩) (fun h1 h2 => .inl ⟨rfl, h1, h2⟩) (fun h => .inr ⟨rfl, h⟩)
  have hM : wp_M_item (v.1 7) (v.1 12) (v.1 13) (v.1 15) (v.1 24) (v.1 25) (v.1 0 0) (v.1 0 29) (v.1 0 39) a1 a2 (fun r o0 => (((0 ≤ a1 ∧ a1 < (I : Int)) ∧ (0 ≤ a2 ∧ a2 ≤ 4)) ∧ o0 = 0 ∧ r = ivl b N I wt tc sf (mch b N tc tz lt st) a2 a1.toNat) ∨ (o0 = 2 ∧ ((0 ≤ a1 ∧ a1 < (I : Int)) ∧ ¬ (0 ≤ a2 ∧ a2 ≤ 4))) ∨ (o0 = 1 ∧ (¬ (0 ≤ a1 ∧ a1 < (I : Int))))) := by
    rw [m29, m39]
    exact b_Mitem fN mso fTm mmA (fun k hk => ⟨(mqA.2 k hk).1.1, (mqA.2 k hk).2.1.1, (mqA.2 k hk).2.2.1⟩) (fun k w h1 h2 => (fRs k w h1 h2).1) (fun w e h1 h2 => .inl ⟨⟨by omega, h2⟩, rfl, by rw [e, Int.toNat_natCast]⟩) (fun h1 h2 => .inr (.inl ⟨rfl, h1, h2⟩)) (fun h => .inr (.inr ⟨rfl, h⟩))
  refine (s_Picker_item l hl u a1 a2 _ _ hX).mono (fun r w1 h => ?_) (fun x w1 h => ?_)
  · obtain ⟨z, e, rfl, hv⟩ := h
    refine ⟨_, rfl, z, e, (s_M_item l v a1 a2 _ hM).mono fun r2 w2 h2 => ?_⟩
    obtain ⟨z2, e2, n0, rfl, hv2⟩ := h2
    rcases hv2 with hv2 | hv2 | hv2
    · exact ⟨_, rfl, z2, e2, hv2.2.1, hv2.2.2.trans hv.2.symm, ⟨hT, hF, hW, b, N, I, wt, tc, tz, lt, st, sf, bu, mo, li, ch, hP, hQ, hMt, hS, hBk, hLa, hLk⟩⟩
    · exfalso; have g1 := hv.1; have g2 := hv2.2; omega
    · exfalso; have g1 := hv.1; have g2 := hv2.2; omega
  · obtain ⟨hpj, hE⟩ := h
    refine ⟨_, hpj, ?_⟩
    rcases hE with hE | hE
    · refine ⟨2, by rw [hE.1]; decide, (s_M_item l v a1 a2 _ hM).mono fun r2 w2 h2 => ?_⟩
      obtain ⟨z2, e2, n0, rfl, hv2⟩ := h2
      rcases hv2 with hv2 | hv2 | hv2
      · exfalso; have g1 := hv2.1; have g2 := hE.2; omega
      · exact ⟨_, rfl, z2, e2, hv2.1, ⟨hT, hF, hW, b, N, I, wt, tc, tz, lt, st, sf, bu, mo, li, ch, hP, hQ, hMt, hS, hBk, hLa, hLk⟩⟩
      · exfalso; have g1 := hv2.2; have g2 := hE.2; omega
    · refine ⟨1, by rw [hE.1]; decide, (s_M_item l v a1 a2 _ hM).mono fun r2 w2 h2 => ?_⟩
      obtain ⟨z2, e2, n0, rfl, hv2⟩ := h2
      rcases hv2 with hv2 | hv2 | hv2
      · exfalso; have g1 := hv2.1; have g2 := hE.2; omega
      · exfalso; have g1 := hv2.2; have g2 := hE.2; omega
      · exact ⟨_, rfl, z2, e2, hv2.1, ⟨hT, hF, hW, b, N, I, wt, tc, tz, lt, st, sf, bu, mo, li, ch, hP, hQ, hMt, hS, hBk, hLa, hLk⟩⟩
theorem K_sentence {l : Launch} (hl : l.stackTraces = false) {u v : St} (hR : Rel u v) (a1 a2 : Int) : Ct l yX9_sentence cX9_sentence 3 (some .int) 7 2 LX u [aR 0, aI a1, aI a2] (okI (fun r u' => Cn l yX10_sentence cX10_sentence 4 (some .int) 5 LM v [aR 0, aI a1, aI a2] (okI (fun r' v' => v'.1 0 0 = 0 ∧ r' = r ∧ Rel u' v')))) (fun x u' => ∃ k : Int, (x, k) ∈ ([(2, 2), (1, 1)] : List (Nat × Int)) ∧ Cn l yX10_sentence cX10_sentence 4 (some .int) 5 LM v [aR 0, aI a1, aI a2] (okI (fun r' v' => v'.1 0 0 = k ∧ Rel u' v'))) := by
  obtain ⟨hT, hF, hW, b, N, I, wt, tc, tz, lt, st, sf, bu, mo, li, ch, hP, hQ, hMt, hS, hBk, hLa, hLk⟩ := hR
  obtain ⟨fN, fQx, fQm, fTx, fTm, fRs, fTa, fB, fLe, fFt, fWl⟩ := facts hP hQ hMt
  obtain ⟨pb, pA, p14, p15, p16, p17, mE, ms, mw, mso, mal, mta, mha, m6, m7, m12, m16⟩ := id hP
  obtain ⟨qA, q6, mqA, m29, bo1, bo2, by1⟩ := id hQ
  obtain ⟨tI, t6, mmA, m39⟩ := id hMt
  obtain ⟨s4, s5, s6, s7, v50, v51, v52, v53, cS, moS, buS, tkS⟩ := id hS
  obtain ⟨hB, hLt, hSg, hWd, hAl, hSn, hPl⟩ := id pA
  have h100 : Wn b N ≤ 100 := by unfold Wn; omega
  have h14 := Sn_le b N
  have hX : wp_Picker_sentence (u.1 11) (u.1 12) (u.1 13) (u.1 14) (u.1 15) (u.1 19) (u.1 40) (u.1 3 17) (u.1 18 6) (u.1 37 4) (u.1 37 5) (u.1 37 7) (u.2 16) (u.2 17) (u.2 33) a1 a2 (fun r => ((0 ≤ a1 ∧ a1 < (Sn b N : Int)) ∧ (0 ≤ a2 ∧ a2 ≤ 10)) ∧ r = nvl b N I wt (taN b N I (mch b N tc tz lt st)) (tkl b N li) mo bu ch a2 a1.toNat) (fun x => (x = 2 ∧ ((0 ≤ a1 ∧ a1 < (Sn b N : Int)) ∧ ¬ (0 ≤ a2 ∧ a2 ≤ 10))) ∨ (x = 1 ∧ (¬ (0 ≤ a1 ∧ a1 < (Sn b N : Int))))) := by
    rw [p17, q6, s4, s5, s7]
    exact b_sentence fN hSn hPl fQx fTa tkS cS (fun w e h1 h2 => ⟨⟨by omega, h2⟩, by rw [e, Int.toNat_natCast]⟩) (fun h1 h2 => .inl ⟨rfl, h1, h2⟩) (fun h => .inr ⟨rfl, h⟩)
  have hM : wp_M_sentence (v.1 4) (v.1 7) (v.1 8) (v.1 9) (v.1 10) (v.1 11) (v.1 12) (v.1 24) (v.1 25) (v.1 28) (v.1 29) (v.1 31) (v.1 33) (v.1 0 0) (v.1 0 12) (v.1 0 16) (v.1 0 29) (v.1 0 39) (v.1 0 42) (v.1 0 43) (v.1 0 50) (v.1 0 51) (v.1 0 52) (v.1 0 53) a1 a2 (fun r o0 o1 o2 o3 o4 o5 o6 => (((0 ≤ a1 ∧ a1 < (Sn b N : Int)) ∧ (0 ≤ a2 ∧ a2 ≤ 10)) ∧ o4 = 0 ∧ r = nvl b N I wt (taN b N I (mch b N tc tz lt st)) (tkl b N li) mo bu ch a2 a1.toNat ∧ (o5 = 0 ∨ (o5 = 1 ∧ StA (Sn b N) I wt (taN b N I (mch b N tc tz lt st)) (leN b N) o0 o1)) ∧ (o6 = 0 ∨ (o6 = 1 ∧ TkA (Sn b N) (tkl b N li) o3))) ∨ (o4 = 2 ∧ ((0 ≤ a1 ∧ a1 < (Sn b N : Int)) ∧ ¬ (0 ≤ a2 ∧ a2 ≤ 10)) ∧ (o5 = 0 ∨ (o5 = 1 ∧ StA (Sn b N) I wt (taN b N I (mch b N tc tz lt st)) (leN b N) o0 o1)) ∧ (o6 = 0 ∨ (o6 = 1 ∧ TkA (Sn b N) (tkl b N li) o3))) ∨ (o4 = 1 ∧ (¬ (0 ≤ a1 ∧ a1 < (Sn b N : Int))) ∧ (o5 = 0 ∨ (o5 = 1 ∧ StA (Sn b N) I wt (taN b N I (mch b N tc tz lt st)) (leN b N) o0 o1)) ∧ (o6 = 0 ∨ (o6 = 1 ∧ TkA (Sn b N) (tkl b N li) o3)))) := by
    rw [m12, m16, m29, m39, v50, v51, v52, v53]
    exact b_Msentence fN ms mta mso fB hLa hLk cS (fun w e h1 h2 wo' ln' ins' tk' h8 h9 => .inl ⟨⟨by omega, h2⟩, rfl, by rw [e, Int.toNat_natCast], ⟨.inr ⟨rfl, h8⟩, .inr ⟨rfl, h9⟩⟩⟩) (fun h1 h2 => .inr (.inl ⟨rfl, ⟨h1, h2⟩, ⟨hLa, hLk⟩⟩)) (fun h => .inr (.inr ⟨rfl, h, ⟨hLa, hLk⟩⟩))
  refine (s_Picker_sentence l hl u a1 a2 _ _ hX).mono (fun r w1 h => ?_) (fun x w1 h => ?_)
  · obtain ⟨z, e, rfl, hv⟩ := h
    refine ⟨_, rfl, z, e, (s_M_sentence l v a1 a2 _ hM).mono fun r2 w2 h2 => ?_⟩
    obtain ⟨z2, e2, n0, n1, n2, n3, n4, n5, n6, rfl, hv2⟩ := h2
    rcases hv2 with hv2 | hv2 | hv2
    · exact ⟨_, rfl, z2, e2, hv2.2.1, hv2.2.2.1.trans hv.2.symm, ⟨hT, hF, hW, b, N, I, wt, tc, tz, lt, st, sf, bu, mo, li, ch, hP, hQ, hMt, hS, hBk, hv2.2.2.2.1, hv2.2.2.2.2⟩⟩
    · exfalso; have g1 := hv.1; have g2 := hv2.2.1; omega
    · exfalso; have g1 := hv.1; have g2 := hv2.2.1; omega
  · obtain ⟨hpj, hE⟩ := h
    refine ⟨_, hpj, ?_⟩
    rcases hE with hE | hE
    · refine ⟨2, by rw [hE.1]; decide, (s_M_sentence l v a1 a2 _ hM).mono fun r2 w2 h2 => ?_⟩
      obtain ⟨z2, e2, n0, n1, n2, n3, n4, n5, n6, rfl, hv2⟩ := h2
      rcases hv2 with hv2 | hv2 | hv2
      · exfalso; have g1 := hv2.1; have g2 := hE.2; omega
      · exact ⟨_, rfl, z2, e2, hv2.1, ⟨hT, hF, hW, b, N, I, wt, tc, tz, lt, st, sf, bu, mo, li, ch, hP, hQ, hMt, hS, hBk, hv2.2.2.1, hv2.2.2.2⟩⟩
      · exfalso; have g1 := hv2.2.1; have g2 := hE.2; omega
    · refine ⟨1, by rw [hE.1]; decide, (s_M_sentence l v a1 a2 _ hM).mono fun r2 w2 h2 => ?_⟩
      obtain ⟨z2, e2, n0, n1, n2, n3, n4, n5, n6, rfl, hv2⟩ := h2
      rcases hv2 with hv2 | hv2 | hv2
      · exfalso; have g1 := hv2.1; have g2 := hE.2; omega
      · exfalso; have g1 := hv2.2.1; have g2 := hE.2; omega
      · exact ⟨_, rfl, z2, e2, hv2.1, ⟨hT, hF, hW, b, N, I, wt, tc, tz, lt, st, sf, bu, mo, li, ch, hP, hQ, hMt, hS, hBk, hv2.2.2.1, hv2.2.2.2⟩⟩
theorem K_fits {l : Launch} (hl : l.stackTraces = false) {u v : St} (hR : Rel u v) (a1 a2 a3 : Int) : Ct l yX9_fits cX9_fits 4 (some .boolean) 7 2 LX u [aR 0, aI a1, aI a2, aI a3] (okI (fun r u' => Cn l yX10_fits cX10_fits 4 (some .boolean) 3 LM v [aR 0, aI a1, aI a2, aI a3] (okI (fun r' v' => v'.1 0 0 = 0 ∧ r' = r ∧ Rel u' v')))) (fun x u' => ∃ k : Int, (x, k) ∈ ([(1, 1)] : List (Nat × Int)) ∧ Cn l yX10_fits cX10_fits 4 (some .boolean) 3 LM v [aR 0, aI a1, aI a2, aI a3] (okI (fun r' v' => v'.1 0 0 = k ∧ Rel u' v'))) := by
  obtain ⟨hT, hF, hW, b, N, I, wt, tc, tz, lt, st, sf, bu, mo, li, ch, hP, hQ, hMt, hS, hBk, hLa, hLk⟩ := hR
  obtain ⟨fN, fQx, fQm, fTx, fTm, fRs, fTa, fB, fLe, fFt, fWl⟩ := facts hP hQ hMt
  obtain ⟨pb, pA, p14, p15, p16, p17, mE, ms, mw, mso, mal, mta, mha, m6, m7, m12, m16⟩ := id hP
  obtain ⟨qA, q6, mqA, m29, bo1, bo2, by1⟩ := id hQ
  obtain ⟨tI, t6, mmA, m39⟩ := id hMt
  obtain ⟨s4, s5, s6, s7, v50, v51, v52, v53, cS, moS, buS, tkS⟩ := id hS
  obtain ⟨hB, hLt, hSg, hWd, hAl, hSn, hPl⟩ := id pA
  have h100 : Wn b N ≤ 100 := by unfold Wn; omega
  have h14 := Sn_le b N
  have hX : wp_Picker_fits (u.1 4) (u.1 7) (u.1 8) (u.1 20) (u.1 21) (u.1 22) (u.1 3 14) (u.1 3 16) (u.1 18 4) (u.1 18 6) a1 a2 a3 (fun r => ((0 ≤ a1 ∧ a1 < (I : Int)) ∧ (0 ≤ a3 ∧ a3 < (Wn b N : Int))) ∧ r = (if 0 ≤ a2 ∧ a2 < (tc a1.toNat : Int) then bI (fit b N tz lt st (4 * a1.toNat + a2.toNat) a3.toNat) else 0)) (fun x => (x = 1 ∧ (¬ ((0 ≤ a1 ∧ a1 < (I : Int)) ∧ (0 ≤ a3 ∧ a3 < (Wn b N : Int)))))) := by
    rw [p14, p16, q6, pb]
    exact b_fits hB hWd qA (fun k w e e3 h1 h2 => ⟨⟨by omega, by omega⟩, by rw [e, e3, Int.toNat_natCast, Int.toNat_natCast]⟩) (fun h => ⟨rfl, h⟩)
  have hM : wp_M_fits (v.1 3) (v.1 4) (v.1 5) (v.1 6) (v.1 13) (v.1 14) (v.1 16) (v.1 17) (v.1 0 0) (v.1 0 7) (v.1 0 12) (v.1 0 29) a1 a2 a3 (fun r o0 => (((0 ≤ a1 ∧ a1 < (I : Int)) ∧ (0 ≤ a3 ∧ a3 < (Wn b N : Int))) ∧ o0 = 0 ∧ r = (if 0 ≤ a2 ∧ a2 < (tc a1.toNat : Int) then bI (fit b N tz lt st (4 * a1.toNat + a2.toNat) a3.toNat) else 0)) ∨ (o0 = 1 ∧ (¬ ((0 ≤ a1 ∧ a1 < (I : Int)) ∧ (0 ≤ a3 ∧ a3 < (Wn b N : Int)))))) := by
    rw [m7, m12, m29]
    exact b_Mfits hB mE ms mw mqA (fun k w e e3 h1 h2 => .inl ⟨⟨by omega, by omega⟩, rfl, by rw [e, e3, Int.toNat_natCast, Int.toNat_natCast]⟩) (fun h => .inr ⟨rfl, h⟩)
  refine (s_Picker_fits l hl u a1 a2 a3 _ _ hX).mono (fun r w1 h => ?_) (fun x w1 h => ?_)
  · obtain ⟨z, e, rfl, hv⟩ := h
    refine ⟨_, rfl, z, e, (s_M_fits l v a1 a2 a3 _ hM).mono fun r2 w2 h2 => ?_⟩
    obtain ⟨z2, e2, n0, rfl, hv2⟩ := h2
    rcases hv2 with hv2 | hv2
    · exact ⟨_, rfl, z2, e2, hv2.2.1, hv2.2.2.trans hv.2.symm, ⟨hT, hF, hW, b, N, I, wt, tc, tz, lt, st, sf, bu, mo, li, ch, hP, hQ, hMt, hS, hBk, hLa, hLk⟩⟩
    · exfalso; have g1 := hv.1; have g2 := hv2.2; omega
  · obtain ⟨hpj, hE⟩ := h
    refine ⟨_, hpj, ?_⟩
    rcases hE with hE
    · refine ⟨1, by rw [hE.1]; decide, (s_M_fits l v a1 a2 a3 _ hM).mono fun r2 w2 h2 => ?_⟩
      obtain ⟨z2, e2, n0, rfl, hv2⟩ := h2
      rcases hv2 with hv2 | hv2
      · exfalso; have g1 := hv2.1; have g2 := hE.2; omega
      · exact ⟨_, rfl, z2, e2, hv2.1, ⟨hT, hF, hW, b, N, I, wt, tc, tz, lt, st, sf, bu, mo, li, ch, hP, hQ, hMt, hS, hBk, hLa, hLk⟩⟩
theorem K_window {l : Launch} (hl : l.stackTraces = false) {u v : St} (hR : Rel u v) (a1 a2 a3 : Int) (hr : rng a1) : Ct l yX9_window cX9_window 4 (some .int) 7 2 LX u [aR 0, aI a1, aI a2, aI a3] (okI (fun r u' => Cn l yX10_window cX10_window 7 (some .int) 3 LM v [aR 0, aI a1, aI a2, aI a3] (okI (fun r' v' => v'.1 0 0 = 0 ∧ r' = r ∧ Rel u' v')))) (fun x u' => ∃ k : Int, (x, k) ∈ ([(2, 1), (3, 2)] : List (Nat × Int)) ∧ Cn l yX10_window cX10_window 7 (some .int) 3 LM v [aR 0, aI a1, aI a2, aI a3] (okI (fun r' v' => v'.1 0 0 = k ∧ Rel u' v'))) := by
  obtain ⟨hT, hF, hW, b, N, I, wt, tc, tz, lt, st, sf, bu, mo, li, ch, hP, hQ, hMt, hS, hBk, hLa, hLk⟩ := hR
  obtain ⟨fN, fQx, fQm, fTx, fTm, fRs, fTa, fB, fLe, fFt, fWl⟩ := facts hP hQ hMt
  obtain ⟨pb, pA, p14, p15, p16, p17, mE, ms, mw, mso, mal, mta, mha, m6, m7, m12, m16⟩ := id hP
  obtain ⟨qA, q6, mqA, m29, bo1, bo2, by1⟩ := id hQ
  obtain ⟨tI, t6, mmA, m39⟩ := id hMt
  obtain ⟨s4, s5, s6, s7, v50, v51, v52, v53, cS, moS, buS, tkS⟩ := id hS
  obtain ⟨hB, hLt, hSg, hWd, hAl, hSn, hPl⟩ := id pA
  have h100 : Wn b N ≤ 100 := by unfold Wn; omega
  have h14 := Sn_le b N
  have hX : wp_Picker_window (u.1 6) (u.1 7) (u.1 8) (u.1 20) (u.1 30) (u.1 35) (u.1 36) (u.1 3 16) (u.1 18 6) (u.1 34 5) (u.1 34 6) (u.1 34 7) (u.1 34 8) a1 a2 a3 (fun r o0 o1 o2 o3 o4 o5 => ((0 ≤ a3 ∧ a3 ≤ 2) ∧ (0 < a1 ∧ a1 < ((2 ^ I : Nat) : Int))) ∧ r = wpk (Wn b N) I tc (mch b N tc tz lt st) (FN b N) (TN b N) a1.toNat a2 a3) (fun x o0 o1 o2 o3 o4 o5 => (x = 2 ∧ (¬ (0 ≤ a3 ∧ a3 ≤ 2))) ∨ (x = 3 ∧ ((0 ≤ a3 ∧ a3 ≤ 2) ∧ ¬ (0 < a1 ∧ a1 < ((2 ^ I : Nat) : Int))))) := by
    rw [p16, q6]
    exact b_window fN hr fWl fTx (fun w hw => (tI.1 w hw).1) (fun set e h1 hs g nx' re' f l w wh => ⟨⟨g, by have := sti_pos hs; omega, by omega⟩, by rw [e, Int.toNat_natCast]⟩) (fun h => .inl ⟨rfl, h⟩) (fun h1 h2 => .inr ⟨rfl, h1, h2⟩)
  have hM : wp_M_window (v.1 5) (v.1 6) (v.1 13) (v.1 27) (v.1 0 0) (v.1 0 12) (v.1 0 29) a1 a2 a3 (fun r o0 => (((0 ≤ a3 ∧ a3 ≤ 2) ∧ (0 < a1 ∧ a1 < ((2 ^ I : Nat) : Int))) ∧ o0 = 0 ∧ r = wpk (Wn b N) I tc (mch b N tc tz lt st) (FN b N) (TN b N) a1.toNat a2 a3) ∨ (o0 = 1 ∧ (¬ (0 ≤ a3 ∧ a3 ≤ 2))) ∨ (o0 = 2 ∧ ((0 ≤ a3 ∧ a3 ≤ 2) ∧ ¬ (0 < a1 ∧ a1 < ((2 ^ I : Nat) : Int))))) := by
    rw [m12, m29]
    exact b_Mwindow fN hr mw fTm mmA (fun set e h1 hs g => .inl ⟨⟨g, by have := sti_pos hs; omega, by omega⟩, rfl, by rw [e, Int.toNat_natCast]⟩) (fun h => .inr (.inl ⟨rfl, h⟩)) (fun h1 h2 => .inr (.inr ⟨rfl, h1, h2⟩))
  refine (s_Picker_window l hl u a1 a2 a3 _ _ hX).mono (fun r w1 h => ?_) (fun x w1 h => ?_)
  · obtain ⟨z, e, o0, o1, o2, o3, o4, o5, rfl, hv⟩ := h
    refine ⟨_, rfl, z, e, (s_M_window l v a1 a2 a3 _ hM).mono fun r2 w2 h2 => ?_⟩
    obtain ⟨z2, e2, n0, rfl, hv2⟩ := h2
    rcases hv2 with hv2 | hv2 | hv2
    · exact ⟨_, rfl, z2, e2, hv2.2.1, hv2.2.2.trans hv.2.symm, ⟨hT, hF, hW, b, N, I, wt, tc, tz, lt, st, sf, bu, mo, li, ch, hP, hQ, hMt, hS, hBk, hLa, hLk⟩⟩
    · exfalso; have g1 := hv.1; have g2 := hv2.2; omega
    · exfalso; have g1 := hv.1; have g2 := hv2.2; omega
  · obtain ⟨o0, o1, o2, o3, o4, o5, hpj, hE⟩ := h
    refine ⟨_, hpj, ?_⟩
    rcases hE with hE | hE
    · refine ⟨1, by rw [hE.1]; decide, (s_M_window l v a1 a2 a3 _ hM).mono fun r2 w2 h2 => ?_⟩
      obtain ⟨z2, e2, n0, rfl, hv2⟩ := h2
      rcases hv2 with hv2 | hv2 | hv2
      · exfalso; have g1 := hv2.1; have g2 := hE.2; omega
      · exact ⟨_, rfl, z2, e2, hv2.1, ⟨hT, hF, hW, b, N, I, wt, tc, tz, lt, st, sf, bu, mo, li, ch, hP, hQ, hMt, hS, hBk, hLa, hLk⟩⟩
      · exfalso; have g1 := hv2.2; have g2 := hE.2; omega
    · refine ⟨2, by rw [hE.1]; decide, (s_M_window l v a1 a2 a3 _ hM).mono fun r2 w2 h2 => ?_⟩
      obtain ⟨z2, e2, n0, rfl, hv2⟩ := h2
      rcases hv2 with hv2 | hv2 | hv2
      · exfalso; have g1 := hv2.1; have g2 := hE.2; omega
      · exfalso; have g1 := hv2.2; have g2 := hE.2; omega
      · exact ⟨_, rfl, z2, e2, hv2.1, ⟨hT, hF, hW, b, N, I, wt, tc, tz, lt, st, sf, bu, mo, li, ch, hP, hQ, hMt, hS, hBk, hLa, hLk⟩⟩
theorem K_least {l : Launch} (hl : l.stackTraces = false) {u v : St} (hR : Rel u v) (a1 a2 : Int) (hr : rng a1) : Ct l yX9_least cX9_least 3 (some .int) 7 2 LX u [aR 0, aI a1, aI a2] (okI (fun r u' => Cn l yX10_least cX10_least 7 (some .int) 3 LM v [aR 0, aI a1, aI a2] (okI (fun r' v' => v'.1 0 0 = 0 ∧ r' = r ∧ Rel u' v')))) (fun x u' => ∃ k : Int, (x, k) ∈ ([(2, 1), (3, 2)] : List (Nat × Int)) ∧ Cn l yX10_least cX10_least 7 (some .int) 3 LM v [aR 0, aI a1, aI a2] (okI (fun r' v' => v'.1 0 0 = k ∧ Rel u' v'))) := by
  obtain ⟨hT, hF, hW, b, N, I, wt, tc, tz, lt, st, sf, bu, mo, li, ch, hP, hQ, hMt, hS, hBk, hLa, hLk⟩ := hR
  obtain ⟨fN, fQx, fQm, fTx, fTm, fRs, fTa, fB, fLe, fFt, fWl⟩ := facts hP hQ hMt
  obtain ⟨pb, pA, p14, p15, p16, p17, mE, ms, mw, mso, mal, mta, mha, m6, m7, m12, m16⟩ := id hP
  obtain ⟨qA, q6, mqA, m29, bo1, bo2, by1⟩ := id hQ
  obtain ⟨tI, t6, mmA, m39⟩ := id hMt
  obtain ⟨s4, s5, s6, s7, v50, v51, v52, v53, cS, moS, buS, tkS⟩ := id hS
  obtain ⟨hB, hLt, hSg, hWd, hAl, hSn, hPl⟩ := id pA
  have h100 : Wn b N ≤ 100 := by unfold Wn; omega
  have h14 := Sn_le b N
  have hX : wp_Picker_least (u.1 6) (u.1 7) (u.1 8) (u.1 20) (u.1 30) (u.1 35) (u.1 36) (u.1 3 16) (u.1 18 6) (u.1 34 5) (u.1 34 6) (u.1 34 7) (u.1 34 8) a1 a2 (fun r o0 o1 o2 o3 o4 o5 => ((0 ≤ a2 ∧ a2 ≤ 2) ∧ (0 < a1 ∧ a1 < ((2 ^ I : Nat) : Int))) ∧ r = lsI (Wn b N) I tc (mch b N tc tz lt st) (FN b N) (TN b N) a1.toNat a2) (fun x o0 o1 o2 o3 o4 o5 => (x = 2 ∧ (¬ (0 ≤ a2 ∧ a2 ≤ 2))) ∨ (x = 3 ∧ ((0 ≤ a2 ∧ a2 ≤ 2) ∧ ¬ (0 < a1 ∧ a1 < ((2 ^ I : Nat) : Int))))) := by
    rw [p16, q6]
    exact b_leastQ fN hr fWl fTx (fun w hw => (tI.1 w hw).1) (fun set e h1 hs g nx' re' f l w wh => ⟨⟨g, by have := sti_pos hs; omega, by omega⟩, by rw [e, Int.toNat_natCast]⟩) (fun h => .inl ⟨rfl, h⟩) (fun h1 h2 => .inr ⟨rfl, h1, h2⟩)
  have hM : wp_M_least (v.1 5) (v.1 6) (v.1 13) (v.1 27) (v.1 0 0) (v.1 0 12) (v.1 0 29) a1 a2 (fun r o0 => (((0 ≤ a2 ∧ a2 ≤ 2) ∧ (0 < a1 ∧ a1 < ((2 ^ I : Nat) : Int))) ∧ o0 = 0 ∧ r = lsI (Wn b N) I tc (mch b N tc tz lt st) (FN b N) (TN b N) a1.toNat a2) ∨ (o0 = 1 ∧ (¬ (0 ≤ a2 ∧ a2 ≤ 2))) ∨ (o0 = 2 ∧ ((0 ≤ a2 ∧ a2 ≤ 2) ∧ ¬ (0 < a1 ∧ a1 < ((2 ^ I : Nat) : Int))))) := by
    rw [m12, m29]
    exact b_MleastQ fN hr mw fTm mmA (fun set e h1 hs g => .inl ⟨⟨g, by have := sti_pos hs; omega, by omega⟩, rfl, by rw [e, Int.toNat_natCast]⟩) (fun h => .inr (.inl ⟨rfl, h⟩)) (fun h1 h2 => .inr (.inr ⟨rfl, h1, h2⟩))
  refine (s_Picker_least l hl u a1 a2 _ _ hX).mono (fun r w1 h => ?_) (fun x w1 h => ?_)
  · obtain ⟨z, e, o0, o1, o2, o3, o4, o5, rfl, hv⟩ := h
    refine ⟨_, rfl, z, e, (s_M_least l v a1 a2 _ hM).mono fun r2 w2 h2 => ?_⟩
    obtain ⟨z2, e2, n0, rfl, hv2⟩ := h2
    rcases hv2 with hv2 | hv2 | hv2
    · exact ⟨_, rfl, z2, e2, hv2.2.1, hv2.2.2.trans hv.2.symm, ⟨hT, hF, hW, b, N, I, wt, tc, tz, lt, st, sf, bu, mo, li, ch, hP, hQ, hMt, hS, hBk, hLa, hLk⟩⟩
    · exfalso; have g1 := hv.1; have g2 := hv2.2; omega
    · exfalso; have g1 := hv.1; have g2 := hv2.2; omega
  · obtain ⟨o0, o1, o2, o3, o4, o5, hpj, hE⟩ := h
    refine ⟨_, hpj, ?_⟩
    rcases hE with hE | hE
    · refine ⟨1, by rw [hE.1]; decide, (s_M_least l v a1 a2 _ hM).mono fun r2 w2 h2 => ?_⟩
      obtain ⟨z2, e2, n0, rfl, hv2⟩ := h2
      rcases hv2 with hv2 | hv2 | hv2
      · exfalso; have g1 := hv2.1; have g2 := hE.2; omega
      · exact ⟨_, rfl, z2, e2, hv2.1, ⟨hT, hF, hW, b, N, I, wt, tc, tz, lt, st, sf, bu, mo, li, ch, hP, hQ, hMt, hS, hBk, hLa, hLk⟩⟩
      · exfalso; have g1 := hv2.2; have g2 := hE.2; omega
    · refine ⟨2, by rw [hE.1]; decide, (s_M_least l v a1 a2 _ hM).mono fun r2 w2 h2 => ?_⟩
      obtain ⟨z2, e2, n0, rfl, hv2⟩ := h2
      rcases hv2 with hv2 | hv2 | hv2
      · exfalso; have g1 := hv2.1; have g2 := hE.2; omega
      · exfalso; have g1 := hv2.2; have g2 := hE.2; omega
      · exact ⟨_, rfl, z2, e2, hv2.1, ⟨hT, hF, hW, b, N, I, wt, tc, tz, lt, st, sf, bu, mo, li, ch, hP, hQ, hMt, hS, hBk, hLa, hLk⟩⟩
theorem K_most {l : Launch} (hl : l.stackTraces = false) {u v : St} (hR : Rel u v) (a1 : Int) : Ct l yX9_most cX9_most 2 (some .int) 7 1 LX u [aR 0, aI a1] (okI (fun r u' => Cn l yX10_most cX10_most 7 (some .int) 1 LM v [aR 0, aI a1] (okI (fun r' v' => v'.1 0 0 = 0 ∧ r' = r ∧ Rel u' v')))) (fun x u' => ∃ k : Int, (x, k) ∈ ([(3, 1)] : List (Nat × Int)) ∧ Cn l yX10_most cX10_most 7 (some .int) 1 LM v [aR 0, aI a1] (okI (fun r' v' => v'.1 0 0 = k ∧ Rel u' v'))) := by
  obtain ⟨hT, hF, hW, b, N, I, wt, tc, tz, lt, st, sf, bu, mo, li, ch, hP, hQ, hMt, hS, hBk, hLa, hLk⟩ := hR
  obtain ⟨fN, fQx, fQm, fTx, fTm, fRs, fTa, fB, fLe, fFt, fWl⟩ := facts hP hQ hMt
  obtain ⟨pb, pA, p14, p15, p16, p17, mE, ms, mw, mso, mal, mta, mha, m6, m7, m12, m16⟩ := id hP
  obtain ⟨qA, q6, mqA, m29, bo1, bo2, by1⟩ := id hQ
  obtain ⟨tI, t6, mmA, m39⟩ := id hMt
  obtain ⟨s4, s5, s6, s7, v50, v51, v52, v53, cS, moS, buS, tkS⟩ := id hS
  obtain ⟨hB, hLt, hSg, hWd, hAl, hSn, hPl⟩ := id pA
  have h100 : Wn b N ≤ 100 := by unfold Wn; omega
  have h14 := Sn_le b N
  have hX : wp_Picker_most (u.1 6) (u.1 7) (u.1 8) (u.1 20) (u.1 31) (u.1 3 16) (u.1 18 6) a1 (fun r => (1 ≤ a1 ∧ a1 ≤ 600) ∧ r = (mos (Wn b N) I tc (mch b N tc tz lt st) (FN b N) (TN b N) a1.toNat (Wn b N) : Int)) (fun x => (x = 3 ∧ (¬ (1 ≤ a1 ∧ a1 ≤ 600)))) := by
    rw [p16, q6]
    exact b_mostQ fN fWl fTx (fun w hw => (tI.1 w hw).2.1) (fun n e h1 h2 => ⟨by omega, by rw [e, Int.toNat_natCast]⟩) (fun h => ⟨rfl, h⟩)
  have hM : wp_M_most (v.1 5) (v.1 6) (v.1 13) (v.1 27) (v.1 0 0) (v.1 0 12) (v.1 0 29) a1 (fun r o0 => ((1 ≤ a1 ∧ a1 ≤ 600) ∧ o0 = 0 ∧ r = (mos (Wn b N) I tc (mch b N tc tz lt st) (FN b N) (TN b N) a1.toNat (Wn b N) : Int)) ∨ (o0 = 1 ∧ (¬ (1 ≤ a1 ∧ a1 ≤ 600)))) := by
    rw [m12, m29]
    exact b_MmostQ fN mw fTm mmA (fun n e h1 h2 => .inl ⟨by omega, rfl, by rw [e, Int.toNat_natCast]⟩) (fun h => .inr ⟨rfl, h⟩)
  refine (s_Picker_most l hl u a1 _ _ hX).mono (fun r w1 h => ?_) (fun x w1 h => ?_)
  · obtain ⟨z, e, rfl, hv⟩ := h
    refine ⟨_, rfl, z, e, (s_M_most l v a1 _ hM).mono fun r2 w2 h2 => ?_⟩
    obtain ⟨z2, e2, n0, rfl, hv2⟩ := h2
    rcases hv2 with hv2 | hv2
    · exact ⟨_, rfl, z2, e2, hv2.2.1, hv2.2.2.trans hv.2.symm, ⟨hT, hF, hW, b, N, I, wt, tc, tz, lt, st, sf, bu, mo, li, ch, hP, hQ, hMt, hS, hBk, hLa, hLk⟩⟩
    · exfalso; have g1 := hv.1; have g2 := hv2.2; omega
  · obtain ⟨hpj, hE⟩ := h
    refine ⟨_, hpj, ?_⟩
    rcases hE with hE
    · refine ⟨1, by rw [hE.1]; decide, (s_M_most l v a1 _ hM).mono fun r2 w2 h2 => ?_⟩
      obtain ⟨z2, e2, n0, rfl, hv2⟩ := h2
      rcases hv2 with hv2 | hv2
      · exfalso; have g1 := hv2.1; have g2 := hE.2; omega
      · exact ⟨_, rfl, z2, e2, hv2.1, ⟨hT, hF, hW, b, N, I, wt, tc, tz, lt, st, sf, bu, mo, li, ch, hP, hQ, hMt, hS, hBk, hLa, hLk⟩⟩
