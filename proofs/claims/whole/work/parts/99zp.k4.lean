/-! K: calls of both -/
theorem K_need {l : Launch} (hl : l.stackTraces = false) {u v : St} (hR : Rel u v) (a1 : Int) : Ct l yX9_need cX9_need 2 (some .int) 12 1 LX u [aR 0, aI a1] (okI (fun r u' => Cn l yX10_need cX10_need 4 (some .int) 3 LM v [aR 0, aI a1] (okI (fun r' v' => v'.1 0 0 = 0 ∧ r' = r ∧ Rel u' v')))) (fun x u' => ∃ k : Int, (x, k) ∈ ([(3, 1)] : List (Nat × Int)) ∧ Cn l yX10_need cX10_need 4 (some .int) 3 LM v [aR 0, aI a1] (okI (fun r' v' => v'.1 0 0 = k ∧ Rel u' v'))) := by
  obtain ⟨hT, hF, hW, b, N, I, wt, tc, tz, lt, st, sf, bu, mo, li, ch, hP, hQ, hMt, hS, hBk, hLa, hLk⟩ := hR
  obtain ⟨fN, fQx, fQm, fTx, fTm, fRs, fTa, fB, fLe, fFt, fWl⟩ := facts hP hQ hMt
  obtain ⟨pb, pA, p14, p15, p16, p17, mE, ms, mw, mso, mal, mta, mha, m6, m7, m12, m16⟩ := id hP
  obtain ⟨qA, q6, mqA, m29, bo1, bo2, by1⟩ := id hQ
  obtain ⟨tI, t6, mmA, m39⟩ := id hMt
  obtain ⟨s4, s5, s6, s7, v50, v51, v52, v53, cS, moS, buS, tkS⟩ := id hS
  obtain ⟨hB, hLt, hSg, hWd, hAl, hSn, hPl⟩ := id pA
  have h100 : Wn b N ≤ 100 := by unfold Wn; omega
  have h14 := Sn_le b N
  have hX : wp_Picker_need (u.1 13) (u.1 19) (u.1 40) (u.1 3 17) (u.1 18 6) (u.1 37 5) (u.1 39 4) (u.1 39 5) (u.1 39 6) (u.1 39 7) (u.1 39 8) (u.1 39 9) (u.2 33) a1 (fun r o0 o1 o2 o3 o4 o5 => (1 ≤ a1 ∧ a1 ≤ 1008) ∧ NdP (Sn b N) I wt (leN b N) (taN b N I (mch b N tc tz lt st)) (tkl b N li) mo a1.toNat r) (fun x o0 o1 o2 o3 o4 o5 => (x = 3 ∧ (¬ (1 ≤ a1 ∧ a1 ≤ 1008)))) := by
    rw [p17, q6, s5]
    exact b_needQ fQx fTa fLe tkS (tkl_sy b N li) (tkl_ir b N li) moS (fun w e h1 h2 r y1 y2 y3 y4 y5 y6 h => ⟨by omega, by rw [e, Int.toNat_natCast]; exact h⟩) (fun h => ⟨rfl, h⟩)
  have hM : wp_M_need (v.1 7) (v.1 8) (v.1 9) (v.1 10) (v.1 11) (v.1 12) (v.1 24) (v.1 25) (v.1 28) (v.1 29) (v.1 31) (v.1 33) (v.1 0 0) (v.1 0 12) (v.1 0 16) (v.1 0 29) (v.1 0 39) (v.1 0 42) (v.1 0 43) (v.1 0 51) (v.1 0 52) a1 (fun r o0 o1 o2 o3 o4 o5 o6 => ((1 ≤ a1 ∧ a1 ≤ 1008) ∧ o4 = 0 ∧ NdP (Sn b N) I wt (leN b N) (taN b N I (mch b N tc tz lt st)) (tkl b N li) mo a1.toNat r ∧ (o5 = 0 ∨ (o5 = 1 ∧ StA (Sn b N) I wt (taN b N I (mch b N tc tz lt st)) (leN b N) o0 o1)) ∧ (o6 = 0 ∨ (o6 = 1 ∧ TkA (Sn b N) (tkl b N li) o3))) ∨ (o4 = 1 ∧ (¬ (1 ≤ a1 ∧ a1 ≤ 1008)) ∧ (o5 = 0 ∨ (o5 = 1 ∧ StA (Sn b N) I wt (taN b N I (mch b N tc tz lt st)) (leN b N) o0 o1)) ∧ (o6 = 0 ∨ (o6 = 1 ∧ TkA (Sn b N) (tkl b N li) o3)))) := by
    rw [m12, m16, m29, m39, v51, v52]
    exact b_MneedQ fB hLa hLk (fun w e h1 h2 r wo' ln' ins' tk' h8 h9 h => .inl ⟨by omega, rfl, by rw [e, Int.toNat_natCast]; exact h, ⟨.inr ⟨rfl, h8⟩, .inr ⟨rfl, h9⟩⟩⟩) (fun h => .inr ⟨rfl, h, hLa, hLk⟩)
  refine (s_Picker_need l hl u a1 _ _ hX).mono (fun r w1 h => ?_) (fun x w1 h => ?_)
  · obtain ⟨z, e, o0, o1, o2, o3, o4, o5, rfl, hv⟩ := h
    refine ⟨_, rfl, z, e, (s_M_need l v a1 _ hM).mono fun r2 w2 h2 => ?_⟩
    obtain ⟨z2, e2, n0, n1, n2, n3, n4, n5, n6, rfl, hv2⟩ := h2
    rcases hv2 with hv2 | hv2
    · exact ⟨_, rfl, z2, e2, hv2.2.1, hv2.2.2.1.uniq hv.2, ⟨hT, hF, hW, b, N, I, wt, tc, tz, lt, st, sf, bu, mo, li, ch, hP, hQ, hMt, hS, hBk, hv2.2.2.2.1, hv2.2.2.2.2⟩⟩
    · exfalso; have g1 := hv.1; have g2 := hv2.2.1; omega
  · obtain ⟨o0, o1, o2, o3, o4, o5, hpj, hE⟩ := h
    refine ⟨_, hpj, ?_⟩
    rcases hE with hE
    · refine ⟨1, by rw [hE.1]; decide, (s_M_need l v a1 _ hM).mono fun r2 w2 h2 => ?_⟩
      obtain ⟨z2, e2, n0, n1, n2, n3, n4, n5, n6, rfl, hv2⟩ := h2
      rcases hv2 with hv2 | hv2
      · exfalso; have g1 := hv2.1; have g2 := hE.2; omega
      · exact ⟨_, rfl, z2, e2, hv2.1, ⟨hT, hF, hW, b, N, I, wt, tc, tz, lt, st, sf, bu, mo, li, ch, hP, hQ, hMt, hS, hBk, hv2.2.2.1, hv2.2.2.2⟩⟩
theorem K_loss {l : Launch} (hl : l.stackTraces = false) {u v : St} (hR : Rel u v) (a1 : Int) : Ct l yX9_loss cX9_loss 2 (some .int) 13 1 LX u [aR 0, aI a1] (okI (fun r u' => Cn l yX10_loss cX10_loss 3 (some .int) 5 LM v [aR 0, aI a1] (okI (fun r' v' => v'.1 0 0 = 0 ∧ r' = r ∧ Rel u' v')))) (fun x u' => ∃ k : Int, (x, k) ∈ ([(1, 1)] : List (Nat × Int)) ∧ Cn l yX10_loss cX10_loss 3 (some .int) 5 LM v [aR 0, aI a1] (okI (fun r' v' => v'.1 0 0 = k ∧ Rel u' v'))) := by
  obtain ⟨hT, hF, hW, b, N, I, wt, tc, tz, lt, st, sf, bu, mo, li, ch, hP, hQ, hMt, hS, hBk, hLa, hLk⟩ := hR
  obtain ⟨fN, fQx, fQm, fTx, fTm, fRs, fTa, fB, fLe, fFt, fWl⟩ := facts hP hQ hMt
  obtain ⟨pb, pA, p14, p15, p16, p17, mE, ms, mw, mso, mal, mta, mha, m6, m7, m12, m16⟩ := id hP
  obtain ⟨qA, q6, mqA, m29, bo1, bo2, by1⟩ := id hQ
  obtain ⟨tI, t6, mmA, m39⟩ := id hMt
  obtain ⟨s4, s5, s6, s7, v50, v51, v52, v53, cS, moS, buS, tkS⟩ := id hS
  obtain ⟨hB, hLt, hSg, hWd, hAl, hSn, hPl⟩ := id pA
  have h100 : Wn b N ≤ 100 := by unfold Wn; omega
  have h14 := Sn_le b N
  have hX : wp_Picker_loss (u.1 13) (u.1 19) (u.1 40) (u.1 3 17) (u.1 18 6) (u.1 37 4) (u.1 37 5) (u.1 37 10) (u.1 37 11) (u.1 39 4) (u.1 39 5) (u.1 39 6) (u.1 39 7) (u.1 39 8) (u.1 39 9) (u.2 33) a1 (fun r o0 o1 o2 o3 o4 o5 o6 o7 => (0 ≤ a1 ∧ a1 < (Sn b N : Int)) ∧ (∃ x y : Nat, BsP (Sn b N) I wt (leN b N) (taN b N I (mch b N tc tz lt st)) (tkl b N li) mo bu 0 x ∧ BsP (Sn b N) I wt (leN b N) (taN b N I (mch b N tc tz lt st)) (tkl b N li) mo bu (2 ^ a1.toNat) y ∧ r = (wZ (Sn b N) I wt (taN b N I (mch b N tc tz lt st)) x : Int) - wZ (Sn b N) I wt (taN b N I (mch b N tc tz lt st)) y) ∧ (o0 = 0 ∨ (o0 = 1 ∧ ∃ x : Nat, o1 = x ∧ BsP (Sn b N) I wt (leN b N) (taN b N I (mch b N tc tz lt st)) (tkl b N li) mo bu 0 x))) (fun x o0 o1 o2 o3 o4 o5 o6 o7 => (x = 1 ∧ (¬ (0 ≤ a1 ∧ a1 < (Sn b N : Int))) ∧ (o0 = 0 ∨ (o0 = 1 ∧ ∃ x : Nat, o1 = x ∧ BsP (Sn b N) I wt (leN b N) (taN b N I (mch b N tc tz lt st)) (tkl b N li) mo bu 0 x)))) := by
    rw [p17, q6, s4, s5]
    exact b_lossQ fQx fTa fLe tkS (tkl_sy b N li) (tkl_ir b N li) moS buS hBk (fun s e h1 x y y1 y2 y3 y4 y5 y6 hx hy => ⟨by omega, ⟨x, y, hx, by rw [e, Int.toNat_natCast]; exact hy, rfl⟩, .inr ⟨rfl, x, rfl, hx⟩⟩) (fun h => ⟨rfl, h, hBk⟩)
  have hM : wp_M_loss (v.1 7) (v.1 8) (v.1 9) (v.1 10) (v.1 11) (v.1 12) (v.1 24) (v.1 25) (v.1 28) (v.1 29) (v.1 31) (v.1 33) (v.1 0 0) (v.1 0 12) (v.1 0 16) (v.1 0 29) (v.1 0 39) (v.1 0 42) (v.1 0 43) (v.1 0 50) (v.1 0 51) (v.1 0 52) a1 (fun r o0 o1 o2 o3 o4 o5 o6 => ((0 ≤ a1 ∧ a1 < (Sn b N : Int)) ∧ o4 = 0 ∧ (∃ x y : Nat, BsP (Sn b N) I wt (leN b N) (taN b N I (mch b N tc tz lt st)) (tkl b N li) mo bu 0 x ∧ BsP (Sn b N) I wt (leN b N) (taN b N I (mch b N tc tz lt st)) (tkl b N li) mo bu (2 ^ a1.toNat) y ∧ r = (wZ (Sn b N) I wt (taN b N I (mch b N tc tz lt st)) x : Int) - wZ (Sn b N) I wt (taN b N I (mch b N tc tz lt st)) y) ∧ (o5 = 0 ∨ (o5 = 1 ∧ StA (Sn b N) I wt (taN b N I (mch b N tc tz lt st)) (leN b N) o0 o1)) ∧ (o6 = 0 ∨ (o6 = 1 ∧ TkA (Sn b N) (tkl b N li) o3))) ∨ (o4 = 1 ∧ (¬ (0 ≤ a1 ∧ a1 < (Sn b N : Int))) ∧ (o5 = 0 ∨ (o5 = 1 ∧ StA (Sn b N) I wt (taN b N I (mch b N tc tz lt st)) (leN b N) o0 o1)) ∧ (o6 = 0 ∨ (o6 = 1 ∧ TkA (Sn b N) (tkl b N li) o3)))) := by
    rw [m12, m16, m29, m39, v50, v51, v52]
    exact b_Mloss fB hLa hLk (fun s e h1 x y wo' ln' ins' tk' h8 h9 hx hy => .inl ⟨by omega, rfl, ⟨x, y, hx, by rw [e, Int.toNat_natCast]; exact hy, rfl⟩, ⟨.inr ⟨rfl, h8⟩, .inr ⟨rfl, h9⟩⟩⟩) (fun h => .inr ⟨rfl, h, hLa, hLk⟩) (fun x => Nat.le_trans (wZ_le fQm x) (by decide))
  refine (s_Picker_loss l hl u a1 _ _ hX).mono (fun r w1 h => ?_) (fun x w1 h => ?_)
  · obtain ⟨z, e, o0, o1, o2, o3, o4, o5, o6, o7, rfl, hv⟩ := h
    refine ⟨_, rfl, z, e, (s_M_loss l v a1 _ hM).mono fun r2 w2 h2 => ?_⟩
    obtain ⟨z2, e2, n0, n1, n2, n3, n4, n5, n6, rfl, hv2⟩ := h2
    rcases hv2 with hv2 | hv2
    · exact ⟨_, rfl, z2, e2, hv2.2.1, (by obtain ⟨x, y, d1, d2, d3⟩ := hv.2.1; obtain ⟨x9, y9, c1, c2, c3⟩ := hv2.2.2.1; rw [c3, d3, Bst.uniq c1 d1, Bst.uniq c2 d2]), ⟨hT, hF, hW, b, N, I, wt, tc, tz, lt, st, sf, bu, mo, li, ch, hP, hQ, hMt, hS, hv.2.2, hv2.2.2.2.1, hv2.2.2.2.2⟩⟩
    · exfalso; have g1 := hv.1; have g2 := hv2.2.1; omega
  · obtain ⟨o0, o1, o2, o3, o4, o5, o6, o7, hpj, hE⟩ := h
    refine ⟨_, hpj, ?_⟩
    rcases hE with hE
    · refine ⟨1, by rw [hE.1]; decide, (s_M_loss l v a1 _ hM).mono fun r2 w2 h2 => ?_⟩
      obtain ⟨z2, e2, n0, n1, n2, n3, n4, n5, n6, rfl, hv2⟩ := h2
      rcases hv2 with hv2 | hv2
      · exfalso; have g1 := hv2.1; have g2 := hE.2.1; omega
      · exact ⟨_, rfl, z2, e2, hv2.1, ⟨hT, hF, hW, b, N, I, wt, tc, tz, lt, st, sf, bu, mo, li, ch, hP, hQ, hMt, hS, hE.2.2, hv2.2.2.1, hv2.2.2.2⟩⟩
theorem K_quote {l : Launch} (hl : l.stackTraces = false) {u v : St} (hR : Rel u v) (a1 : Int) : Ct l yX9_quote cX9_quote 2 (some .int) 9 1 LX u [aR 0, aI a1] (okI (fun r u' => Cn l yX10_quote cX10_quote 6 (some .int) 7 LM v [aR 0, aI a1] (okI (fun r' v' => v'.1 0 0 = 0 ∧ r' = r ∧ Rel u' v')))) (fun x u' => ∃ k : Int, (x, k) ∈ ([(3, 1)] : List (Nat × Int)) ∧ Cn l yX10_quote cX10_quote 6 (some .int) 7 LM v [aR 0, aI a1] (okI (fun r' v' => v'.1 0 0 = k ∧ Rel u' v'))) := by
  obtain ⟨hT, hF, hW, b, N, I, wt, tc, tz, lt, st, sf, bu, mo, li, ch, hP, hQ, hMt, hS, hBk, hLa, hLk⟩ := hR
  obtain ⟨fN, fQx, fQm, fTx, fTm, fRs, fTa, fB, fLe, fFt, fWl⟩ := facts hP hQ hMt
  obtain ⟨pb, pA, p14, p15, p16, p17, mE, ms, mw, mso, mal, mta, mha, m6, m7, m12, m16⟩ := id hP
  obtain ⟨qA, q6, mqA, m29, bo1, bo2, by1⟩ := id hQ
  obtain ⟨tI, t6, mmA, m39⟩ := id hMt
  obtain ⟨s4, s5, s6, s7, v50, v51, v52, v53, cS, moS, buS, tkS⟩ := id hS
  obtain ⟨hB, hLt, hSg, hWd, hAl, hSn, hPl⟩ := id pA
  have h100 : Wn b N ≤ 100 := by unfold Wn; omega
  have h14 := Sn_le b N
  have hX : wp_Picker_quote (u.1 4) (u.1 6) (u.1 7) (u.1 8) (u.1 9) (u.1 19) (u.1 20) (u.1 30) (u.1 31) (u.1 42) (u.1 43) (u.1 3 14) (u.1 3 16) (u.1 18 5) (u.1 18 6) (u.1 34 5) (u.1 34 6) (u.1 34 7) (u.1 34 8) (u.1 41 6) (u.1 41 7) (u.1 41 8) a1 (fun r o0 o1 o2 o3 o4 o5 o6 o7 o8 => (1 ≤ a1 ∧ a1 ≤ 600) ∧ ∃ st9 : WSt, QuS b N I wt tc (mch b N tc tz lt st) sf a1.toNat st9 ∧ WrC st9 o1 o6 o7 o8 ∧ r = o6) (fun x o0 o1 o2 o3 o4 o5 o6 o7 o8 => (x = 3 ∧ (¬ (1 ≤ a1 ∧ a1 ≤ 600)) ∧ o1 = u.1 43 ∧ o6 = u.1 41 6 ∧ o7 = u.1 41 7 ∧ o8 = u.1 41 8)) := by
    rw [p14, p16, q6, pb]
    exact b_quote pA fTx fQx (fun w hw => (tI.1 w hw).1) (fun w hw => (tI.1 w hw).2.1) (fun k hk => (qA.2 k hk).2.2.1) (fun n e h1 h2 la' wr' f l w wh len sb tb st9 hs hc => ⟨by omega, st9, by rw [e, Int.toNat_natCast]; exact hs, hc, rfl⟩) (fun h => ⟨rfl, h, rfl, rfl, rfl, rfl⟩)
  have hM : wp_M_quote (v.1 3) (v.1 4) (v.1 5) (v.1 6) (v.1 9) (v.1 10) (v.1 12) (v.1 13) (v.1 15) (v.1 24) (v.1 25) (v.1 26) (v.1 27) (v.1 30) (v.1 32) (v.1 35) (v.1 36) (v.1 37) (v.1 38) (v.1 39) (v.1 0 0) (v.1 0 7) (v.1 0 12) (v.1 0 16) (v.1 0 29) (v.1 0 39) (v.1 0 60) (v.1 0 61) (v.1 0 62) (v.1 0 67) (v.1 0 68) a1 (fun r o0 o1 o2 o3 o4 o5 o6 o7 o8 o9 o10 o11 o12 => ((1 ≤ a1 ∧ a1 ≤ 600) ∧ o7 = 0 ∧ (∃ st9 : WSt, QuS b N I wt tc (mch b N tc tz lt st) sf a1.toNat st9 ∧ MrC st9 o2 o8 o9 o10 ∧ r = o8) ∧ o11 = 0 ∧ o12 = 0) ∨ (o7 = 1 ∧ (¬ (1 ≤ a1 ∧ a1 ≤ 600)) ∧ o2 = v.1 35 ∧ o8 = v.1 0 60 ∧ o9 = v.1 0 61 ∧ o10 = v.1 0 62 ∧ o11 = 0 ∧ o12 = 0)) := by
    rw [m7, m12, m16, m29, m39, hW.2.1, hW.2.2]
    exact b_Mquote hB mE ms mw mta fTm fRs fQm mmA (fun k hk => (mqA.2 k hk).2.2.1) (fun h => .inr ⟨rfl, h, rfl, rfl, rfl, rfl, rfl, rfl⟩) (fun n inw' win' mo' o1' o2' o3' o4' len' sm' tm' st9 e h1 h2 hs hc => .inl ⟨by omega, rfl, ⟨st9, by rw [e, Int.toNat_natCast]; exact hs, hc, rfl⟩, rfl, rfl⟩)
  refine (s_Picker_quote l hl u a1 _ _ hX).mono (fun r w1 h => ?_) (fun x w1 h => ?_)
  · obtain ⟨z, e, o0, o1, o2, o3, o4, o5, o6, o7, o8, rfl, hv⟩ := h
    refine ⟨_, rfl, z, e, (s_M_quote l v a1 _ hM).mono fun r2 w2 h2 => ?_⟩
    obtain ⟨z2, e2, n0, n1, n2, n3, n4, n5, n6, n7, n8, n9, n10, n11, n12, rfl, hv2⟩ := h2
    rcases hv2 with hv2 | hv2
    · exact ⟨_, rfl, z2, e2, hv2.2.1, (by obtain ⟨s1, d1, d2, d3⟩ := hv.2; obtain ⟨s2, c1, c2, c3⟩ := hv2.2.2.1; cases c1.uniq d1; rw [c3, d3, c2.1, d2.1]), (by obtain ⟨s1, d1, d2, d3⟩ := hv.2; obtain ⟨⟨s2, c1, c2, c3⟩, c4, c5⟩ := hv2.2.2; cases c1.uniq d1; exact ⟨hT, hF, ⟨⟨_, d2, c2, q_out hB fTx d1⟩, c4, c5⟩, b, N, I, wt, tc, tz, lt, st, sf, bu, mo, li, ch, hP, hQ, hMt, hS, hBk, hLa, hLk⟩)⟩
    · exfalso; have g1 := hv.1; have g2 := hv2.2.1; omega
  · obtain ⟨o0, o1, o2, o3, o4, o5, o6, o7, o8, hpj, hE⟩ := h
    refine ⟨_, hpj, ?_⟩
    rcases hE with hE
    · refine ⟨1, by rw [hE.1]; decide, (s_M_quote l v a1 _ hM).mono fun r2 w2 h2 => ?_⟩
      obtain ⟨z2, e2, n0, n1, n2, n3, n4, n5, n6, n7, n8, n9, n10, n11, n12, rfl, hv2⟩ := h2
      rcases hv2 with hv2 | hv2
      · exfalso; have g1 := hv2.1; have g2 := hE.2.1; omega
      · exact ⟨_, rfl, z2, e2, hv2.1, (by obtain ⟨q0, q1, q2, q3⟩ := hE.2.2; subst q0 q1 q2 q3; obtain ⟨q0, q1, q2, q3, q4, q5⟩ := hv2.2.2; subst q0 q1 q2 q3 q4 q5; exact ⟨hT, hF, ⟨hW.1, rfl, rfl⟩, b, N, I, wt, tc, tz, lt, st, sf, bu, mo, li, ch, hP, hQ, hMt, hS, hBk, hLa, hLk⟩)⟩
theorem K_write {l : Launch} (hl : l.stackTraces = false) {u v : St} (hR : Rel u v) (a1 : Int) : Ct l yX9_write cX9_write 2 (some .int) 9 1 LX u [aR 0, aI a1] (okI (fun r u' => Cn l yX10_write cX10_write 9 (some .int) 7 LM v [aR 0, aI a1] (okI (fun r' v' => v'.1 0 0 = 0 ∧ r' = r ∧ Rel u' v')))) (fun x u' => ∃ k : Int, (x, k) ∈ ([(3, 1)] : List (Nat × Int)) ∧ Cn l yX10_write cX10_write 9 (some .int) 7 LM v [aR 0, aI a1] (okI (fun r' v' => v'.1 0 0 = k ∧ Rel u' v'))) := by
  obtain ⟨hT, hF, hW, b, N, I, wt, tc, tz, lt, st, sf, bu, mo, li, ch, hP, hQ, hMt, hS, hBk, hLa, hLk⟩ := hR
  obtain ⟨fN, fQx, fQm, fTx, fTm, fRs, fTa, fB, fLe, fFt, fWl⟩ := facts hP hQ hMt
  obtain ⟨pb, pA, p14, p15, p16, p17, mE, ms, mw, mso, mal, mta, mha, m6, m7, m12, m16⟩ := id hP
  obtain ⟨qA, q6, mqA, m29, bo1, bo2, by1⟩ := id hQ
  obtain ⟨tI, t6, mmA, m39⟩ := id hMt
  obtain ⟨s4, s5, s6, s7, v50, v51, v52, v53, cS, moS, buS, tkS⟩ := id hS
  obtain ⟨hB, hLt, hSg, hWd, hAl, hSn, hPl⟩ := id pA
  have h100 : Wn b N ≤ 100 := by unfold Wn; omega
  have h14 := Sn_le b N
  have hc14 : ch < 2 ^ 14 := Nat.lt_of_lt_of_le cS (Nat.pow_le_pow_right (by omega) h14)
  have hX : wp_Picker_write (u.1 4) (u.1 6) (u.1 7) (u.1 8) (u.1 9) (u.1 11) (u.1 12) (u.1 13) (u.1 14) (u.1 15) (u.1 19) (u.1 20) (u.1 30) (u.1 31) (u.1 42) (u.1 43) (u.1 3 14) (u.1 3 17) (u.1 18 5) (u.1 18 6) (u.1 34 5) (u.1 34 6) (u.1 34 7) (u.1 34 8) (u.1 37 7) (u.1 41 6) (u.1 41 7) (u.1 41 8) a1 (fun r o0 o1 o2 o3 o4 o5 o6 o7 o8 => (10 ≤ a1 ∧ a1 ≤ 600) ∧ ∃ (st9 : WSt) (ah : Int) (op : Bool), WrR b N I wt tc (mch b N tc tz lt st) sf a1.toNat ch (Sn b N) st9 ah op ∧ WrC (if op then addS 11 st9 else st9) o1 o6 o7 o8 ∧ r = o6) (fun x o0 o1 o2 o3 o4 o5 o6 o7 o8 => (x = 3 ∧ (¬ (10 ≤ a1 ∧ a1 ≤ 600)) ∧ o1 = u.1 43 ∧ o6 = u.1 41 6 ∧ o7 = u.1 41 7 ∧ o8 = u.1 41 8)) := by
    rw [p14, p17, q6, s7, pb]
    exact b_write pA fLe fTx fQx (fun w hw => (tI.1 w hw).1) (fun w hw => (tI.1 w hw).2.1) (fun k hk => (qA.2 k hk).2.2.1) hc14 (fun n e h1 h2 la' wr' f l w wh len sb tb st9 ah op hs hc => ⟨by omega, st9, ah, op, by rw [e, Int.toNat_natCast]; exact hs, hc, rfl⟩) (fun h => ⟨rfl, h, rfl, rfl, rfl, rfl⟩)
  have hM : wp_M_write (v.1 3) (v.1 4) (v.1 5) (v.1 6) (v.1 7) (v.1 9) (v.1 10) (v.1 12) (v.1 13) (v.1 15) (v.1 24) (v.1 25) (v.1 26) (v.1 27) (v.1 30) (v.1 32) (v.1 35) (v.1 36) (v.1 37) (v.1 38) (v.1 39) (v.1 0 0) (v.1 0 7) (v.1 0 12) (v.1 0 16) (v.1 0 29) (v.1 0 39) (v.1 0 47) (v.1 0 48) (v.1 0 49) (v.1 0 53) (v.1 0 60) (v.1 0 61) (v.1 0 62) (v.1 0 67) (v.1 0 68) a1 (fun r o0 o1 o2 o3 o4 o5 o6 o7 o8 o9 o10 o11 o12 o13 o14 o15 => ((10 ≤ a1 ∧ a1 ≤ 600) ∧ o7 = 0 ∧ (∃ (st9 : WSt) (ah : Int) (op : Bool), WrR b N I wt tc (mch b N tc tz lt st) sf a1.toNat ch (Sn b N) st9 ah op ∧ MrC (if op then addS 11 st9 else st9) o2 o11 o12 o13 ∧ r = o11) ∧ o14 = 0 ∧ o15 = 0) ∨ (o7 = 1 ∧ (¬ (10 ≤ a1 ∧ a1 ≤ 600)) ∧ o2 = v.1 35 ∧ o11 = v.1 0 60 ∧ o12 = v.1 0 61 ∧ o13 = v.1 0 62 ∧ o14 = 0 ∧ o15 = 0)) := by
    rw [m7, m12, m16, m29, m39, v53, hW.2.1, hW.2.2]
    exact b_Mwrite hB mE ms mw mta mso fFt fTm fRs fQm mmA (fun k hk => (mqA.2 k hk).2.2.1) hc14 (fun h => .inr ⟨rfl, h, rfl, rfl, rfl, rfl, rfl, rfl⟩) (fun n inw' win' mo' o1' o2' o3' o4' z1' z2' z3' len' sm' tm' st9 ah op e h1 h2 hs hc => .inl ⟨by omega, rfl, ⟨st9, ah, op, by rw [e, Int.toNat_natCast]; exact hs, hc, rfl⟩, rfl, rfl⟩)
  refine (s_Picker_write l hl u a1 _ _ hX).mono (fun r w1 h => ?_) (fun x w1 h => ?_)
  · obtain ⟨z, e, o0, o1, o2, o3, o4, o5, o6, o7, o8, rfl, hv⟩ := h
    refine ⟨_, rfl, z, e, (s_M_write l v a1 _ hM).mono fun r2 w2 h2 => ?_⟩
    obtain ⟨z2, e2, n0, n1, n2, n3, n4, n5, n6, n7, n8, n9, n10, n11, n12, n13, n14, n15, rfl, hv2⟩ := h2
    rcases hv2 with hv2 | hv2
    · exact ⟨_, rfl, z2, e2, hv2.2.1, (by obtain ⟨s1, a9, p9, d1, d2, d3⟩ := hv.2; obtain ⟨s2, b9, r9, c1, c2, c3⟩ := hv2.2.2.1; obtain ⟨g1, g2, g3⟩ := WrR.uniq c1 d1; subst g1 g2 g3; rw [c3, d3, c2.1, d2.1]), (by obtain ⟨s1, a9, p9, d1, d2, d3⟩ := hv.2; obtain ⟨⟨s2, b9, r9, c1, c2, c3⟩, c4, c5⟩ := hv2.2.2; obtain ⟨g1, g2, g3⟩ := WrR.uniq c1 d1; subst g1 g2 g3; exact ⟨hT, hF, ⟨⟨_, d2, c2, w_out hB fTx d1⟩, c4, c5⟩, b, N, I, wt, tc, tz, lt, st, sf, bu, mo, li, ch, hP, hQ, hMt, hS, hBk, hLa, hLk⟩)⟩
    · exfalso; have g1 := hv.1; have g2 := hv2.2.1; omega
  · obtain ⟨o0, o1, o2, o3, o4, o5, o6, o7, o8, hpj, hE⟩ := h
    refine ⟨_, hpj, ?_⟩
    rcases hE with hE
    · refine ⟨1, by rw [hE.1]; decide, (s_M_write l v a1 _ hM).mono fun r2 w2 h2 => ?_⟩
      obtain ⟨z2, e2, n0, n1, n2, n3, n4, n5, n6, n7, n8, n9, n10, n11, n12, n13, n14, n15, rfl, hv2⟩ := h2
      rcases hv2 with hv2 | hv2
      · exfalso; have g1 := hv2.1; have g2 := hE.2.1; omega
      · exact ⟨_, rfl, z2, e2, hv2.1, (by obtain ⟨q0, q1, q2, q3⟩ := hE.2.2; subst q0 q1 q2 q3; obtain ⟨q0, q1, q2, q3, q4, q5⟩ := hv2.2.2; subst q0 q1 q2 q3 q4 q5; exact ⟨hT, hF, ⟨hW.1, rfl, rfl⟩, b, N, I, wt, tc, tz, lt, st, sf, bu, mo, li, ch, hP, hQ, hMt, hS, hBk, hLa, hLk⟩)⟩
