/-! K: calls of both -/
theorem tdP.uniq {S x y x9 y9 : Nat} {st : Int × Int × Nat} (h : tdP S st x y) (g : tdP S st x9 y9) : x = x9 ∧ y = y9 := by
  have a1 := h.1
  have a2 := g.1
  have b1 := h.2.1
  have b2 := g.2.1
  omega
theorem K_widest {l : Launch} (hl : l.stackTraces = false) {u v : St} (hR : Rel u v) (a1 a2 : Int) : Ct l yX9_widest cX9_widest 3 (some .int) 7 2 LX u [aR 0, aI a1, aI a2] (okI (fun r u' => Cn l yX10_widest cX10_widest 3 (some .int) 3 LM v [aR 0, aI a1, aI a2] (okI (fun r' v' => v'.1 0 0 = 0 ∧ r' = r ∧ Rel u' v')))) (fun x u' => ∃ k : Int, (x, k) ∈ ([(2, 1), (3, 2)] : List (Nat × Int)) ∧ Cn l yX10_widest cX10_widest 3 (some .int) 3 LM v [aR 0, aI a1, aI a2] (okI (fun r' v' => v'.1 0 0 = k ∧ Rel u' v'))) := by
  obtain ⟨hT, hF, hW, b, N, I, wt, tc, tz, lt, st, sf, bu, mo, li, ch, hP, hQ, hMt, hS, hBk, hLa, hLk⟩ := hR
  obtain ⟨fN, fQx, fQm, fTx, fTm, fRs, fTa, fB, fLe, fFt, fWl⟩ := facts hP hQ hMt
  obtain ⟨pb, pA, p14, p15, p16, p17, mE, ms, mw, mso, mal, mta, mha, m6, m7, m12, m16⟩ := id hP
  obtain ⟨qA, q6, mqA, m29, bo1, bo2, by1⟩ := id hQ
  obtain ⟨tI, t6, mmA, m39⟩ := id hMt
  obtain ⟨s4, s5, s6, s7, v50, v51, v52, v53, cS, moS, buS, tkS⟩ := id hS
  obtain ⟨hB, hLt, hSg, hWd, hAl, hSn, hPl⟩ := id pA
  have h100 : Wn b N ≤ 100 := by unfold Wn; omega
  have h14 := Sn_le b N
  have hX : wp_Picker_widest (u.1 6) (u.1 7) (u.1 8) (u.1 19) (u.1 20) (u.1 30) (u.1 31) (u.1 3 16) (u.1 18 6) (u.1 34 5) (u.1 34 6) (u.1 34 7) (u.1 34 8) a1 a2 (fun r o0 o1 o2 o3 => ((0 ≤ a2 ∧ a2 ≤ 3) ∧ (1 ≤ a1 ∧ a1 ≤ 600)) ∧ ∃ f l w : Int, WRes (Wn b N) I wt tc (mch b N tc tz lt st) (FN b N) (TN b N) 0 (Wn b N) a1.toNat f l w ∧ r = vwi (FN b N) (TN b N) a2 f l w) (fun x o0 o1 o2 o3 => (x = 2 ∧ (¬ (0 ≤ a2 ∧ a2 ≤ 3))) ∨ (x = 3 ∧ ((0 ≤ a2 ∧ a2 ≤ 3) ∧ ¬ (1 ≤ a1 ∧ a1 ≤ 600)))) := by
    rw [p16, q6]
    exact b_wid fN fWl fTx fQx (fun w hw => (tI.1 w hw).1) (fun w hw => (tI.1 w hw).2.1) (fun n e h1 h2 g f l w hr f' l' w' wh' => ⟨⟨g, by omega, by omega⟩, f, l, w, by rw [e, Int.toNat_natCast]; exact hr, rfl⟩) (fun h => .inl ⟨rfl, h⟩) (fun h1 h2 => .inr ⟨rfl, h1, h2⟩)
  have hM : wp_M_widest (v.1 5) (v.1 6) (v.1 12) (v.1 13) (v.1 27) (v.1 30) (v.1 32) (v.1 0 0) (v.1 0 12) (v.1 0 29) a1 a2 (fun r o0 o1 o2 => (((0 ≤ a2 ∧ a2 ≤ 3) ∧ (1 ≤ a1 ∧ a1 ≤ 600)) ∧ o2 = 0 ∧ ∃ f l w : Int, WRes (Wn b N) I wt tc (mch b N tc tz lt st) (FN b N) (TN b N) 0 (Wn b N) a1.toNat f l w ∧ r = vwi (FN b N) (TN b N) a2 f l w) ∨ (o2 = 1 ∧ (¬ (0 ≤ a2 ∧ a2 ≤ 3))) ∨ (o2 = 2 ∧ ((0 ≤ a2 ∧ a2 ≤ 3) ∧ ¬ (1 ≤ a1 ∧ a1 ≤ 600)))) := by
    rw [m12, m29]
    exact b_Mwid fN mw fTm fQm mmA (fun n e h1 h2 g f l w hr inw' win' => .inl ⟨⟨g, by omega, by omega⟩, rfl, f, l, w, by rw [e, Int.toNat_natCast]; exact hr, rfl⟩) (fun h => .inr (.inl ⟨rfl, h⟩)) (fun h1 h2 => .inr (.inr ⟨rfl, h1, h2⟩))
  refine (s_Picker_widest l hl u a1 a2 _ _ hX).mono (fun r w1 h => ?_) (fun x w1 h => ?_)
  · obtain ⟨z, e, o0, o1, o2, o3, rfl, hv⟩ := h
    refine ⟨_, rfl, z, e, (s_M_widest l v a1 a2 _ hM).mono fun r2 w2 h2 => ?_⟩
    obtain ⟨z2, e2, n0, n1, n2, rfl, hv2⟩ := h2
    rcases hv2 with hv2 | hv2 | hv2
    · exact ⟨_, rfl, z2, e2, hv2.2.1, (by obtain ⟨f, l9, w, hr, e1⟩ := hv.2; obtain ⟨f2, l2, w2, hr2, e3⟩ := hv2.2.2; obtain ⟨g1, g2, g3⟩ := hr.uniq hr2; rw [e3, e1, g1, g2, g3]), ⟨hT, hF, hW, b, N, I, wt, tc, tz, lt, st, sf, bu, mo, li, ch, hP, hQ, hMt, hS, hBk, hLa, hLk⟩⟩
    · exfalso; have g1 := hv.1; have g2 := hv2.2; omega
    · exfalso; have g1 := hv.1; have g2 := hv2.2; omega
  · obtain ⟨o0, o1, o2, o3, hpj, hE⟩ := h
    refine ⟨_, hpj, ?_⟩
    rcases hE with hE | hE
    · refine ⟨1, by rw [hE.1]; decide, (s_M_widest l v a1 a2 _ hM).mono fun r2 w2 h2 => ?_⟩
      obtain ⟨z2, e2, n0, n1, n2, rfl, hv2⟩ := h2
      rcases hv2 with hv2 | hv2 | hv2
      · exfalso; have g1 := hv2.1; have g2 := hE.2; omega
      · exact ⟨_, rfl, z2, e2, hv2.1, ⟨hT, hF, hW, b, N, I, wt, tc, tz, lt, st, sf, bu, mo, li, ch, hP, hQ, hMt, hS, hBk, hLa, hLk⟩⟩
      · exfalso; have g1 := hv2.2; have g2 := hE.2; omega
    · refine ⟨2, by rw [hE.1]; decide, (s_M_widest l v a1 a2 _ hM).mono fun r2 w2 h2 => ?_⟩
      obtain ⟨z2, e2, n0, n1, n2, rfl, hv2⟩ := h2
      rcases hv2 with hv2 | hv2 | hv2
      · exfalso; have g1 := hv2.1; have g2 := hE.2; omega
      · exfalso; have g1 := hv2.2; have g2 := hE.2; omega
      · exact ⟨_, rfl, z2, e2, hv2.1, ⟨hT, hF, hW, b, N, I, wt, tc, tz, lt, st, sf, bu, mo, li, ch, hP, hQ, hMt, hS, hBk, hLa, hLk⟩⟩
theorem K_cut {l : Launch} (hl : l.stackTraces = false) {u v : St} (hR : Rel u v) (a1 a2 a3 : Int) : Ct l yX9_cut cX9_cut 4 (some .int) 7 3 LX u [aR 0, aI a1, aI a2, aI a3] (okI (fun r u' => Cn l yX10_cut cX10_cut 5 (some .int) 4 LM v [aR 0, aI a1, aI a2, aI a3] (okI (fun r' v' => v'.1 0 0 = 0 ∧ r' = r ∧ Rel u' v')))) (fun x u' => ∃ k : Int, (x, k) ∈ ([(1, 1), (2, 2), (3, 3)] : List (Nat × Int)) ∧ Cn l yX10_cut cX10_cut 5 (some .int) 4 LM v [aR 0, aI a1, aI a2, aI a3] (okI (fun r' v' => v'.1 0 0 = k ∧ Rel u' v'))) := by
  obtain ⟨hT, hF, hW, b, N, I, wt, tc, tz, lt, st, sf, bu, mo, li, ch, hP, hQ, hMt, hS, hBk, hLa, hLk⟩ := hR
  obtain ⟨fN, fQx, fQm, fTx, fTm, fRs, fTa, fB, fLe, fFt, fWl⟩ := facts hP hQ hMt
  obtain ⟨pb, pA, p14, p15, p16, p17, mE, ms, mw, mso, mal, mta, mha, m6, m7, m12, m16⟩ := id hP
  obtain ⟨qA, q6, mqA, m29, bo1, bo2, by1⟩ := id hQ
  obtain ⟨tI, t6, mmA, m39⟩ := id hMt
  obtain ⟨s4, s5, s6, s7, v50, v51, v52, v53, cS, moS, buS, tkS⟩ := id hS
  obtain ⟨hB, hLt, hSg, hWd, hAl, hSn, hPl⟩ := id pA
  have h100 : Wn b N ≤ 100 := by unfold Wn; omega
  have h14 := Sn_le b N
  have hX : wp_Picker_cut (u.1 6) (u.1 7) (u.1 8) (u.1 13) (u.1 14) (u.1 15) (u.1 19) (u.1 20) (u.1 30) (u.1 31) (u.1 3 17) (u.1 18 6) (u.1 34 5) (u.1 34 6) (u.1 34 7) (u.1 34 8) a1 a2 a3 (fun r o0 o1 o2 o3 => ((0 ≤ a1 ∧ a1 < (Sn b N : Int)) ∧ (0 ≤ a3 ∧ a3 ≤ 2) ∧ (10 ≤ a2 ∧ a2 ≤ 600)) ∧ ∃ f l wh : Int, CtN b N I wt tc (mch b N tc tz lt st) a2.toNat a1.toNat f l wh ∧ r = cvl a3 f l wh) (fun x o0 o1 o2 o3 => (x = 1 ∧ (¬ (0 ≤ a1 ∧ a1 < (Sn b N : Int)))) ∨ (x = 2 ∧ ((0 ≤ a1 ∧ a1 < (Sn b N : Int)) ∧ ¬ (0 ≤ a3 ∧ a3 ≤ 2))) ∨ (x = 3 ∧ ((0 ≤ a1 ∧ a1 < (Sn b N : Int)) ∧ (0 ≤ a3 ∧ a3 ≤ 2) ∧ ¬ (10 ≤ a2 ∧ a2 ≤ 600)))) := by
    rw [p17, q6]
    exact b_cutQ fN fWl fTx fQx (fun w hw => (tI.1 w hw).1) (fun w hw => (tI.1 w hw).2.1) hPl fLe (fun s n e e3 h1 h2 h3 g f l wh hr f' l' w' wh' => ⟨⟨⟨by omega, by omega⟩, g, by omega, by omega⟩, f, l, wh, by rw [e, e3, Int.toNat_natCast, Int.toNat_natCast]; exact hr, rfl⟩) (fun h => .inl ⟨rfl, h⟩) (fun h1 h2 => .inr (.inl ⟨rfl, h1, h2⟩)) (fun h1 h2 h3 => .inr (.inr ⟨rfl, h1, h2, h3⟩))
  have hM : wp_M_cut (v.1 5) (v.1 6) (v.1 7) (v.1 9) (v.1 10) (v.1 12) (v.1 13) (v.1 27) (v.1 30) (v.1 32) (v.1 0 0) (v.1 0 12) (v.1 0 16) (v.1 0 29) (v.1 0 47) (v.1 0 48) (v.1 0 49) a1 a2 a3 (fun r o0 o1 o2 o3 o4 o5 => (((0 ≤ a1 ∧ a1 < (Sn b N : Int)) ∧ (0 ≤ a3 ∧ a3 ≤ 2) ∧ (10 ≤ a2 ∧ a2 ≤ 600)) ∧ o2 = 0 ∧ ∃ f l wh : Int, CtN b N I wt tc (mch b N tc tz lt st) a2.toNat a1.toNat f l wh ∧ r = cvl a3 f l wh) ∨ (o2 = 1 ∧ (¬ (0 ≤ a1 ∧ a1 < (Sn b N : Int)))) ∨ (o2 = 2 ∧ ((0 ≤ a1 ∧ a1 < (Sn b N : Int)) ∧ ¬ (0 ≤ a3 ∧ a3 ≤ 2))) ∨ (o2 = 3 ∧ ((0 ≤ a1 ∧ a1 < (Sn b N : Int)) ∧ (0 ≤ a3 ∧ a3 ≤ 2) ∧ ¬ (10 ≤ a2 ∧ a2 ≤ 600)))) := by
    rw [m12, m16, m29]
    exact b_McutQ fN mw fTm fQm mmA mso fFt (fun s n e e3 h1 h2 h3 g f l wh hr inw' win' f' l' wh' => .inl ⟨⟨⟨by omega, by omega⟩, g, by omega, by omega⟩, rfl, f, l, wh, by rw [e, e3, Int.toNat_natCast, Int.toNat_natCast]; exact hr, rfl⟩) (fun h => .inr (.inl ⟨rfl, h⟩)) (fun h1 h2 => .inr (.inr (.inl ⟨rfl, h1, h2⟩))) (fun h1 h2 h3 => .inr (.inr (.inr ⟨rfl, h1, h2, h3⟩)))
  refine (s_Picker_cut l hl u a1 a2 a3 _ _ hX).mono (fun r w1 h => ?_) (fun x w1 h => ?_)
  · obtain ⟨z, e, o0, o1, o2, o3, rfl, hv⟩ := h
    refine ⟨_, rfl, z, e, (s_M_cut l v a1 a2 a3 _ hM).mono fun r2 w2 h2 => ?_⟩
    obtain ⟨z2, e2, n0, n1, n2, n3, n4, n5, rfl, hv2⟩ := h2
    rcases hv2 with hv2 | hv2 | hv2 | hv2
    · exact ⟨_, rfl, z2, e2, hv2.2.1, (by obtain ⟨f, l9, w, hr, e1⟩ := hv.2; obtain ⟨f2, l2, w2, hr2, e3⟩ := hv2.2.2; obtain ⟨g1, g2, g3⟩ := CutP.uniq hr hr2; rw [e3, e1, g1, g2, g3]), ⟨hT, hF, hW, b, N, I, wt, tc, tz, lt, st, sf, bu, mo, li, ch, hP, hQ, hMt, hS, hBk, hLa, hLk⟩⟩
    · exfalso; have g1 := hv.1; have g2 := hv2.2; omega
    · exfalso; have g1 := hv.1; have g2 := hv2.2; omega
    · exfalso; have g1 := hv.1; have g2 := hv2.2; omega
  · obtain ⟨o0, o1, o2, o3, hpj, hE⟩ := h
    refine ⟨_, hpj, ?_⟩
    rcases hE with hE | hE | hE
    · refine ⟨1, by rw [hE.1]; decide, (s_M_cut l v a1 a2 a3 _ hM).mono fun r2 w2 h2 => ?_⟩
      obtain ⟨z2, e2, n0, n1, n2, n3, n4, n5, rfl, hv2⟩ := h2
      rcases hv2 with hv2 | hv2 | hv2 | hv2
      · exfalso; have g1 := hv2.1; have g2 := hE.2; omega
      · exact ⟨_, rfl, z2, e2, hv2.1, ⟨hT, hF, hW, b, N, I, wt, tc, tz, lt, st, sf, bu, mo, li, ch, hP, hQ, hMt, hS, hBk, hLa, hLk⟩⟩
      · exfalso; have g1 := hv2.2; have g2 := hE.2; omega
      · exfalso; have g1 := hv2.2; have g2 := hE.2; omega
    · refine ⟨2, by rw [hE.1]; decide, (s_M_cut l v a1 a2 a3 _ hM).mono fun r2 w2 h2 => ?_⟩
      obtain ⟨z2, e2, n0, n1, n2, n3, n4, n5, rfl, hv2⟩ := h2
      rcases hv2 with hv2 | hv2 | hv2 | hv2
      · exfalso; have g1 := hv2.1; have g2 := hE.2; omega
      · exfalso; have g1 := hv2.2; have g2 := hE.2; omega
      · exact ⟨_, rfl, z2, e2, hv2.1, ⟨hT, hF, hW, b, N, I, wt, tc, tz, lt, st, sf, bu, mo, li, ch, hP, hQ, hMt, hS, hBk, hLa, hLk⟩⟩
      · exfalso; have g1 := hv2.2; have g2 := hE.2; omega
    · refine ⟨3, by rw [hE.1]; decide, (s_M_cut l v a1 a2 a3 _ hM).mono fun r2 w2 h2 => ?_⟩
      obtain ⟨z2, e2, n0, n1, n2, n3, n4, n5, rfl, hv2⟩ := h2
      rcases hv2 with hv2 | hv2 | hv2 | hv2
      · exfalso; have g1 := hv2.1; have g2 := hE.2; omega
      · exfalso; have g1 := hv2.2; have g2 := hE.2; omega
      · exfalso; have g1 := hv2.2; have g2 := hE.2; omega
      · exact ⟨_, rfl, z2, e2, hv2.1, ⟨hT, hF, hW, b, N, I, wt, tc, tz, lt, st, sf, bu, mo, li, ch, hP, hQ, hMt, hS, hBk, hLa, hLk⟩⟩
theorem K_set {l : Launch} (hl : l.stackTraces = false) {u v : St} (hR : Rel u v) (a1 a2 : Int) (hr : rng a1) : Ct l yX9_set cX9_set 3 (some .int) 7 2 LX u [aR 0, aI a1, aI a2] (okI (fun r u' => Cn l yX10_set cX10_set 5 (some .int) 4 LM v [aR 0, aI a1, aI a2] (okI (fun r' v' => v'.1 0 0 = 0 ∧ r' = r ∧ Rel u' v')))) (fun x u' => ∃ k : Int, (x, k) ∈ ([(2, 1), (3, 2)] : List (Nat × Int)) ∧ Cn l yX10_set cX10_set 5 (some .int) 4 LM v [aR 0, aI a1, aI a2] (okI (fun r' v' => v'.1 0 0 = k ∧ Rel u' v'))) := by
  obtain ⟨hT, hF, hW, b, N, I, wt, tc, tz, lt, st, sf, bu, mo, li, ch, hP, hQ, hMt, hS, hBk, hLa, hLk⟩ := hR
  obtain ⟨fN, fQx, fQm, fTx, fTm, fRs, fTa, fB, fLe, fFt, fWl⟩ := facts hP hQ hMt
  obtain ⟨pb, pA, p14, p15, p16, p17, mE, ms, mw, mso, mal, mta, mha, m6, m7, m12, m16⟩ := id hP
  obtain ⟨qA, q6, mqA, m29, bo1, bo2, by1⟩ := id hQ
  obtain ⟨tI, t6, mmA, m39⟩ := id hMt
  obtain ⟨s4, s5, s6, s7, v50, v51, v52, v53, cS, moS, buS, tkS⟩ := id hS
  obtain ⟨hB, hLt, hSg, hWd, hAl, hSn, hPl⟩ := id pA
  have h100 : Wn b N ≤ 100 := by unfold Wn; omega
  have h14 := Sn_le b N
  have hX : wp_Picker_set (u.1 13) (u.1 19) (u.1 40) (u.1 3 17) (u.1 18 6) (u.1 37 4) (u.1 37 5) (u.2 33) a1 a2 (fun r => ((0 ≤ a2 ∧ a2 ≤ 3) ∧ (0 ≤ a1 ∧ a1 < ((2 ^ Sn b N : Nat) : Int))) ∧ r = svl (Sn b N) I wt (leN b N) (taN b N I (mch b N tc tz lt st)) (tkl b N li) mo bu a2 a1.toNat) (fun x => (x = 2 ∧ (¬ (0 ≤ a2 ∧ a2 ≤ 3))) ∨ (x = 3 ∧ ((0 ≤ a2 ∧ a2 ≤ 3) ∧ ¬ (0 ≤ a1 ∧ a1 < ((2 ^ Sn b N : Nat) : Int))))) := by
    rw [p17, q6, s4, s5]
    exact b_set hr fQx fTa fLe tkS (fun set e h1 g => ⟨⟨g, by omega, by omega⟩, by rw [e, Int.toNat_natCast]⟩) (fun h => .inl ⟨rfl, h⟩) (fun h1 h2 => .inr ⟨rfl, h1, h2⟩)
  have hM : wp_M_set (v.1 7) (v.1 8) (v.1 9) (v.1 10) (v.1 11) (v.1 12) (v.1 24) (v.1 25) (v.1 28) (v.1 29) (v.1 31) (v.1 33) (v.1 0 0) (v.1 0 12) (v.1 0 16) (v.1 0 29) (v.1 0 39) (v.1 0 42) (v.1 0 43) (v.1 0 50) (v.1 0 51) (v.1 0 52) a1 a2 (fun r o0 o1 o2 o3 o4 o5 o6 => (((0 ≤ a2 ∧ a2 ≤ 3) ∧ (0 ≤ a1 ∧ a1 < ((2 ^ Sn b N : Nat) : Int))) ∧ o4 = 0 ∧ r = svl (Sn b N) I wt (leN b N) (taN b N I (mch b N tc tz lt st)) (tkl b N li) mo bu a2 a1.toNat ∧ (o5 = 0 ∨ (o5 = 1 ∧ StA (Sn b N) I wt (taN b N I (mch b N tc tz lt st)) (leN b N) o0 o1)) ∧ (o6 = 0 ∨ (o6 = 1 ∧ TkA (Sn b N) (tkl b N li) o3))) ∨ (o4 = 1 ∧ (¬ (0 ≤ a2 ∧ a2 ≤ 3)) ∧ (o5 = 0 ∨ (o5 = 1 ∧ StA (Sn b N) I wt (taN b N I (mch b N tc tz lt st)) (leN b N) o0 o1)) ∧ (o6 = 0 ∨ (o6 = 1 ∧ TkA (Sn b N) (tkl b N li) o3))) ∨ (o4 = 2 ∧ ((0 ≤ a2 ∧ a2 ≤ 3) ∧ ¬ (0 ≤ a1 ∧ a1 < ((2 ^ Sn b N : Nat) : Int))) ∧ (o5 = 0 ∨ (o5 = 1 ∧ StA (Sn b N) I wt (taN b N I (mch b N tc tz lt st)) (leN b N) o0 o1)) ∧ (o6 = 0 ∨ (o6 = 1 ∧ TkA (Sn b N) (tkl b N li) o3)))) := by
    rw [m12, m16, m29, m39, v50, v51, v52]
    exact b_Mset hr fB hLa hLk (fun set e h1 g wo' ln' ins' tk' h8 h9 => .inl ⟨⟨g, by omega, by omega⟩, rfl, by rw [e, Int.toNat_natCast], ⟨.inr ⟨rfl, h8⟩, .inr ⟨rfl, h9⟩⟩⟩) (fun h => .inr (.inl ⟨rfl, h, hLa, hLk⟩)) (fun h1 h2 => .inr (.inr ⟨rfl, ⟨h1, h2⟩, hLa, hLk⟩))
  refine (s_Picker_set l hl u a1 a2 _ _ hX).mono (fun r w1 h => ?_) (fun x w1 h => ?_)
  · obtain ⟨z, e, rfl, hv⟩ := h
    refine ⟨_, rfl, z, e, (s_M_set l v a1 a2 _ hM).mono fun r2 w2 h2 => ?_⟩
    obtain ⟨z2, e2, n0, n1, n2, n3, n4, n5, n6, rfl, hv2⟩ := h2
    rcases hv2 with hv2 | hv2 | hv2
    · exact ⟨_, rfl, z2, e2, hv2.2.1, hv2.2.2.1.trans hv.2.symm, ⟨hT, hF, hW, b, N, I, wt, tc, tz, lt, st, sf, bu, mo, li, ch, hP, hQ, hMt, hS, hBk, hv2.2.2.2.1, hv2.2.2.2.2⟩⟩
    · exfalso; have g1 := hv.1; have g2 := hv2.2.1; omega
    · exfalso; have g1 := hv.1; have g2 := hv2.2.1; omega
  · obtain ⟨hpj, hE⟩ := h
    refine ⟨_, hpj, ?_⟩
    rcases hE with hE | hE
    · refine ⟨1, by rw [hE.1]; decide, (s_M_set l v a1 a2 _ hM).mono fun r2 w2 h2 => ?_⟩
      obtain ⟨z2, e2, n0, n1, n2, n3, n4, n5, n6, rfl, hv2⟩ := h2
      rcases hv2 with hv2 | hv2 | hv2
      · exfalso; have g1 := hv2.1; have g2 := hE.2; omega
      · exact ⟨_, rfl, z2, e2, hv2.1, ⟨hT, hF, hW, b, N, I, wt, tc, tz, lt, st, sf, bu, mo, li, ch, hP, hQ, hMt, hS, hBk, hv2.2.2.1, hv2.2.2.2⟩⟩
      · exfalso; have g1 := hv2.2.1; have g2 := hE.2; omega
    · refine ⟨2, by rw [hE.1]; decide, (s_M_set l v a1 a2 _ hM).mono fun r2 w2 h2 => ?_⟩
      obtain ⟨z2, e2, n0, n1, n2, n3, n4, n5, n6, rfl, hv2⟩ := h2
      rcases hv2 with hv2 | hv2 | hv2
      · exfalso; have g1 := hv2.1; have g2 := hE.2; omega
      · exfalso; have g1 := hv2.2.1; have g2 := hE.2; omega
      · exact ⟨_, rfl, z2, e2, hv2.1, ⟨hT, hF, hW, b, N, I, wt, tc, tz, lt, st, sf, bu, mo, li, ch, hP, hQ, hMt, hS, hBk, hv2.2.2.1, hv2.2.2.2⟩⟩
theorem K_common {l : Launch} (hl : l.stackTraces = false) {u v : St} (hR : Rel u v) (a1 a2 : Int) : Ct l yX9_common cX9_common 3 (some .int) 7 2 LX u [aR 0, aI a1, aI a2] (okI (fun r u' => Cn l yX10_common cX10_common 3 (some .int) 2 LM v [aR 0, aI a1, aI a2] (okI (fun r' v' => v'.1 0 0 = 0 ∧ r' = r ∧ Rel u' v')))) (fun x u' => ∃ k : Int, (x, k) ∈ ([(1, 1)] : List (Nat × Int)) ∧ Cn l yX10_common cX10_common 3 (some .int) 2 LM v [aR 0, aI a1, aI a2] (okI (fun r' v' => v'.1 0 0 = k ∧ Rel u' v'))) := by
  obtain ⟨hT, hF, hW, b, N, I, wt, tc, tz, lt, st, sf, bu, mo, li, ch, hP, hQ, hMt, hS, hBk, hLa, hLk⟩ := hR
  obtain ⟨fN, fQx, fQm, fTx, fTm, fRs, fTa, fB, fLe, fFt, fWl⟩ := facts hP hQ hMt
  obtain ⟨pb, pA, p14, p15, p16, p17, mE, ms, mw, mso, mal, mta, mha, m6, m7, m12, m16⟩ := id hP
  obtain ⟨qA, q6, mqA, m29, bo1, bo2, by1⟩ := id hQ
  obtain ⟨tI, t6, mmA, m39⟩ := id hMt
  obtain ⟨s4, s5, s6, s7, v50, v51, v52, v53, cS, moS, buS, tkS⟩ := id hS
  obtain ⟨hB, hLt, hSg, hWd, hAl, hSn, hPl⟩ := id pA
  have h100 : Wn b N ≤ 100 := by unfold Wn; omega
  have h14 := Sn_le b N
  have hX : wp_Picker_common (u.1 3 17) (u.2 16) (u.2 17) a1 a2 (fun r => ((0 ≤ a1 ∧ a1 < (Sn b N : Int)) ∧ (0 ≤ a2 ∧ a2 < (Sn b N : Int))) ∧ r = (cmo b N a1.toNat a2.toNat : Int)) (fun x => (x = 1 ∧ (¬ ((0 ≤ a1 ∧ a1 < (Sn b N : Int)) ∧ (0 ≤ a2 ∧ a2 < (Sn b N : Int)))))) := by
    rw [p17]
    exact b_cmn hPl (fun s o e e3 h1 h2 => ⟨⟨by omega, by omega⟩, by rw [e, e3, Int.toNat_natCast, Int.toNat_natCast]⟩) (fun h => ⟨rfl, h⟩)
  have hM : wp_M_common (v.1 8) (v.1 11) (v.1 0 0) (v.1 0 12) (v.1 0 16) a1 a2 (fun r o0 => (((0 ≤ a1 ∧ a1 < (Sn b N : Int)) ∧ (0 ≤ a2 ∧ a2 < (Sn b N : Int))) ∧ o0 = 0 ∧ r = (cmo b N a1.toNat a2.toNat : Int)) ∨ (o0 = 1 ∧ (¬ ((0 ≤ a1 ∧ a1 < (Sn b N : Int)) ∧ (0 ≤ a2 ∧ a2 < (Sn b N : Int)))))) := by
    rw [m12, m16]
    exact b_Mcmn mal mha (fun s o e e3 h1 h2 => .inl ⟨⟨by omega, by omega⟩, rfl, by rw [e, e3, Int.toNat_natCast, Int.toNat_natCast]⟩) (fun h => .inr ⟨rfl, h⟩)
  refine (s_Picker_common l hl u a1 a2 _ _ hX).mono (fun r w1 h => ?_) (fun x w1 h => ?_)
  · obtain ⟨z, e, rfl, hv⟩ := h
    refine ⟨_, rfl, z, e, (s_M_common l v a1 a2 _ hM).mono fun r2 w2 h2 => ?_⟩
    obtain ⟨z2, e2, n0, rfl, hv2⟩ := h2
    rcases hv2 with hv2 | hv2
    · exact ⟨_, rfl, z2, e2, hv2.2.1, hv2.2.2.trans hv.2.symm, ⟨hT, hF, hW, b, N, I, wt, tc, tz, lt, st, sf, bu, mo, li, ch, hP, hQ, hMt, hS, hBk, hLa, hLk⟩⟩
    · exfalso; have g1 := hv.1; have g2 := hv2.2; omega
  · obtain ⟨hpj, hE⟩ := h
    refine ⟨_, hpj, ?_⟩
    rcases hE with hE
    · refine ⟨1, by rw [hE.1]; decide, (s_M_common l v a1 a2 _ hM).mono fun r2 w2 h2 => ?_⟩
      obtain ⟨z2, e2, n0, rfl, hv2⟩ := h2
      rcases hv2 with hv2 | hv2
      · exfalso; have g1 := hv2.1; have g2 := hE.2; omega
      · exact ⟨_, rfl, z2, e2, hv2.1, ⟨hT, hF, hW, b, N, I, wt, tc, tz, lt, st, sf, bu, mo, li, ch, hP, hQ, hMt, hS, hBk, hLa, hLk⟩⟩
theorem K_choose {l : Launch} (hl : l.stackTraces = false) {u v : St} (hR : Rel u v) (a1 : Int) : Ct l yX9_choose cX9_choose 2 (some .int) 7 2 LX u [aR 0, aI a1] (okI (fun r u' => Cn l yX10_choose cX10_choose 2 (some .int) 4 LM v [aR 0, aI a1] (okI (fun r' v' => v'.1 0 0 = 0 ∧ r' = r ∧ Rel u' v')))) (fun x u' => ∃ k : Int, (x, k) ∈ ([(1, 1), (4, 2)] : List (Nat × Int)) ∧ Cn l yX10_choose cX10_choose 2 (some .int) 4 LM v [aR 0, aI a1] (okI (fun r' v' => v'.1 0 0 = k ∧ Rel u' v'))) := by
  obtain ⟨hT, hF, hW, b, N, I, wt, tc, tz, lt, st, sf, bu, mo, li, ch, hP, hQ, hMt, hS, hBk, hLa, hLk⟩ := hR
  obtain ⟨fN, fQx, fQm, fTx, fTm, fRs, fTa, fB, fLe, fFt, fWl⟩ := facts hP hQ hMt
  obtain ⟨pb, pA, p14, p15, p16, p17, mE, ms, mw, mso, mal, mta, mha, m6, m7, m12, m16⟩ := id hP
  obtain ⟨qA, q6, mqA, m29, bo1, bo2, by1⟩ := id hQ
  obtain ⟨tI, t6, mmA, m39⟩ := id hMt
  obtain ⟨s4, s5, s6, s7, v50, v51, v52, v53, cS, moS, buS, tkS⟩ := id hS
  obtain ⟨hB, hLt, hSg, hWd, hAl, hSn, hPl⟩ := id pA
  have h100 : Wn b N ≤ 100 := by unfold Wn; omega
  have h14 := Sn_le b N
  have hX : wp_Picker_choose (u.1 13) (u.1 19) (u.1 40) (u.1 3 17) (u.1 18 6) (u.1 37 4) (u.1 37 5) (u.1 37 7) (u.2 33) a1 (fun r o0 => ((0 ≤ a1 ∧ a1 < (Sn b N : Int)) ∧ bI (!ch.testBit a1.toNat && may (Sn b N) (leN b N) (tkl b N li) mo bu (ch ||| 2 ^ a1.toNat)) = 1) ∧ r = (wZ (Sn b N) I wt (taN b N I (mch b N tc tz lt st)) (ch ||| 2 ^ a1.toNat) : Int) ∧ o0 = ((ch ||| 2 ^ a1.toNat : Nat) : Int)) (fun x o0 => (x = 1 ∧ (¬ (0 ≤ a1 ∧ a1 < (Sn b N : Int))) ∧ o0 = (ch : Int)) ∨ (x = 4 ∧ ((0 ≤ a1 ∧ a1 < (Sn b N : Int)) ∧ bI (!ch.testBit a1.toNat && may (Sn b N) (leN b N) (tkl b N li) mo bu (ch ||| 2 ^ a1.toNat)) = 0) ∧ o0 = (ch : Int))) := by
    rw [p17, q6, s4, s5, s7]
    exact b_choose fLe tkS fQx fTa cS (fun s e h1 h2 => ⟨⟨by omega, by rw [e, Int.toNat_natCast, h2]; rfl⟩, by rw [e, Int.toNat_natCast], by rw [e, Int.toNat_natCast]⟩) (fun h => .inl ⟨rfl, h, rfl⟩) (fun s e h1 h2 => .inr ⟨rfl, ⟨by omega, by rw [e, Int.toNat_natCast, h2]; rfl⟩, rfl⟩)
  have hM : wp_M_choose (v.1 7) (v.1 8) (v.1 9) (v.1 10) (v.1 11) (v.1 12) (v.1 24) (v.1 25) (v.1 28) (v.1 29) (v.1 31) (v.1 33) (v.1 0 0) (v.1 0 12) (v.1 0 16) (v.1 0 29) (v.1 0 39) (v.1 0 42) (v.1 0 43) (v.1 0 50) (v.1 0 51) (v.1 0 52) (v.1 0 53) a1 (fun r o0 o1 o2 o3 o4 o5 o6 o7 => (((0 ≤ a1 ∧ a1 < (Sn b N : Int)) ∧ bI (!ch.testBit a1.toNat && may (Sn b N) (leN b N) (tkl b N li) mo bu (ch ||| 2 ^ a1.toNat)) = 1) ∧ o4 = 0 ∧ r = (wZ (Sn b N) I wt (taN b N I (mch b N tc tz lt st)) (ch ||| 2 ^ a1.toNat) : Int) ∧ o7 = ((ch ||| 2 ^ a1.toNat : Nat) : Int) ∧ (o5 = 0 ∨ (o5 = 1 ∧ StA (Sn b N) I wt (taN b N I (mch b N tc tz lt st)) (leN b N) o0 o1)) ∧ (o6 = 0 ∨ (o6 = 1 ∧ TkA (Sn b N) (tkl b N li) o3))) ∨ (o4 = 1 ∧ (¬ (0 ≤ a1 ∧ a1 < (Sn b N : Int))) ∧ o7 = (ch : Int) ∧ (o5 = 0 ∨ (o5 = 1 ∧ StA (Sn b N) I wt (taN b N I (mch b N tc tz lt st)) (leN b N) o0 o1)) ∧ (o6 = 0 ∨ (o6 = 1 ∧ TkA (Sn b N) (tkl b N li) o3))) ∨ (o4 = 2 ∧ ((0 ≤ a1 ∧ a1 < (Sn b N : Int)) ∧ bI (!ch.testBit a1.toNat && may (Sn b N) (leN b N) (tkl b N li) mo bu (ch ||| 2 ^ a1.toNat)) = 0) ∧ o7 = (ch : Int) ∧ (o5 = 0 ∨ (o5 = 1 ∧ StA (Sn b N) I wt (taN b N I (mch b N tc tz lt st)) (leN b N) o0 o1)) ∧ (o6 = 0 ∨ (o6 = 1 ∧ TkA (Sn b N) (tkl b N li) o3)))) := by
    rw [m12, m16, m29, m39, v50, v51, v52, v53]
    exact b_Mchoose fB hLa hLk cS (fun s e h1 h2 wo' ln' ins' tk' h8 h9 => .inl ⟨⟨by omega, by rw [e, Int.toNat_natCast, h2]; rfl⟩, rfl, by rw [e, Int.toNat_natCast], by rw [e, Int.toNat_natCast], ⟨.inr ⟨rfl, h8⟩, .inr ⟨rfl, h9⟩⟩⟩) (fun h => .inr (.inl ⟨rfl, h, rfl, hLa, hLk⟩)) (fun s e h1 h2 wo' ln' ins' tk' h8 h9 => .inr (.inr ⟨rfl, ⟨by omega, by rw [e, Int.toNat_natCast, h2]; rfl⟩, rfl, ⟨.inr ⟨rfl, h8⟩, .inr ⟨rfl, h9⟩⟩⟩))
  refine (s_Picker_choose l hl u a1 _ _ hX).mono (fun r w1 h => ?_) (fun x w1 h => ?_)
  · obtain ⟨z, e, o0, rfl, hv⟩ := h
    refine ⟨_, rfl, z, e, (s_M_choose l v a1 _ hM).mono fun r2 w2 h2 => ?_⟩
    obtain ⟨z2, e2, n0, n1, n2, n3, n4, n5, n6, n7, rfl, hv2⟩ := h2
    rcases hv2 with hv2 | hv2 | hv2
    · exact ⟨_, rfl, z2, e2, hv2.2.1, hv2.2.2.1.trans hv.2.1.symm, ⟨hT, hF, hW, b, N, I, wt, tc, tz, lt, st, sf, bu, mo, li, (ch ||| 2 ^ a1.toNat), hP, hQ, hMt, ⟨s4, s5, s6, hv.2.2, v50, v51, v52, hv2.2.2.2.1, or_S cS (by omega), moS, buS, tkS⟩, hBk, hv2.2.2.2.2.1, hv2.2.2.2.2.2⟩⟩
    · exfalso; have g1 := hv.1; have g2 := hv2.2.1; omega
    · exfalso; have g1 := hv.1; have g2 := hv2.2.1; omega
  · obtain ⟨o0, hpj, hE⟩ := h
    refine ⟨_, hpj, ?_⟩
    rcases hE with hE | hE
    · refine ⟨1, by rw [hE.1]; decide, (s_M_choose l v a1 _ hM).mono fun r2 w2 h2 => ?_⟩
      obtain ⟨z2, e2, n0, n1, n2, n3, n4, n5, n6, n7, rfl, hv2⟩ := h2
      rcases hv2 with hv2 | hv2 | hv2
      · exfalso; have g1 := hv2.1; have g2 := hE.2.1; omega
      · exact ⟨_, rfl, z2, e2, hv2.1, ⟨hT, hF, hW, b, N, I, wt, tc, tz, lt, st, sf, bu, mo, li, ch, hP, hQ, hMt, ⟨s4, s5, s6, hE.2.2, v50, v51, v52, hv2.2.2.1, cS, moS, buS, tkS⟩, hBk, hv2.2.2.2.1, hv2.2.2.2.2⟩⟩
      · exfalso; have g1 := hv2.2.1; have g2 := hE.2.1; omega
    · refine ⟨2, by rw [hE.1]; decide, (s_M_choose l v a1 _ hM).mono fun r2 w2 h2 => ?_⟩
      obtain ⟨z2, e2, n0, n1, n2, n3, n4, n5, n6, n7, rfl, hv2⟩ := h2
      rcases hv2 with hv2 | hv2 | hv2
      · exfalso; have g1 := hv2.1; have g2 := hE.2.1; omega
      · exfalso; have g1 := hv2.2.1; have g2 := hE.2.1; omega
      · exact ⟨_, rfl, z2, e2, hv2.1, ⟨hT, hF, hW, b, N, I, wt, tc, tz, lt, st, sf, bu, mo, li, ch, hP, hQ, hMt, ⟨s4, s5, s6, hE.2.2, v50, v51, v52, hv2.2.2.1, cS, moS, buS, tkS⟩, hBk, hv2.2.2.2.1, hv2.2.2.2.2⟩⟩
theorem K_drop {l : Launch} (hl : l.stackTraces = false) {u v : St} (hR : Rel u v) (a1 : Int) : Ct l yX9_drop cX9_drop 2 (some .int) 7 2 LX u [aR 0, aI a1] (okI (fun r u' => Cn l yX10_drop cX10_drop 2 (some .int) 3 LM v [aR 0, aI a1] (okI (fun r' v' => v'.1 0 0 = 0 ∧ r' = r ∧ Rel u' v')))) (fun x u' => ∃ k : Int, (x, k) ∈ ([(1, 1), (4, 2)] : List (Nat × Int)) ∧ Cn l yX10_drop cX10_drop 2 (some .int) 3 LM v [aR 0, aI a1] (okI (fun r' v' => v'.1 0 0 = k ∧ Rel u' v'))) := by
  obtain ⟨hT, hF, hW, b, N, I, wt, tc, tz, lt, st, sf, bu, mo, li, ch, hP, hQ, hMt, hS, hBk, hLa, hLk⟩ := hR
  obtain ⟨fN, fQx, fQm, fTx, fTm, fRs, fTa, fB, fLe, fFt, fWl⟩ := facts hP hQ hMt
  obtain ⟨pb, pA, p14, p15, p16, p17, mE, ms, mw, mso, mal, mta, mha, m6, m7, m12, m16⟩ := id hP
  obtain ⟨qA, q6, mqA, m29, bo1, bo2, by1⟩ := id hQ
  obtain ⟨tI, t6, mmA, m39⟩ := id hMt
  obtain ⟨s4, s5, s6, s7, v50, v51, v52, v53, cS, moS, buS, tkS⟩ := id hS
  obtain ⟨hB, hLt, hSg, hWd, hAl, hSn, hPl⟩ := id pA
  have h100 : Wn b N ≤ 100 := by unfold Wn; omega
  have h14 := Sn_le b N
  have hX : wp_Picker_drop (u.1 19) (u.1 3 17) (u.1 18 6) (u.1 37 7) (u.2 33) a1 (fun r o0 => ((0 ≤ a1 ∧ a1 < (Sn b N : Int)) ∧ bI (ch.testBit a1.toNat) = 1) ∧ r = (wZ (Sn b N) I wt (taN b N I (mch b N tc tz lt st)) (ndiff ch (2 ^ a1.toNat)) : Int) ∧ o0 = ((ndiff ch (2 ^ a1.toNat) : Nat) : Int)) (fun x o0 => (x = 1 ∧ (¬ (0 ≤ a1 ∧ a1 < (Sn b N : Int))) ∧ o0 = (ch : Int)) ∨ (x = 4 ∧ ((0 ≤ a1 ∧ a1 < (Sn b N : Int)) ∧ bI (ch.testBit a1.toNat) = 0) ∧ o0 = (ch : Int))) := by
    rw [p17, q6, s7]
    exact b_drop h14 fQx fTa cS (fun s e h1 h2 => ⟨⟨by omega, by rw [e, Int.toNat_natCast, h2]; rfl⟩, by rw [e, Int.toNat_natCast], by rw [e, Int.toNat_natCast]⟩) (fun h => .inl ⟨rfl, h, rfl⟩) (fun s e h1 h2 => .inr ⟨rfl, ⟨by omega, by rw [e, Int.toNat_natCast, h2]; rfl⟩, rfl⟩)
  have hM : wp_M_drop (v.1 7) (v.1 8) (v.1 9) (v.1 10) (v.1 11) (v.1 12) (v.1 24) (v.1 25) (v.1 28) (v.1 29) (v.1 31) (v.1 33) (v.1 0 0) (v.1 0 12) (v.1 0 16) (v.1 0 29) (v.1 0 39) (v.1 0 42) (v.1 0 43) (v.1 0 52) (v.1 0 53) a1 (fun r o0 o1 o2 o3 o4 o5 o6 o7 => (((0 ≤ a1 ∧ a1 < (Sn b N : Int)) ∧ bI (ch.testBit a1.toNat) = 1) ∧ o4 = 0 ∧ r = (wZ (Sn b N) I wt (taN b N I (mch b N tc tz lt st)) (ndiff ch (2 ^ a1.toNat)) : Int) ∧ o7 = ((ndiff ch (2 ^ a1.toNat) : Nat) : Int) ∧ (o5 = 0 ∨ (o5 = 1 ∧ StA (Sn b N) I wt (taN b N I (mch b N tc tz lt st)) (leN b N) o0 o1)) ∧ (o6 = 0 ∨ (o6 = 1 ∧ TkA (Sn b N) (tkl b N li) o3))) ∨ (o4 = 1 ∧ (¬ (0 ≤ a1 ∧ a1 < (Sn b N : Int))) ∧ o7 = (ch : Int) ∧ (o5 = 0 ∨ (o5 = 1 ∧ StA (Sn b N) I wt (taN b N I (mch b N tc tz lt st)) (leN b N) o0 o1)) ∧ (o6 = 0 ∨ (o6 = 1 ∧ TkA (Sn b N) (tkl b N li) o3))) ∨ (o4 = 2 ∧ ((0 ≤ a1 ∧ a1 < (Sn b N : Int)) ∧ bI (ch.testBit a1.toNat) = 0) ∧ o7 = (ch : Int) ∧ (o5 = 0 ∨ (o5 = 1 ∧ StA (Sn b N) I wt (taN b N I (mch b N tc tz lt st)) (leN b N) o0 o1)) ∧ (o6 = 0 ∨ (o6 = 1 ∧ TkA (Sn b N) (tkl b N li) o3)))) := by
    rw [m12, m16, m29, m39, v52, v53]
    exact b_Mdrop fB hLa hLk cS (fun s e h1 h2 wo' ln' ins' tk' h8 h9 => .inl ⟨⟨by omega, by rw [e, Int.toNat_natCast, h2]; rfl⟩, rfl, by rw [e, Int.toNat_natCast], by rw [e, Int.toNat_natCast], ⟨.inr ⟨rfl, h8⟩, .inr ⟨rfl, h9⟩⟩⟩) (fun h => .inr (.inl ⟨rfl, h, rfl, hLa, hLk⟩)) (fun s e h1 h2 => .inr (.inr ⟨rfl, ⟨by omega, by rw [e, Int.toNat_natCast, h2]; rfl⟩, rfl, hLa, hLk⟩))
  refine (s_Picker_drop l hl u a1 _ _ hX).mono (fun r w1 h => ?_) (fun x w1 h => ?_)
  · obtain ⟨z, e, o0, rfl, hv⟩ := h
    refine ⟨_, rfl, z, e, (s_M_drop l v a1 _ hM).mono fun r2 w2 h2 => ?_⟩
    obtain ⟨z2, e2, n0, n1, n2, n3, n4, n5, n6, n7, rfl, hv2⟩ := h2
    rcases hv2 with hv2 | hv2 | hv2
    · exact ⟨_, rfl, z2, e2, hv2.2.1, hv2.2.2.1.trans hv.2.1.symm, ⟨hT, hF, hW, b, N, I, wt, tc, tz, lt, st, sf, bu, mo, li, (ndiff ch (2 ^ a1.toNat)), hP, hQ, hMt, ⟨s4, s5, s6, hv.2.2, v50, v51, v52, hv2.2.2.2.1, Nat.lt_of_le_of_lt (nd_le _ _) cS, moS, buS, tkS⟩, hBk, hv2.2.2.2.2.1, hv2.2.2.2.2.2⟩⟩
    · exfalso; have g1 := hv.1; have g2 := hv2.2.1; omega
    · exfalso; have g1 := hv.1; have g2 := hv2.2.1; omega
  · obtain ⟨o0, hpj, hE⟩ := h
    refine ⟨_, hpj, ?_⟩
    rcases hE with hE | hE
    · refine ⟨1, by rw [hE.1]; decide, (s_M_drop l v a1 _ hM).mono fun r2 w2 h2 => ?_⟩
      obtain ⟨z2, e2, n0, n1, n2, n3, n4, n5, n6, n7, rfl, hv2⟩ := h2
      rcases hv2 with hv2 | hv2 | hv2
      · exfalso; have g1 := hv2.1; have g2 := hE.2.1; omega
      · exact ⟨_, rfl, z2, e2, hv2.1, ⟨hT, hF, hW, b, N, I, wt, tc, tz, lt, st, sf, bu, mo, li, ch, hP, hQ, hMt, ⟨s4, s5, s6, hE.2.2, v50, v51, v52, hv2.2.2.1, cS, moS, buS, tkS⟩, hBk, hv2.2.2.2.1, hv2.2.2.2.2⟩⟩
      · exfalso; have g1 := hv2.2.1; have g2 := hE.2.1; omega
    · refine ⟨2, by rw [hE.1]; decide, (s_M_drop l v a1 _ hM).mono fun r2 w2 h2 => ?_⟩
      obtain ⟨z2, e2, n0, n1, n2, n3, n4, n5, n6, n7, rfl, hv2⟩ := h2
      rcases hv2 with hv2 | hv2 | hv2
      · exfalso; have g1 := hv2.1; have g2 := hE.2.1; omega
      · exfalso; have g1 := hv2.2.1; have g2 := hE.2.1; omega
      · exact ⟨_, rfl, z2, e2, hv2.1, ⟨hT, hF, hW, b, N, I, wt, tc, tz, lt, st, sf, bu, mo, li, ch, hP, hQ, hMt, ⟨s4, s5, s6, hE.2.2, v50, v51, v52, hv2.2.2.1, cS, moS, buS, tkS⟩, hBk, hv2.2.2.2.1, hv2.2.2.2.2⟩⟩
theorem K_exchange {l : Launch} (hl : l.stackTraces = false) {u v : St} (hR : Rel u v) (a1 : Int) : Ct l yX9_exchange cX9_exchange 2 (some .int) 7 1 LX u [aR 0, aI a1] (okI (fun r u' => Cn l yX10_exchange cX10_exchange 3 (some .int) 5 LM v [aR 0, aI a1] (okI (fun r' v' => v'.1 0 0 = 0 ∧ r' = r ∧ Rel u' v')))) (fun x u' => ∃ k : Int, (x, k) ∈ ([(2, 1)] : List (Nat × Int)) ∧ Cn l yX10_exchange cX10_exchange 3 (some .int) 5 LM v [aR 0, aI a1] (okI (fun r' v' => v'.1 0 0 = k ∧ Rel u' v'))) := by
  obtain ⟨hT, hF, hW, b, N, I, wt, tc, tz, lt, st, sf, bu, mo, li, ch, hP, hQ, hMt, hS, hBk, hLa, hLk⟩ := hR
  obtain ⟨fN, fQx, fQm, fTx, fTm, fRs, fTa, fB, fLe, fFt, fWl⟩ := facts hP hQ hMt
  obtain ⟨pb, pA, p14, p15, p16, p17, mE, ms, mw, mso, mal, mta, mha, m6, m7, m12, m16⟩ := id hP
  obtain ⟨qA, q6, mqA, m29, bo1, bo2, by1⟩ := id hQ
  obtain ⟨tI, t6, mmA, m39⟩ := id hMt
  obtain ⟨s4, s5, s6, s7, v50, v51, v52, v53, cS, moS, buS, tkS⟩ := id hS
  obtain ⟨hB, hLt, hSg, hWd, hAl, hSn, hPl⟩ := id pA
  have h100 : Wn b N ≤ 100 := by unfold Wn; omega
  have h14 := Sn_le b N
  have hX : wp_Picker_exchange (u.1 13) (u.1 19) (u.1 40) (u.1 3 17) (u.1 18 6) (u.1 37 4) (u.1 37 5) (u.1 37 7) (u.1 37 12) (u.1 37 13) (u.1 37 14) (u.2 33) a1 (fun r o0 o1 o2 => (0 ≤ a1 ∧ a1 ≤ 2) ∧ r = exv (eXO (Sn b N) I wt (leN b N) (taN b N I (mch b N tc tz lt st)) (tkl b N li) mo bu ch) a1) (fun x o0 o1 o2 => (x = 2 ∧ (¬ (0 ≤ a1 ∧ a1 ≤ 2)))) := by
    rw [p17, q6, s4, s5, s7]
    exact b_exchange fQx fTa fLe tkS cS (fun h y1 y2 y3 => ⟨h, rfl⟩) (fun h => ⟨rfl, h⟩)
  have hM : wp_M_exchange (v.1 7) (v.1 8) (v.1 9) (v.1 10) (v.1 11) (v.1 12) (v.1 24) (v.1 25) (v.1 28) (v.1 29) (v.1 31) (v.1 33) (v.1 0 0) (v.1 0 12) (v.1 0 16) (v.1 0 29) (v.1 0 39) (v.1 0 42) (v.1 0 43) (v.1 0 50) (v.1 0 51) (v.1 0 52) (v.1 0 53) (v.1 0 57) (v.1 0 58) a1 (fun r o0 o1 o2 o3 o4 o5 o6 o7 o8 => ((0 ≤ a1 ∧ a1 ≤ 2) ∧ o4 = 0 ∧ r = exv (eXO (Sn b N) I wt (leN b N) (taN b N I (mch b N tc tz lt st)) (tkl b N li) mo bu ch) a1 ∧ (o5 = 0 ∨ (o5 = 1 ∧ StA (Sn b N) I wt (taN b N I (mch b N tc tz lt st)) (leN b N) o0 o1)) ∧ (o6 = 0 ∨ (o6 = 1 ∧ TkA (Sn b N) (tkl b N li) o3))) ∨ (o4 = 1 ∧ (¬ (0 ≤ a1 ∧ a1 ≤ 2)) ∧ (o5 = 0 ∨ (o5 = 1 ∧ StA (Sn b N) I wt (taN b N I (mch b N tc tz lt st)) (leN b N) o0 o1)) ∧ (o6 = 0 ∨ (o6 = 1 ∧ TkA (Sn b N) (tkl b N li) o3)))) := by
    rw [m12, m16, m29, m39, v50, v51, v52, v53]
    exact b_Mexchange fB hLa hLk cS (fun h wo' ln' ins' tk' y1 y2 h8 h9 => .inl ⟨h, rfl, rfl, ⟨.inr ⟨rfl, h8⟩, .inr ⟨rfl, h9⟩⟩⟩) (fun h => .inr ⟨rfl, h, hLa, hLk⟩)
  refine (s_Picker_exchange l hl u a1 _ _ hX).mono (fun r w1 h => ?_) (fun x w1 h => ?_)
  · obtain ⟨z, e, o0, o1, o2, rfl, hv⟩ := h
    refine ⟨_, rfl, z, e, (s_M_exchange l v a1 _ hM).mono fun r2 w2 h2 => ?_⟩
    obtain ⟨z2, e2, n0, n1, n2, n3, n4, n5, n6, n7, n8, rfl, hv2⟩ := h2
    rcases hv2 with hv2 | hv2
    · exact ⟨_, rfl, z2, e2, hv2.2.1, hv2.2.2.1.trans hv.2.symm, ⟨hT, hF, hW, b, N, I, wt, tc, tz, lt, st, sf, bu, mo, li, ch, hP, hQ, hMt, hS, hBk, hv2.2.2.2.1, hv2.2.2.2.2⟩⟩
    · exfalso; have g1 := hv.1; have g2 := hv2.2.1; omega
  · obtain ⟨o0, o1, o2, hpj, hE⟩ := h
    refine ⟨_, hpj, ?_⟩
    rcases hE with hE
    · refine ⟨1, by rw [hE.1]; decide, (s_M_exchange l v a1 _ hM).mono fun r2 w2 h2 => ?_⟩
      obtain ⟨z2, e2, n0, n1, n2, n3, n4, n5, n6, n7, n8, rfl, hv2⟩ := h2
      rcases hv2 with hv2 | hv2
      · exfalso; have g1 := hv2.1; have g2 := hE.2; omega
      · exact ⟨_, rfl, z2, e2, hv2.1, ⟨hT, hF, hW, b, N, I, wt, tc, tz, lt, st, sf, bu, mo, li, ch, hP, hQ, hMt, hS, hBk, hv2.2.2.1, hv2.2.2.2⟩⟩
theorem K_trade {l : Launch} (hl : l.stackTraces = false) {u v : St} (hR : Rel u v) : Ct l yX9_trade cX9_trade 1 (some .int) 6 1 LX u [aR 0] (okI (fun r u' => Cn l yX10_trade cX10_trade 1 (some .int) 5 LM v [aR 0] (okI (fun r' v' => v'.1 0 0 = 0 ∧ r' = r ∧ Rel u' v')))) (fun x u' => ∃ k : Int, (x, k) ∈ ([(4, 1)] : List (Nat × Int)) ∧ Cn l yX10_trade cX10_trade 1 (some .int) 5 LM v [aR 0] (okI (fun r' v' => v'.1 0 0 = k ∧ Rel u' v'))) := by
  obtain ⟨hT, hF, hW, b, N, I, wt, tc, tz, lt, st, sf, bu, mo, li, ch, hP, hQ, hMt, hS, hBk, hLa, hLk⟩ := hR
  obtain ⟨fN, fQx, fQm, fTx, fTm, fRs, fTa, fB, fLe, fFt, fWl⟩ := facts hP hQ hMt
  obtain ⟨pb, pA, p14, p15, p16, p17, mE, ms, mw, mso, mal, mta, mha, m6, m7, m12, m16⟩ := id hP
  obtain ⟨qA, q6, mqA, m29, bo1, bo2, by1⟩ := id hQ
  obtain ⟨tI, t6, mmA, m39⟩ := id hMt
  obtain ⟨s4, s5, s6, s7, v50, v51, v52, v53, cS, moS, buS, tkS⟩ := id hS
  obtain ⟨hB, hLt, hSg, hWd, hAl, hSn, hPl⟩ := id pA
  have h100 : Wn b N ≤ 100 := by unfold Wn; omega
  have h14 := Sn_le b N
  have hX : wp_Picker_trade (u.1 13) (u.1 19) (u.1 40) (u.1 3 17) (u.1 18 6) (u.1 37 4) (u.1 37 5) (u.1 37 7) (u.1 37 12) (u.1 37 13) (u.1 37 14) (u.2 33) (fun r o0 o1 o2 o3 => ((eXO (Sn b N) I wt (leN b N) (taN b N I (mch b N tc tz lt st)) (tkl b N li) mo bu ch).2.2 ≠ 0) ∧ ∃ x y : Nat, tdP (Sn b N) (eXO (Sn b N) I wt (leN b N) (taN b N I (mch b N tc tz lt st)) (tkl b N li) mo bu ch) x y ∧ r = (wZ (Sn b N) I wt (taN b N I (mch b N tc tz lt st)) (xse ch x y) : Int) ∧ o0 = ((xse ch x y : Nat) : Int)) (fun x o0 o1 o2 o3 => (x = 4 ∧ ((eXO (Sn b N) I wt (leN b N) (taN b N I (mch b N tc tz lt st)) (tkl b N li) mo bu ch).2.2 = 0) ∧ o0 = (ch : Int))) := by
    rw [p17, q6, s4, s5, s7]
    exact b_trade fQx fTa fLe tkS cS (fun x y h y1 y2 y3 => ⟨h.2.2.1, x, y, h, rfl, rfl⟩) (fun h y1 y2 y3 => ⟨rfl, h, rfl⟩)
  have hM : wp_M_trade (v.1 7) (v.1 8) (v.1 9) (v.1 10) (v.1 11) (v.1 12) (v.1 24) (v.1 25) (v.1 28) (v.1 29) (v.1 31) (v.1 33) (v.1 0 0) (v.1 0 12) (v.1 0 16) (v.1 0 29) (v.1 0 39) (v.1 0 42) (v.1 0 43) (v.1 0 50) (v.1 0 51) (v.1 0 52) (v.1 0 53) (v.1 0 57) (v.1 0 58) (fun r o0 o1 o2 o3 o4 o5 o6 o7 o8 o9 => (((eXO (Sn b N) I wt (leN b N) (taN b N I (mch b N tc tz lt st)) (tkl b N li) mo bu ch).2.2 ≠ 0) ∧ o4 = 0 ∧ (∃ x y : Nat, tdP (Sn b N) (eXO (Sn b N) I wt (leN b N) (taN b N I (mch b N tc tz lt st)) (tkl b N li) mo bu ch) x y ∧ r = (wZ (Sn b N) I wt (taN b N I (mch b N tc tz lt st)) (xse ch x y) : Int) ∧ o7 = ((xse ch x y : Nat) : Int)) ∧ (o5 = 0 ∨ (o5 = 1 ∧ StA (Sn b N) I wt (taN b N I (mch b N tc tz lt st)) (leN b N) o0 o1)) ∧ (o6 = 0 ∨ (o6 = 1 ∧ TkA (Sn b N) (tkl b N li) o3))) ∨ (o4 = 1 ∧ ((eXO (Sn b N) I wt (leN b N) (taN b N I (mch b N tc tz lt st)) (tkl b N li) mo bu ch).2.2 = 0) ∧ o7 = (ch : Int) ∧ (o5 = 0 ∨ (o5 = 1 ∧ StA (Sn b N) I wt (taN b N I (mch b N tc tz lt st)) (leN b N) o0 o1)) ∧ (o6 = 0 ∨ (o6 = 1 ∧ TkA (Sn b N) (tkl b N li) o3)))) := by
    rw [m12, m16, m29, m39, v50, v51, v52, v53]
    exact b_Mtrade fB hLa hLk cS (fun x y h wo' ln' ins' tk' y1 y2 h8 h9 => .inl ⟨h.2.2.1, rfl, ⟨x, y, h, rfl, rfl⟩, ⟨.inr ⟨rfl, h8⟩, .inr ⟨rfl, h9⟩⟩⟩) (fun h wo' ln' ins' tk' y1 y2 h8 h9 => .inr ⟨rfl, h, rfl, ⟨.inr ⟨rfl, h8⟩, .inr ⟨rfl, h9⟩⟩⟩)
  refine (s_Picker_trade l hl u  _ _ hX).mono (fun r w1 h => ?_) (fun x w1 h => ?_)
  · obtain ⟨z, e, o0, o1, o2, o3, rfl, hv⟩ := h
    refine ⟨_, rfl, z, e, (s_M_trade l v  _ hM).mono fun r2 w2 h2 => ?_⟩
    obtain ⟨z2, e2, n0, n1, n2, n3, n4, n5, n6, n7, n8, n9, rfl, hv2⟩ := h2
    rcases hv2 with hv2 | hv2
    · exact ⟨_, rfl, z2, e2, hv2.2.1, (by obtain ⟨x, y, d1, d2, d3⟩ := hv.2; obtain ⟨⟨x9, y9, c1, c2, c3⟩, c4, c5⟩ := hv2.2.2; obtain ⟨ex, ey⟩ := c1.uniq d1; subst ex ey; exact c2.trans d2.symm), (by obtain ⟨x, y, d1, d2, d3⟩ := hv.2; obtain ⟨⟨x9, y9, c1, c2, c3⟩, c4, c5⟩ := hv2.2.2; obtain ⟨ex, ey⟩ := c1.uniq d1; subst ex ey; exact ⟨hT, hF, hW, b, N, I, wt, tc, tz, lt, st, sf, bu, mo, li, (xse ch x9 y9), hP, hQ, hMt, ⟨s4, s5, s6, d3, v50, v51, v52, c3, xse_lt cS d1.2.2.2.2, moS, buS, tkS⟩, hBk, c4, c5⟩)⟩
    · exfalso; have g1 := hv.1; have g2 := hv2.2.1; omega
  · obtain ⟨o0, o1, o2, o3, hpj, hE⟩ := h
    refine ⟨_, hpj, ?_⟩
    rcases hE with hE
    · refine ⟨1, by rw [hE.1]; decide, (s_M_trade l v  _ hM).mono fun r2 w2 h2 => ?_⟩
      obtain ⟨z2, e2, n0, n1, n2, n3, n4, n5, n6, n7, n8, n9, rfl, hv2⟩ := h2
      rcases hv2 with hv2 | hv2
      · exfalso; have g1 := hv2.1; have g2 := hE.2.1; omega
      · exact ⟨_, rfl, z2, e2, hv2.1, ⟨hT, hF, hW, b, N, I, wt, tc, tz, lt, st, sf, bu, mo, li, ch, hP, hQ, hMt, ⟨s4, s5, s6, hE.2.2, v50, v51, v52, hv2.2.2.1, cS, moS, buS, tkS⟩, hBk, hv2.2.2.2.1, hv2.2.2.2.2⟩⟩
