/-! K: calls of both -/
theorem K_sign {l : Launch} {u v : St} (hR : Rel u v) (a1 : Int) : Cn l yX9_sign cX9_sign 2 (some .int) 1 LX u [aR 0, aI a1] (okI (fun r u' => Cn l yX10_sign cX10_sign 2 (some .int) 1 LM v [aR 0, aI a1] (okI (fun r' v' => r' = r ∧ Rel u' v')))) := by
  obtain ⟨hT, hF, hW, b, N, I, wt, tc, tz, lt, st, sf, bu, mo, li, ch, hP, hQ, hMt, hS, hBk, hLa, hLk⟩ := hR
  obtain ⟨fN, fQx, fQm, fTx, fTm, fRs, fTa, fB, fLe, fFt, fWl⟩ := facts hP hQ hMt
  obtain ⟨pb, pA, p14, p15, p16, p17, mE, ms, mw, mso, mal, mta, mha, m6, m7, m12, m16⟩ := id hP
  obtain ⟨qA, q6, mqA, m29, bo1, bo2, by1⟩ := id hQ
  obtain ⟨tI, t6, mmA, m39⟩ := id hMt
  obtain ⟨s4, s5, s6, s7, v50, v51, v52, v53, cS, moS, buS, tkS⟩ := id hS
  obtain ⟨hB, hLt, hSg, hWd, hAl, hSn, hPl⟩ := id pA
  have h100 : Wn b N ≤ 100 := by unfold Wn; omega
  have h14 := Sn_le b N
  have hX : wp_Picker_sign (u.1 6) (u.1 3 14) a1 (fun r  => wp_M_sign (v.1 4) (v.1 0 0) (v.1 0 7) a1 (fun r' n0 => r' = r ∧ n0 = 0)) := by
    rw [p14, m7]
    exact c_sign fN hSg ms fun r => ⟨rfl, rfl⟩
  refine (s_Picker_sign l u a1 _ hX).mono fun r w1 h => ?_
  obtain ⟨z, e, rfl, hv⟩ := h
  refine ⟨_, rfl, z, e, (s_M_sign l v a1 _ hv).mono fun r2 w2 h2 => ?_⟩
  obtain ⟨z2, e2, n0, rfl, hv2⟩ := h2
  exact ⟨_, rfl, z2, e2, hv2.1, ⟨hT, hF, hW, b, N, I, wt, tc, tz, lt, st, sf, bu, mo, li, ch, hP, hQ, hMt, hS, hBk, hLa, hLk⟩⟩
theorem K_signOf {l : Launch} {u v : St} (hR : Rel u v) (a1 : Int) : Cn l yX9_signOf cX9_signOf 2 (some .int) 0 LX u [aR 0, aI a1] (okI (fun r u' => Cn l yX10_signOf cX10_signOf 3 (some .int) 0 LM v [aR 0, aI a1] (okI (fun r' v' => r' = r ∧ Rel u' v')))) := by
  obtain ⟨hT, hF, hW, b, N, I, wt, tc, tz, lt, st, sf, bu, mo, li, ch, hP, hQ, hMt, hS, hBk, hLa, hLk⟩ := hR
  obtain ⟨fN, fQx, fQm, fTx, fTm, fRs, fTa, fB, fLe, fFt, fWl⟩ := facts hP hQ hMt
  obtain ⟨pb, pA, p14, p15, p16, p17, mE, ms, mw, mso, mal, mta, mha, m6, m7, m12, m16⟩ := id hP
  obtain ⟨qA, q6, mqA, m29, bo1, bo2, by1⟩ := id hQ
  obtain ⟨tI, t6, mmA, m39⟩ := id hMt
  obtain ⟨s4, s5, s6, s7, v50, v51, v52, v53, cS, moS, buS, tkS⟩ := id hS
  obtain ⟨hB, hLt, hSg, hWd, hAl, hSn, hPl⟩ := id pA
  have h100 : Wn b N ≤ 100 := by unfold Wn; omega
  have h14 := Sn_le b N
  have hX : wp_Picker_signOf (u.1 6) (u.1 3 14) a1 (fun r  => wp_M_signOf (v.1 4) (v.1 0 0) (v.1 0 7) a1 (fun r' n0 => r' = r ∧ n0 = 0)) := by
    rw [p14, m7]
    exact c_signOf fN hSg ms fun r => ⟨rfl, rfl⟩
  refine (s_Picker_signOf l u a1 _ hX).mono fun r w1 h => ?_
  obtain ⟨z, e, rfl, hv⟩ := h
  refine ⟨_, rfl, z, e, (s_M_signOf l v a1 _ hv).mono fun r2 w2 h2 => ?_⟩
  obtain ⟨z2, e2, n0, rfl, hv2⟩ := h2
  exact ⟨_, rfl, z2, e2, hv2.1, ⟨hT, hF, hW, b, N, I, wt, tc, tz, lt, st, sf, bu, mo, li, ch, hP, hQ, hMt, hS, hBk, hLa, hLk⟩⟩
theorem K_fault {l : Launch} {u v : St} (hR : Rel u v) : Cn l yX9_fault cX9_fault 1 (some .int) 0 LX u [aR 0] (okI (fun r u' => Cn l yX10_fault cX10_fault 1 (some .int) 0 LM v [aR 0] (okI (fun r' v' => r' = r ∧ Rel u' v')))) := by
  obtain ⟨hT, hF, hW, b, N, I, wt, tc, tz, lt, st, sf, bu, mo, li, ch, hP, hQ, hMt, hS, hBk, hLa, hLk⟩ := hR
  obtain ⟨fN, fQx, fQm, fTx, fTm, fRs, fTa, fB, fLe, fFt, fWl⟩ := facts hP hQ hMt
  obtain ⟨pb, pA, p14, p15, p16, p17, mE, ms, mw, mso, mal, mta, mha, m6, m7, m12, m16⟩ := id hP
  obtain ⟨qA, q6, mqA, m29, bo1, bo2, by1⟩ := id hQ
  obtain ⟨tI, t6, mmA, m39⟩ := id hMt
  obtain ⟨s4, s5, s6, s7, v50, v51, v52, v53, cS, moS, buS, tkS⟩ := id hS
  obtain ⟨hB, hLt, hSg, hWd, hAl, hSn, hPl⟩ := id pA
  have h100 : Wn b N ≤ 100 := by unfold Wn; omega
  have h14 := Sn_le b N
  have hF2 : u.1 0 9 = v.1 0 34 := hF
  have hX : wp_Picker_fault (u.1 0 9) (fun r  => wp_M_fault (v.1 0 0) (v.1 0 34) (fun r' n0 => r' = r ∧ n0 = 0)) := by
    rw [hF2]
    exact (c_fault fun r => ⟨rfl, rfl⟩)
  refine (s_Picker_fault l u  _ hX).mono fun r w1 h => ?_
  obtain ⟨z, e, rfl, hv⟩ := h
  refine ⟨_, rfl, z, e, (s_M_fault l v  _ hv).mono fun r2 w2 h2 => ?_⟩
  obtain ⟨z2, e2, n0, rfl, hv2⟩ := h2
  exact ⟨_, rfl, z2, e2, hv2.1, ⟨hT, hF, hW, b, N, I, wt, tc, tz, lt, st, sf, bu, mo, li, ch, hP, hQ, hMt, hS, hBk, hLa, hLk⟩⟩
theorem K_octet {l : Launch} {u v : St} (hR : Rel u v) (a1 : Int) : Cn l yX9_octet cX9_octet 2 (some .int) 0 LX u [aR 0, aI a1] (okI (fun r u' => Cn l yX10_octet cX10_octet 2 (some .int) 1 LM v [aR 0, aI a1] (okI (fun r' v' => r' = r ∧ Rel u' v')))) := by
  obtain ⟨hT, hF, hW, b, N, I, wt, tc, tz, lt, st, sf, bu, mo, li, ch, hP, hQ, hMt, hS, hBk, hLa, hLk⟩ := hR
  obtain ⟨fN, fQx, fQm, fTx, fTm, fRs, fTa, fB, fLe, fFt, fWl⟩ := facts hP hQ hMt
  obtain ⟨pb, pA, p14, p15, p16, p17, mE, ms, mw, mso, mal, mta, mha, m6, m7, m12, m16⟩ := id hP
  obtain ⟨qA, q6, mqA, m29, bo1, bo2, by1⟩ := id hQ
  obtain ⟨tI, t6, mmA, m39⟩ := id hMt
  obtain ⟨s4, s5, s6, s7, v50, v51, v52, v53, cS, moS, buS, tkS⟩ := id hS
  obtain ⟨hB, hLt, hSg, hWd, hAl, hSn, hPl⟩ := id pA
  have h100 : Wn b N ≤ 100 := by unfold Wn; omega
  have h14 := Sn_le b N
  obtain ⟨⟨sw, hC1, hC2, hC3, hC4⟩, hz1, hz2⟩ := id hW
  have hX : wp_Picker_octet (u.1 43) (u.1 41 6) a1 (fun r  => wp_M_octet (v.1 35) (v.1 0 0) (v.1 0 60) a1 (fun r' n0 => r' = r ∧ n0 = 0)) := by
    exact c_octet hC1 hC2 hC3 hC4 fun r => ⟨rfl, rfl⟩
  refine (s_Picker_octet l u a1 _ hX).mono fun r w1 h => ?_
  obtain ⟨z, e, rfl, hv⟩ := h
  refine ⟨_, rfl, z, e, (s_M_octet l v a1 _ hv).mono fun r2 w2 h2 => ?_⟩
  obtain ⟨z2, e2, n0, rfl, hv2⟩ := h2
  exact ⟨_, rfl, z2, e2, hv2.1, ⟨hT, hF, hW, b, N, I, wt, tc, tz, lt, st, sf, bu, mo, li, ch, hP, hQ, hMt, hS, hBk, hLa, hLk⟩⟩
theorem K_marks {l : Launch} {u v : St} (hR : Rel u v) (a1 : Int) : Cn l yX9_marks cX9_marks 2 (some .int) 0 LX u [aR 0, aI a1] (okI (fun r u' => Cn l yX10_marks cX10_marks 2 (some .int) 0 LM v [aR 0, aI a1] (okI (fun r' v' => r' = r ∧ Rel u' v')))) := by
  obtain ⟨hT, hF, hW, b, N, I, wt, tc, tz, lt, st, sf, bu, mo, li, ch, hP, hQ, hMt, hS, hBk, hLa, hLk⟩ := hR
  obtain ⟨fN, fQx, fQm, fTx, fTm, fRs, fTa, fB, fLe, fFt, fWl⟩ := facts hP hQ hMt
  obtain ⟨pb, pA, p14, p15, p16, p17, mE, ms, mw, mso, mal, mta, mha, m6, m7, m12, m16⟩ := id hP
  obtain ⟨qA, q6, mqA, m29, bo1, bo2, by1⟩ := id hQ
  obtain ⟨tI, t6, mmA, m39⟩ := id hMt
  obtain ⟨s4, s5, s6, s7, v50, v51, v52, v53, cS, moS, buS, tkS⟩ := id hS
  obtain ⟨hB, hLt, hSg, hWd, hAl, hSn, hPl⟩ := id pA
  have h100 : Wn b N ≤ 100 := by unfold Wn; omega
  have h14 := Sn_le b N
  obtain ⟨⟨sw, hC1, hC2, hC3, hC4⟩, hz1, hz2⟩ := id hW
  have hX : wp_Picker_marks (u.1 41 7) (u.1 41 8) a1 (fun r  => wp_M_marks (v.1 0 0) (v.1 0 61) (v.1 0 62) a1 (fun r' n0 => r' = r ∧ n0 = 0)) := by
    exact c_marks hC1 hC2 fun r => ⟨rfl, rfl⟩
  refine (s_Picker_marks l u a1 _ hX).mono fun r w1 h => ?_
  obtain ⟨z, e, rfl, hv⟩ := h
  refine ⟨_, rfl, z, e, (s_M_marks l v a1 _ hv).mono fun r2 w2 h2 => ?_⟩
  obtain ⟨z2, e2, n0, rfl, hv2⟩ := h2
  exact ⟨_, rfl, z2, e2, hv2.1, ⟨hT, hF, hW, b, N, I, wt, tc, tz, lt, st, sf, bu, mo, li, ch, hP, hQ, hMt, hS, hBk, hLa, hLk⟩⟩
theorem K_feed {l : Launch} {u v : St} (hR : Rel u v) (a1 a2 a3 a4 a5 : Int) : Cn l yX9_feed cX9_feed 6 (some .int) 1 LX u [aR 0, aI a1, aI a2, aI a3, aI a4, aI a5] (okI (fun r u' => Cn l yX10_feed cX10_feed 7 (some .int) 0 LM v [aR 0, aI a1, aI a2, aI a3, aI a4, aI a5] (okI (fun r' v' => r' = r ∧ Rel u' v')))) := by
  obtain ⟨hT, hF, hW, b, N, I, wt, tc, tz, lt, st, sf, bu, mo, li, ch, hP, hQ, hMt, hS, hBk, hLa, hLk⟩ := hR
  obtain ⟨fN, fQx, fQm, fTx, fTm, fRs, fTa, fB, fLe, fFt, fWl⟩ := facts hP hQ hMt
  obtain ⟨pb, pA, p14, p15, p16, p17, mE, ms, mw, mso, mal, mta, mha, m6, m7, m12, m16⟩ := id hP
  obtain ⟨qA, q6, mqA, m29, bo1, bo2, by1⟩ := id hQ
  obtain ⟨tI, t6, mmA, m39⟩ := id hMt
  obtain ⟨s4, s5, s6, s7, v50, v51, v52, v53, cS, moS, buS, tkS⟩ := id hS
  obtain ⟨hB, hLt, hSg, hWd, hAl, hSn, hPl⟩ := id pA
  have h100 : Wn b N ≤ 100 := by unfold Wn; omega
  have h14 := Sn_le b N
  obtain ⟨NT, hT1, hT2, hT3⟩ := hT
  have hX : wp_Picker_feed (u.1 2) (u.1 1 1) a1 a2 a3 a4 a5 (fun r o0 o1 => wp_M_feed (v.1 1) (v.1 2) (v.1 0 0) (v.1 0 2) a1 a2 a3 a4 a5 (fun r' n0 n1 n2 n3 => r' = r ∧ ∃ N' : Nat, TpR o0 n0 N' ∧ o1 = N' ∧ n3 = N')) := by
    exact by rw [hT2, hT3]; exact c_feed hT1 fun r t' mt' m5' N' h => ⟨rfl, N', h, rfl, rfl⟩
  refine (s_Picker_feed l u a1 a2 a3 a4 a5 _ hX).mono fun r w1 h => ?_
  obtain ⟨z, e, o0, o1, rfl, hv⟩ := h
  refine ⟨_, rfl, z, e, (s_M_feed l v a1 a2 a3 a4 a5 _ hv).mono fun r2 w2 h2 => ?_⟩
  obtain ⟨z2, e2, n0, n1, n2, n3, rfl, hv2⟩ := h2
  exact ⟨_, rfl, z2, e2, hv2.1, ⟨hv2.2, hF, hW, b, N, I, wt, tc, tz, lt, st, sf, bu, mo, li, ch, hP, hQ, hMt, hS, hBk, hLa, hLk⟩⟩
theorem K_end {l : Launch} {u v : St} (hR : Rel u v) (a1 : Int) : Cn l yX9_end cX9_end 2 (some .boolean) 0 LX u [aR 0, aI a1] (okI (fun r u' => Cn l yX10_end cX10_end 2 (some .boolean) 0 LM v [aR 0, aI a1] (okI (fun r' v' => r' = r ∧ Rel u' v')))) := by
  obtain ⟨hT, hF, hW, b, N, I, wt, tc, tz, lt, st, sf, bu, mo, li, ch, hP, hQ, hMt, hS, hBk, hLa, hLk⟩ := hR
  obtain ⟨fN, fQx, fQm, fTx, fTm, fRs, fTa, fB, fLe, fFt, fWl⟩ := facts hP hQ hMt
  obtain ⟨pb, pA, p14, p15, p16, p17, mE, ms, mw, mso, mal, mta, mha, m6, m7, m12, m16⟩ := id hP
  obtain ⟨qA, q6, mqA, m29, bo1, bo2, by1⟩ := id hQ
  obtain ⟨tI, t6, mmA, m39⟩ := id hMt
  obtain ⟨s4, s5, s6, s7, v50, v51, v52, v53, cS, moS, buS, tkS⟩ := id hS
  obtain ⟨hB, hLt, hSg, hWd, hAl, hSn, hPl⟩ := id pA
  have h100 : Wn b N ≤ 100 := by unfold Wn; omega
  have h14 := Sn_le b N
  obtain ⟨NT, hT1, hT2, hT3⟩ := hT
  have hX : wp_Picker_end (u.1 1 1) a1 (fun r o0 => wp_M_end (v.1 0 0) (v.1 0 2) a1 (fun r' n0 n1 => r' = r ∧ ∃ N' : Nat, TpR (u.1 2) (v.1 1) N' ∧ o0 = N' ∧ n1 = N')) := by
    exact by rw [hT2, hT3]; exact c_end hT1 fun r N' h => ⟨rfl, N', h, rfl, rfl⟩
  refine (s_Picker_end l u a1 _ hX).mono fun r w1 h => ?_
  obtain ⟨z, e, o0, rfl, hv⟩ := h
  refine ⟨_, rfl, z, e, (s_M_end l v a1 _ hv).mono fun r2 w2 h2 => ?_⟩
  obtain ⟨z2, e2, n0, n1, rfl, hv2⟩ := h2
  exact ⟨_, rfl, z2, e2, hv2.1, ⟨hv2.2, hF, hW, b, N, I, wt, tc, tz, lt, st, sf, bu, mo, li, ch, hP, hQ, hMt, hS, hBk, hLa, hLk⟩⟩
theorem K_step {l : Launch} {u v : St} (hR : Rel u v) (a1 : Int) : Cn l yX9_step cX9_step 2 (some .int) 5 LX u [aR 0, aI a1] (okI (fun r u' => Cn l yX10_step cX10_step 2 (some .int) 6 LM v [aR 0, aI a1] (okI (fun r' v' => r' = r ∧ Rel u' v')))) := by
  obtain ⟨hT, hF, hW, b, N, I, wt, tc, tz, lt, st, sf, bu, mo, li, ch, hP, hQ, hMt, hS, hBk, hLa, hLk⟩ := hR
  obtain ⟨fN, fQx, fQm, fTx, fTm, fRs, fTa, fB, fLe, fFt, fWl⟩ := facts hP hQ hMt
  obtain ⟨pb, pA, p14, p15, p16, p17, mE, ms, mw, mso, mal, mta, mha, m6, m7, m12, m16⟩ := id hP
  obtain ⟨qA, q6, mqA, m29, bo1, bo2, by1⟩ := id hQ
  obtain ⟨tI, t6, mmA, m39⟩ := id hMt
  obtain ⟨s4, s5, s6, s7, v50, v51, v52, v53, cS, moS, buS, tkS⟩ := id hS
  obtain ⟨hB, hLt, hSg, hWd, hAl, hSn, hPl⟩ := id pA
  have h100 : Wn b N ≤ 100 := by unfold Wn; omega
  have h14 := Sn_le b N
  have hX : wp_Picker_step (u.1 13) (u.1 19) (u.1 38) (u.1 40) (u.1 3 17) (u.1 18 6) (u.1 37 4) (u.1 37 5) (u.1 37 9) (u.2 33) a1 (fun r o0 o1 => r = spv (nX (Sn b N) I wt (leN b N) (taN b N I (mch b N tc tz lt st)) (tkl b N li) mo bu) a1) := by
    rw [p17, q6, s4, s5]
    exact b_step fQx fTa fLe tkS fun sp' z' => rfl
  have hM : wp_M_step (v.1 7) (v.1 8) (v.1 9) (v.1 10) (v.1 11) (v.1 12) (v.1 24) (v.1 25) (v.1 28) (v.1 29) (v.1 31) (v.1 33) (v.1 34) (v.1 0 0) (v.1 0 12) (v.1 0 16) (v.1 0 29) (v.1 0 39) (v.1 0 42) (v.1 0 43) (v.1 0 50) (v.1 0 51) (v.1 0 52) (v.1 0 56) a1 (fun r o0 o1 o2 o3 o4 o5 o6 o7 o8 => r = spv (nX (Sn b N) I wt (leN b N) (taN b N I (mch b N tc tz lt st)) (tkl b N li) mo bu) a1 ∧ (o6 = 0 ∨ (o6 = 1 ∧ StA (Sn b N) I wt (taN b N I (mch b N tc tz lt st)) (leN b N) o0 o1)) ∧ (o7 = 0 ∨ (o7 = 1 ∧ TkA (Sn b N) (tkl b N li) o3))) := by
    rw [m12, m16, m29, m39, v50, v51, v52]
    exact b_Mstep fB hLa hLk moS fun wo' ln' ins' tk' sp' z' h8 h9 => ⟨rfl, ⟨.inr ⟨rfl, h8⟩, .inr ⟨rfl, h9⟩⟩⟩
  refine (s_Picker_step l u a1 _ hX).mono fun r w1 h => ?_
  obtain ⟨z, e, o0, o1, rfl, hv⟩ := h
  refine ⟨_, rfl, z, e, (s_M_step l v a1 _ hM).mono fun r2 w2 h2 => ?_⟩
  obtain ⟨z2, e2, n0, n1, n2, n3, n4, n5, n6, n7, n8, rfl, hv2⟩ := h2
  exact ⟨_, rfl, z2, e2, hv2.1.trans hv.symm, ⟨hT, hF, hW, b, N, I, wt, tc, tz, lt, st, sf, bu, mo, li, ch, hP, hQ, hMt, hS, hBk, hv2.2.1, hv2.2.2⟩⟩
theorem K_rank {l : Launch} {u v : St} (hR : Rel u v) (a1 : Int) : Cn l yX9_rank cX9_rank 2 (some .int) 4 LX u [aR 0, aI a1] (okI (fun r u' => Cn l yX10_rank cX10_rank 5 (some .int) 2 LM v [aR 0, aI a1] (okI (fun r' v' => r' = r ∧ Rel u' v')))) := by
  obtain ⟨hT, hF, hW, b, N, I, wt, tc, tz, lt, st, sf, bu, mo, li, ch, hP, hQ, hMt, hS, hBk, hLa, hLk⟩ := hR
  obtain ⟨fN, fQx, fQm, fTx, fTm, fRs, fTa, fB, fLe, fFt, fWl⟩ := facts hP hQ hMt
  obtain ⟨pb, pA, p14, p15, p16, p17, mE, ms, mw, mso, mal, mta, mha, m6, m7, m12, m16⟩ := id hP
  obtain ⟨qA, q6, mqA, m29, bo1, bo2, by1⟩ := id hQ
  obtain ⟨tI, t6, mmA, m39⟩ := id hMt
  obtain ⟨s4, s5, s6, s7, v50, v51, v52, v53, cS, moS, buS, tkS⟩ := id hS
  obtain ⟨hB, hLt, hSg, hWd, hAl, hSn, hPl⟩ := id pA
  have h100 : Wn b N ≤ 100 := by unfold Wn; omega
  have h14 := Sn_le b N
  have hX : wp_Picker_rank (u.1 19) (u.1 3 17) (u.1 18 6) (u.2 33) a1 (fun r  => r = rkI (Sn b N) (fun s => wth I wt ((taN b N I (mch b N tc tz lt st)) s)) a1) := by
    rw [p17, q6]
    exact b_rank h14 fQx fTa rfl
  have hM : wp_M_rank (v.1 7) (v.1 9) (v.1 10) (v.1 12) (v.1 24) (v.1 25) (v.1 28) (v.1 29) (v.1 31) (v.1 0 0) (v.1 0 16) (v.1 0 29) (v.1 0 39) (v.1 0 42) a1 (fun r o0 o1 o2 o3 o4 => r = rkI (Sn b N) (fun s => wth I wt ((taN b N I (mch b N tc tz lt st)) s)) a1 ∧ (o4 = 0 ∨ (o4 = 1 ∧ StA (Sn b N) I wt (taN b N I (mch b N tc tz lt st)) (leN b N) o0 o1))) := by
    rw [m16, m29, m39]
    exact b_Mrank fB hLa fun wo' ln' ins' h8 => ⟨rfl, .inr ⟨rfl, h8⟩⟩
  refine (s_Picker_rank l u a1 _ hX).mono fun r w1 h => ?_
  obtain ⟨z, e, rfl, hv⟩ := h
  refine ⟨_, rfl, z, e, (s_M_rank l v a1 _ hM).mono fun r2 w2 h2 => ?_⟩
  obtain ⟨z2, e2, n0, n1, n2, n3, n4, rfl, hv2⟩ := h2
  exact ⟨_, rfl, z2, e2, hv2.1.trans hv.symm, ⟨hT, hF, hW, b, N, I, wt, tc, tz, lt, st, sf, bu, mo, li, ch, hP, hQ, hMt, hS, hBk, hv2.2, hLk⟩⟩
theorem K_choice {l : Launch} {u v : St} (hR : Rel u v) (a1 : Int) : Cn l yX9_choice cX9_choice 2 (some .int) 12 LX u [aR 0, aI a1] (okI (fun r u' => Cn l yX10_choice cX10_choice 2 (some .int) 8 LM v [aR 0, aI a1] (okI (fun r' v' => r' = r ∧ Rel u' v')))) := by
  obtain ⟨hT, hF, hW, b, N, I, wt, tc, tz, lt, st, sf, bu, mo, li, ch, hP, hQ, hMt, hS, hBk, hLa, hLk⟩ := hR
  obtain ⟨fN, fQx, fQm, fTx, fTm, fRs, fTa, fB, fLe, fFt, fWl⟩ := facts hP hQ hMt
  obtain ⟨pb, pA, p14, p15, p16, p17, mE, ms, mw, mso, mal, mta, mha, m6, m7, m12, m16⟩ := id hP
  obtain ⟨qA, q6, mqA, m29, bo1, bo2, by1⟩ := id hQ
  obtain ⟨tI, t6, mmA, m39⟩ := id hMt
  obtain ⟨s4, s5, s6, s7, v50, v51, v52, v53, cS, moS, buS, tkS⟩ := id hS
  obtain ⟨hB, hLt, hSg, hWd, hAl, hSn, hPl⟩ := id pA
  have h100 : Wn b N ≤ 100 := by unfold Wn; omega
  have h14 := Sn_le b N
  have hX : wp_Picker_choice (u.1 13) (u.1 19) (u.1 38) (u.1 40) (u.1 3 17) (u.1 18 6) (u.1 37 4) (u.1 37 5) (u.1 37 9) (u.1 37 10) (u.1 37 11) (u.1 39 4) (u.1 39 5) (u.1 39 6) (u.1 39 7) (u.1 39 8) (u.1 39 9) (u.2 33) a1 (fun r o0 o1 o2 o3 o4 o5 o6 o7 o8 o9 => (∃ x : Nat, r = x ∧ chP (Sn b N) I wt (leN b N) (taN b N I (mch b N tc tz lt st)) (tkl b N li) mo bu a1 x) ∧ (o2 = 0 ∨ (o2 = 1 ∧ ∃ x : Nat, o3 = x ∧ BsP (Sn b N) I wt (leN b N) (taN b N I (mch b N tc tz lt st)) (tkl b N li) mo bu 0 x))) := by
    rw [p17, q6, s4, s5]
    exact b_choice fQx fTa fLe tkS (tkl_sy b N li) (tkl_ir b N li) moS buS hBk fun x sp' z' bk' be' y1 y2 y3 y4 y5 y6 h1 h2 => ⟨⟨x, rfl, h1⟩, h2⟩
  have hM : wp_M_choice (v.1 7) (v.1 8) (v.1 9) (v.1 10) (v.1 11) (v.1 12) (v.1 24) (v.1 25) (v.1 28) (v.1 29) (v.1 31) (v.1 33) (v.1 34) (v.1 0 0) (v.1 0 12) (v.1 0 16) (v.1 0 29) (v.1 0 39) (v.1 0 42) (v.1 0 43) (v.1 0 50) (v.1 0 51) (v.1 0 52) (v.1 0 56) a1 (fun r o0 o1 o2 o3 o4 o5 o6 o7 o8 => (∃ x : Nat, r = x ∧ chP (Sn b N) I wt (leN b N) (taN b N I (mch b N tc tz lt st)) (tkl b N li) mo bu a1 x) ∧ (o6 = 0 ∨ (o6 = 1 ∧ StA (Sn b N) I wt (taN b N I (mch b N tc tz lt st)) (leN b N) o0 o1)) ∧ (o7 = 0 ∨ (o7 = 1 ∧ TkA (Sn b N) (tkl b N li) o3))) := by
    rw [m12, m16, m29, m39, v50, v51, v52]
    exact b_MchoiceQ fB hLa hLk moS fun x wo' ln' ins' tk' sp' z' h8 h9 h => ⟨⟨x, rfl, h⟩, ⟨.inr ⟨rfl, h8⟩, .inr ⟨rfl, h9⟩⟩⟩
  refine (s_Picker_choice l u a1 _ hX).mono fun r w1 h => ?_
  obtain ⟨z, e, o0, o1, o2, o3, o4, o5, o6, o7, o8, o9, rfl, hv⟩ := h
  refine ⟨_, rfl, z, e, (s_M_choice l v a1 _ hM).mono fun r2 w2 h2 => ?_⟩
  obtain ⟨z2, e2, n0, n1, n2, n3, n4, n5, n6, n7, n8, rfl, hv2⟩ := h2
  exact ⟨_, rfl, z2, e2, (by obtain ⟨x, e3, h3⟩ := hv.1; obtain ⟨x9, e4, h4⟩ := hv2.1; rw [e4, e3, h4.uniq h3]), ⟨hT, hF, hW, b, N, I, wt, tc, tz, lt, st, sf, bu, mo, li, ch, hP, hQ, hMt, hS, hv.2, hv2.2.1, hv2.2.2⟩⟩
theorem K_take {l : Launch} {u v : St} (hR : Rel u v) (a1 : Int) : Cn l yX9_take cX9_take 2 (some .int) 12 LX u [aR 0, aI a1] (okI (fun r u' => Cn l yX10_take cX10_take 2 (some .int) 8 LM v [aR 0, aI a1] (okI (fun r' v' => r' = r ∧ Rel u' v')))) := by
  obtain ⟨hT, hF, hW, b, N, I, wt, tc, tz, lt, st, sf, bu, mo, li, ch, hP, hQ, hMt, hS, hBk, hLa, hLk⟩ := hR
  obtain ⟨fN, fQx, fQm, fTx, fTm, fRs, fTa, fB, fLe, fFt, fWl⟩ := facts hP hQ hMt
  obtain ⟨pb, pA, p14, p15, p16, p17, mE, ms, mw, mso, mal, mta, mha, m6, m7, m12, m16⟩ := id hP
  obtain ⟨qA, q6, mqA, m29, bo1, bo2, by1⟩ := id hQ
  obtain ⟨tI, t6, mmA, m39⟩ := id hMt
  obtain ⟨s4, s5, s6, s7, v50, v51, v52, v53, cS, moS, buS, tkS⟩ := id hS
  obtain ⟨hB, hLt, hSg, hWd, hAl, hSn, hPl⟩ := id pA
  have h100 : Wn b N ≤ 100 := by unfold Wn; omega
  have h14 := Sn_le b N
  have hX : wp_Picker_take (u.1 13) (u.1 19) (u.1 38) (u.1 40) (u.1 3 17) (u.1 18 6) (u.1 37 4) (u.1 37 5) (u.1 37 7) (u.1 37 9) (u.1 37 10) (u.1 37 11) (u.1 39 4) (u.1 39 5) (u.1 39 6) (u.1 39 7) (u.1 39 8) (u.1 39 9) (u.2 33) a1 (fun r o0 o1 o2 o3 o4 o5 o6 o7 o8 o9 o10 => (∃ x : Nat, r = (wZ (Sn b N) I wt (taN b N I (mch b N tc tz lt st)) x : Int) ∧ o1 = x ∧ chP (Sn b N) I wt (leN b N) (taN b N I (mch b N tc tz lt st)) (tkl b N li) mo bu a1 x) ∧ (o3 = 0 ∨ (o3 = 1 ∧ ∃ x : Nat, o4 = x ∧ BsP (Sn b N) I wt (leN b N) (taN b N I (mch b N tc tz lt st)) (tkl b N li) mo bu 0 x))) := by
    rw [p17, q6, s4, s5,]
    exact b_take fQx fTa fLe tkS (tkl_sy b N li) (tkl_ir b N li) moS buS hBk fun x sp' z' bk' be' y1 y2 y3 y4 y5 y6 h1 h2 => ⟨⟨x, rfl, rfl, h1⟩, h2⟩
  have hM : wp_M_take (v.1 7) (v.1 8) (v.1 9) (v.1 10) (v.1 11) (v.1 12) (v.1 24) (v.1 25) (v.1 28) (v.1 29) (v.1 31) (v.1 33) (v.1 34) (v.1 0 0) (v.1 0 12) (v.1 0 16) (v.1 0 29) (v.1 0 39) (v.1 0 42) (v.1 0 43) (v.1 0 50) (v.1 0 51) (v.1 0 52) (v.1 0 53) (v.1 0 56) a1 (fun r o0 o1 o2 o3 o4 o5 o6 o7 o8 o9 => (∃ x : Nat, r = (wZ (Sn b N) I wt (taN b N I (mch b N tc tz lt st)) x : Int) ∧ o8 = x ∧ chP (Sn b N) I wt (leN b N) (taN b N I (mch b N tc tz lt st)) (tkl b N li) mo bu a1 x) ∧ (o6 = 0 ∨ (o6 = 1 ∧ StA (Sn b N) I wt (taN b N I (mch b N tc tz lt st)) (leN b N) o0 o1)) ∧ (o7 = 0 ∨ (o7 = 1 ∧ TkA (Sn b N) (tkl b N li) o3))) := by
    rw [m12, m16, m29, m39, v50, v51, v52, v53]
    exact b_MtakeQ fB hLa hLk moS fun x wo' ln' ins' tk' sp' z' h8 h9 h => ⟨⟨x, rfl, rfl, h⟩, ⟨.inr ⟨rfl, h8⟩, .inr ⟨rfl, h9⟩⟩⟩
  refine (s_Picker_take l u a1 _ hX).mono fun r w1 h => ?_
  obtain ⟨z, e, o0, o1, o2, o3, o4, o5, o6, o7, o8, o9, o10, rfl, hv⟩ := h
  refine ⟨_, rfl, z, e, (s_M_take l v a1 _ hM).mono fun r2 w2 h2 => ?_⟩
  obtain ⟨z2, e2, n0, n1, n2, n3, n4, n5, n6, n7, n8, n9, rfl, hv2⟩ := h2
  obtain ⟨⟨x, e3, e5, h3⟩, hb3⟩ := hv
  obtain ⟨⟨x9, e4, e6, h4⟩, hl4⟩ := hv2
  cases h4.uniq h3
  exact ⟨_, rfl, z2, e2, e4.trans e3.symm, ⟨hT, hF, hW, b, N, I, wt, tc, tz, lt, st, sf, bu, mo, li, x, hP, hQ, hMt, ⟨s4, s5, s6, e5, v50, v51, v52, e6, h4.lt, moS, buS, tkS⟩, hb3, hl4.1, hl4.2⟩⟩
theorem K_count {l : Launch} {u v : St} (hR : Rel u v) (a1 : Int) : Cn l yX9_count cX9_count 2 (some .int) 20 LX u [aR 0, aI a1] (okI (fun r u' => Cn l yX10_count cX10_count 2 (some .int) 8 LM v [aR 0, aI a1] (okI (fun r' v' => r' = r ∧ Rel u' v')))) := by
  obtain ⟨hT, hF, hW, b, N, I, wt, tc, tz, lt, st, sf, bu, mo, li, ch, hP, hQ, hMt, hS, hBk, hLa, hLk⟩ := hR
  obtain ⟨fN, fQx, fQm, fTx, fTm, fRs, fTa, fB, fLe, fFt, fWl⟩ := facts hP hQ hMt
  obtain ⟨pb, pA, p14, p15, p16, p17, mE, ms, mw, mso, mal, mta, mha, m6, m7, m12, m16⟩ := id hP
  obtain ⟨qA, q6, mqA, m29, bo1, bo2, by1⟩ := id hQ
  obtain ⟨tI, t6, mmA, m39⟩ := id hMt
  obtain ⟨s4, s5, s6, s7, v50, v51, v52, v53, cS, moS, buS, tkS⟩ := id hS
  obtain ⟨hB, hLt, hSg, hWd, hAl, hSn, hPl⟩ := id pA
  have h100 : Wn b N ≤ 100 := by unfold Wn; omega
  have h14 := Sn_le b N
  obtain ⟨⟨sw, hC1, hC2, hC3, hC4⟩, hz1, hz2⟩ := id hW
  have hol : v.1 0 60 = u.1 41 6 := hC2.1.trans hC1.1.symm
  have hX : wp_Picker_count (u.1 10) (u.1 13) (u.1 19) (u.1 38) (u.1 40) (u.1 3 14) (u.1 3 15) (u.1 3 16) (u.1 3 17) (u.1 18 6) (u.1 29 6) (u.1 37 4) (u.1 37 5) (u.1 37 6) (u.1 37 7) (u.1 37 9) (u.1 37 10) (u.1 37 11) (u.1 39 4) (u.1 39 5) (u.1 39 6) (u.1 39 7) (u.1 39 8) (u.1 39 9) (u.1 39 10) (u.1 41 6) (u.2 33) a1 (fun r o0 o1 o2 o3 o4 o5 o6 o7 o8 o9 o10 => cnP b N I (M0 (Wn b N) I (mch b N tc tz lt st)) wt (taN b N I (mch b N tc tz lt st)) (tkl b N li) mo bu li ch (u.1 41 6) a1 r ∧ (o2 = 0 ∨ (o2 = 1 ∧ ∃ x : Nat, o3 = x ∧ BsP (Sn b N) I wt (leN b N) (taN b N I (mch b N tc tz lt st)) (tkl b N li) mo bu 0 x))) := by
    rw [p14, p15, p16, p17, q6, t6, s4, s5, s6, s7]
    exact b_count hAl fQx fTa fLe tkS (tkl_sy b N li) (tkl_ir b N li) moS buS hBk fun r sp' z' bk' be' y1 y2 y3 y4 y5 y6 y7 h1 h2 => ⟨h1, h2⟩
  have hM : wp_M_count (v.1 7) (v.1 8) (v.1 9) (v.1 10) (v.1 11) (v.1 12) (v.1 24) (v.1 25) (v.1 28) (v.1 29) (v.1 31) (v.1 33) (v.1 34) (v.1 0 0) (v.1 0 6) (v.1 0 7) (v.1 0 12) (v.1 0 16) (v.1 0 29) (v.1 0 39) (v.1 0 42) (v.1 0 43) (v.1 0 50) (v.1 0 51) (v.1 0 52) (v.1 0 53) (v.1 0 56) (v.1 0 60) a1 (fun r o0 o1 o2 o3 o4 o5 o6 o7 o8 => cnP b N I (M0 (Wn b N) I (mch b N tc tz lt st)) wt (taN b N I (mch b N tc tz lt st)) (tkl b N li) mo bu li ch (u.1 41 6) a1 r ∧ (o6 = 0 ∨ (o6 = 1 ∧ StA (Sn b N) I wt (taN b N I (mch b N tc tz lt st)) (leN b N) o0 o1)) ∧ (o7 = 0 ∨ (o7 = 1 ∧ TkA (Sn b N) (tkl b N li) o3))) := by
    rw [m6, m7, m12, m16, m29, m39, v50, v51, v52, v53]
    exact by rw [hol]; exact b_Mcount fB hLa hLk moS fun r wo' ln' ins' tk' sp' z' h8 h9 h => ⟨h, ⟨.inr ⟨rfl, h8⟩, .inr ⟨rfl, h9⟩⟩⟩
  refine (s_Picker_count l u a1 _ hX).mono fun r w1 h => ?_
  obtain ⟨z, e, o0, o1, o2, o3, o4, o5, o6, o7, o8, o9, o10, rfl, hv⟩ := h
  refine ⟨_, rfl, z, e, (s_M_count l v a1 _ hM).mono fun r2 w2 h2 => ?_⟩
  obtain ⟨z2, e2, n0, n1, n2, n3, n4, n5, n6, n7, n8, rfl, hv2⟩ := h2
  exact ⟨_, rfl, z2, e2, hv2.1.uniq hv.1, ⟨hT, hF, hW, b, N, I, wt, tc, tz, lt, st, sf, bu, mo, li, ch, hP, hQ, hMt, hS, hv.2, hv2.2.1, hv2.2.2⟩⟩
