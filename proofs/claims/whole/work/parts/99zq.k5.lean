/-! K5: page, query, tell of both -/
theorem K_page {l : Launch} {u v : St} (hR : Rel u v) : Cn l yX9_page cX9_page 1 (some .int) 6 LX u [aR 0] (okI (fun r u' => Cn l yX10_page cX10_page 2 (some .int) 7 LM v [aR 0] (okI (fun r' v' => r' = r ∧ Rel u' v')))) := by
  obtain ⟨hT, hF, hW, b, N, I, wt, tc, tz, lt, st, sf, bu, mo, li, ch, hP, hQ, hMt, hS, hBk, hLa, hLk⟩ := hR
  obtain ⟨fN, fQx, fQm, fTx, fTm, fRs, fTa, fB, fLe, fFt, fWl⟩ := facts hP hQ hMt
  obtain ⟨pb, pA, p14, p15, p16, p17, mE, ms, mw, mso, mal, mta, mha, m6, m7, m12, m16⟩ := id hP
  obtain ⟨qA, q6, mqA, m29, bo1, bo2, by1⟩ := id hQ
  obtain ⟨tI, t6, mmA, m39⟩ := id hMt
  obtain ⟨s4, s5, s6, s7, v50, v51, v52, v53, cS, moS, buS, tkS⟩ := id hS
  obtain ⟨hB, hLt, hSg, hWd, hAl, hSn, hPl⟩ := id pA
  have h100 : Wn b N ≤ 100 := by unfold Wn; omega
  have h14 := Sn_le b N
  obtain ⟨NT, hT1, hT2, hT3⟩ := hT
  have hX : wp_Picker_page (u.1 2) (u.1 4) (u.1 5) (u.1 6) (u.1 7) (u.1 8) (u.1 9) (u.1 10) (u.1 11) (u.1 12) (u.1 13) (u.1 14) (u.1 15) (u.1 20) (u.1 21) (u.1 22) (u.1 30) (u.1 31) (u.1 32) (u.1 40) (u.1 1 1) (u.1 3 14) (u.1 3 15) (u.1 3 16) (u.1 3 17) (u.1 18 4) (u.1 18 6) (u.1 29 6) (u.1 37 6) (u.1 37 7) (u.1 37 10) (u.2 16) (u.2 17) (u.2 33) (fun r o0 o1 o2 o3 o4 o5 o6 o7 o8 o9 o10 o11 o12 o13 o14 o15 o16 o17 o18 o19 o20 o21 o22 o23 o24 o25 o26 => (∀ i, i < NT → o0 i = u.1 2 i) ∧ PgA o0 NT o1 o2 o3 o4 o5 o6 o7 o8 o9 o10 o11 o24 o25 ∧ MtI (Wn o0 NT) (Sn o0 NT) I (soN o0 NT) tc (mch o0 NT tc tz lt st) o12 o13 o14 o26 ∧ TkA (Sn o0 NT) (tkl o0 NT li) o15 ∧ r = (Sn o0 NT : Int) ∧ o16 = 0 ∧ o17 = (NT : Int) ∧ o18 = (sgn o0 NT NT : Int) ∧ o19 = (Wn o0 NT : Int) ∧ o20 = (Sn o0 NT : Int) ∧ o21 = (M0 (Wn o0 NT) I (mch o0 NT tc tz lt st) : Int) ∧ o22 = 0 ∧ o23 = 0) := by
    rw [hT2, q6, s6]
    exact b_page hT1.1 qA fun b la sa wb we ws al sb se ss sf9 sw bg en to tk lo hi tl h1 h2 h3 h4 => ⟨h1, h2, h3, h4, rfl, rfl, rfl, rfl, rfl, rfl, rfl, rfl, rfl⟩
  refine (s_Picker_page l u _ hX).mono fun r w1 h => ?_
  obtain ⟨z, e, o0, o1, o2, o3, o4, o5, o6, o7, o8, o9, o10, o11, o12, o13, o14, o15, o16, o17, o18, o19, o20, o21, o22, o23, o24, o25, o26, rfl, hv1, hv2, hv3, hv4, hvr, h16, h17, h18, h19, h20, h21, h22, h23⟩ := h
  have hM : wp_M_page (v.1 1) (v.1 3) (v.1 4) (v.1 5) (v.1 6) (v.1 7) (v.1 8) (v.1 9) (v.1 10) (v.1 11) (v.1 13) (v.1 14) (v.1 16) (v.1 17) (v.1 24) (v.1 25) (v.1 26) (v.1 27) (v.1 0 0) (v.1 0 2) (v.1 0 6) (v.1 0 7) (v.1 0 12) (v.1 0 16) (v.1 0 29) (v.1 0 39) (v.1 0 42) (v.1 0 43) (v.1 0 53) (fun r n0 n1 n2 n3 n4 n5 n6 n7 n8 n9 n10 n11 n12 n13 n14 n15 n16 n17 n18 n19 n20 n21 n22 => PgE o0 NT n0 ∧ MsA o0 NT n1 ∧ MwA o0 NT n2 n3 ∧ (∀ w, w < Wn o0 NT → n4 w = so o0 NT w) ∧ AlA o0 NT n5 ∧ MtA o0 NT n6 n7 ∧ MhA o0 NT n8 ∧ MmA (Wn o0 NT) I tc (mch o0 NT tc tz lt st) n9 n10 n11 n12 ∧ r = (Sn o0 NT : Int) ∧ n14 = 0 ∧ n15 = (NT : Int) ∧ n16 = (sgn o0 NT NT : Int) ∧ n17 = (Wn o0 NT : Int) ∧ n18 = (Sn o0 NT : Int) ∧ n19 = (M0 (Wn o0 NT) I (mch o0 NT tc tz lt st) : Int) ∧ n20 = 0 ∧ n21 = 0 ∧ n22 = 0) := by
    rw [hT3, m29]
    exact b_Mpage hT1 hv1 hv2.1 mqA fun pg sa wf wt9 so0 lk fr to hwa mi mf9 ml9 im h1 h2 h3 h4 h5 h6 h7 h8 => ⟨h1, h2, h3, h4, h5, h6, h7, h8, rfl, rfl, rfl, rfl, rfl, rfl, rfl, rfl, rfl, rfl⟩
  refine ⟨_, rfl, z, e, (s_M_page l v _ hM).mono fun r2 w2 h2 => ?_⟩
  obtain ⟨z2, e2, n0, n1, n2, n3, n4, n5, n6, n7, n8, n9, n10, n11, n12, n13, n14, n15, n16, n17, n18, n19, n20, n21, n22, rfl, g1, g2, g3, g4, g5, g6, g7, g8, gr, g14, g15, g16, g17, g18, g19, g20, g21, g22⟩ := h2
  exact ⟨_, rfl, z2, e2, gr.trans hvr.symm, ⟨⟨0, ⟨⟨by omega, fun i hi => absurd hi (Nat.not_lt_zero i)⟩, fun i hi => absurd hi (Nat.not_lt_zero i)⟩, h16, g14⟩, hF, hW, o0, NT, I, wt, tc, tz, lt, st, sf, bu, mo, li, 0, ⟨rfl, hv2, h17, h18, h19, h20, g1, g2, g3, g4, g5, g6, g7, g15, g16, g17, g18⟩, hQ, ⟨hv3, h21, g8, g19⟩, ⟨s4, s5, s6, h22, v50, v51, v52, g22, Nat.two_pow_pos _, moS, buS, hv4⟩, .inl h23, .inl g20, .inl g21⟩⟩
theorem K_query {l : Launch} (hl : l.stackTraces = false) {u v : St} (hR : Rel u v) : Ct l yX9_query cX9_query 1 (some .int) 7 1 LX u [aR 0] (okI (fun r u' => Cn l yX10_query cX10_query 2 (some .int) 6 LM v [aR 0] (okI (fun r' v' => v'.1 0 0 = 0 ∧ r' = r ∧ Rel u' v')))) (fun x u' => ∃ k : Int, (x, k) ∈ ([(3, 1)] : List (Nat × Int)) ∧ Cn l yX10_query cX10_query 2 (some .int) 6 LM v [aR 0] (okI (fun r' v' => v'.1 0 0 = k ∧ Rel u' v'))) := by
  obtain ⟨hT, hF, hW, b, N, I, wt, tc, tz, lt, st, sf, bu, mo, li, ch, hP, hQ, hMt, hS, hBk, hLa, hLk⟩ := hR
  obtain ⟨fN, fQx, fQm, fTx, fTm, fRs, fTa, fB, fLe, fFt, fWl⟩ := facts hP hQ hMt
  obtain ⟨pb, pA, p14, p15, p16, p17, mE, ms, mw, mso, mal, mta, mha, m6, m7, m12, m16⟩ := id hP
  obtain ⟨qA, q6, mqA, m29, bo1, bo2, by1⟩ := id hQ
  obtain ⟨tI, t6, mmA, m39⟩ := id hMt
  obtain ⟨s4, s5, s6, s7, v50, v51, v52, v53, cS, moS, buS, tkS⟩ := id hS
  obtain ⟨hB, hLt, hSg, hWd, hAl, hSn, hPl⟩ := id pA
  have h100 : Wn b N ≤ 100 := by unfold Wn; omega
  have h14 := Sn_le b N
  obtain ⟨NT, hT1, hT2, hT3⟩ := hT
  have hX : wp_Picker_query (u.1 2) (u.1 4) (u.1 7) (u.1 8) (u.1 9) (u.1 14) (u.1 15) (u.1 19) (u.1 20) (u.1 21) (u.1 22) (u.1 24) (u.1 25) (u.1 26) (u.1 27) (u.1 30) (u.1 31) (u.1 32) (u.1 40) (u.1 0 9) (u.1 1 1) (u.1 3 14) (u.1 3 16) (u.1 3 17) (u.1 18 4) (u.1 18 5) (u.1 18 6) (u.1 23 4) (u.1 23 5) (u.1 23 6) (u.1 28 2) (u.1 28 3) (u.1 29 6) (u.1 37 6) (u.1 37 7) (u.1 37 10) (u.2 16) (u.2 17) (u.2 33) (fun r o0 o1 o2 o3 o4 o5 o6 o7 o8 o9 o10 o11 o12 o13 o14 o15 o16 o17 o18 o19 o20 o21 o22 o23 o24 o25 => qF (u.1 2) NT = -1 ∧ r = (qM (u.1 2) NT : Int) ∧ QyA (qM (u.1 2) NT) (qWt (u.1 2) NT) (qTc (u.1 2) NT) (qTz (u.1 2) NT) (qLt (u.1 2) NT) (qSt (u.1 2) NT) (qSf (u.1 2) NT) o0 o1 o2 o3 o14 o15 ∧ MtI (Wn b N) (Sn b N) (qM (u.1 2) NT) (soN b N) (qTc (u.1 2) NT) (mch b N (qTc (u.1 2) NT) (qTz (u.1 2) NT) (qLt (u.1 2) NT) (qSt (u.1 2) NT)) o8 o9 o10 o25 ∧ TkA (Sn b N) (tkl b N li) o11 ∧ o12 = -1 ∧ o13 = 0 ∧ o16 = (qM (u.1 2) NT : Int) ∧ o22 = (M0 (Wn b N) (qM (u.1 2) NT) (mch b N (qTc (u.1 2) NT) (qTz (u.1 2) NT) (qLt (u.1 2) NT) (qSt (u.1 2) NT)) : Int) ∧ o23 = 0 ∧ o24 = 0) (fun x o0 o1 o2 o3 o4 o5 o6 o7 o8 o9 o10 o11 o12 o13 o14 o15 o16 o17 o18 o19 o20 o21 o22 o23 o24 o25 => x = 3 ∧ qF (u.1 2) NT ≠ -1 ∧ o0 = u.1 19 ∧ o1 = u.1 20 ∧ o2 = u.1 21 ∧ o3 = u.1 22 ∧ o8 = u.1 30 ∧ o9 = u.1 31 ∧ o10 = u.1 32 ∧ o11 = u.1 40 ∧ o12 = qF (u.1 2) NT ∧ o13 = 0 ∧ o14 = u.1 18 4 ∧ o15 = u.1 18 5 ∧ o16 = u.1 18 6 ∧ o22 = u.1 29 6 ∧ o23 = u.1 37 7 ∧ o24 = u.1 37 10 ∧ o25 = u.2 33) := by
    rw [pb, hT2, p14, p16, p17, s6]
    exact b_query hT1.1 hB hWd hPl (fun hf qw' qt' qz' ql' dw' dt' dz' dl' bg' en' to' tk' qs' qf' d1 d2 d3 d4 d5 tl' h1 h2 h3 => ⟨hf, rfl, h1, h2, h3, rfl, rfl, rfl, rfl, rfl, rfl⟩) (fun hf dw' dt' dz' dl' d1 d2 d3 d4 d5 => ⟨rfl, hf, rfl, rfl, rfl, rfl, rfl, rfl, rfl, rfl, rfl, rfl, rfl, rfl, rfl, rfl, rfl, rfl, rfl⟩)
  have hM : wp_M_query (v.1 1) (v.1 3) (v.1 4) (v.1 5) (v.1 6) (v.1 7) (v.1 12) (v.1 13) (v.1 14) (v.1 15) (v.1 16) (v.1 17) (v.1 18) (v.1 19) (v.1 20) (v.1 21) (v.1 22) (v.1 23) (v.1 24) (v.1 25) (v.1 26) (v.1 27) (v.1 0 0) (v.1 0 2) (v.1 0 7) (v.1 0 12) (v.1 0 29) (v.1 0 30) (v.1 0 31) (v.1 0 32) (v.1 0 33) (v.1 0 34) (v.1 0 39) (v.1 0 42) (v.1 0 43) (v.1 0 53) (fun r n0 n1 n2 n3 n4 n5 n6 n7 n8 n9 n10 n11 n12 n13 n14 n15 n16 n17 n18 n19 n20 n21 n22 n23 n24 n25 n26 n27 => (qF (u.1 2) NT = -1 ∧ n16 = 0 ∧ r = (qM (u.1 2) NT : Int) ∧ MqA (qM (u.1 2) NT) (qWt (u.1 2) NT) (qTc (u.1 2) NT) (qTz (u.1 2) NT) (qLt (u.1 2) NT) (qSt (u.1 2) NT) (qSf (u.1 2) NT) n0 n1 n2 n5 n4 n3 ∧ BoA n9 ∧ BoA n10 ∧ ByA n11 ∧ MmA (Wn b N) (qM (u.1 2) NT) (qTc (u.1 2) NT) (mch b N (qTc (u.1 2) NT) (qTz (u.1 2) NT) (qLt (u.1 2) NT) (qSt (u.1 2) NT)) n12 n13 n14 n15 ∧ n17 = 0 ∧ n18 = (qM (u.1 2) NT : Int) ∧ n23 = -1 ∧ n24 = (M0 (Wn b N) (qM (u.1 2) NT) (mch b N (qTc (u.1 2) NT) (qTz (u.1 2) NT) (qLt (u.1 2) NT) (qSt (u.1 2) NT)) : Int) ∧ n25 = 0 ∧ n26 = 0 ∧ n27 = 0) ∨ (qF (u.1 2) NT ≠ -1 ∧ n16 = 1 ∧ n0 = v.1 12 ∧ n1 = v.1 13 ∧ n2 = v.1 14 ∧ n3 = v.1 15 ∧ n4 = v.1 16 ∧ n5 = v.1 17 ∧ BoA n9 ∧ BoA n10 ∧ ByA n11 ∧ n12 = v.1 24 ∧ n13 = v.1 25 ∧ n14 = v.1 26 ∧ n15 = v.1 27 ∧ n17 = 0 ∧ n18 = v.1 0 29 ∧ n23 = qF (u.1 2) NT ∧ n24 = v.1 0 39 ∧ n25 = v.1 0 42 ∧ n26 = v.1 0 43 ∧ n27 = v.1 0 53)) := by
    rw [hT3, m7, m12]
    exact b_Mquery hT1 hB mE ms mw mso bo1 bo2 by1 (fun hf mw' mq' mz' mfs' ms' ml' nw' nt' nz' nf' ns' nl' mi' mf9' ml9' im' p1 p2 h1 h2 h3 h4 h5 => .inl ⟨hf, rfl, rfl, h1, h2, h3, h4, h5, rfl, rfl, rfl, rfl, rfl, rfl, rfl⟩) (fun hf nw' nt' nz' nf' ns' nl' p0 p1 p2 h1 h2 h3 => .inr ⟨hf, rfl, rfl, rfl, rfl, rfl, rfl, rfl, h1, h2, h3, rfl, rfl, rfl, rfl, rfl, rfl, rfl, rfl, rfl, rfl, rfl⟩)
  refine (s_Picker_query l hl u _ _ hX).mono (fun r w1 h => ?_) (fun x w1 h => ?_)
  · obtain ⟨z, e, o0, o1, o2, o3, o4, o5, o6, o7, o8, o9, o10, o11, o12, o13, o14, o15, o16, o17, o18, o19, o20, o21, o22, o23, o24, o25, rfl, hf, hvr, h1, h2, h3, h12, h13, h16, h22, h23, h24⟩ := h
    refine ⟨_, rfl, z, e, (s_M_query l v _ hM).mono fun r2 w2 h9 => ?_⟩
    obtain ⟨z2, e2, n0, n1, n2, n3, n4, n5, n6, n7, n8, n9, n10, n11, n12, n13, n14, n15, n16, n17, n18, n19, n20, n21, n22, n23, n24, n25, n26, n27, rfl, hv2⟩ := h9
    rcases hv2 with ⟨_, g16, gr, g1, g2, g3, g4, g5, g17, g18, g23, g24, g25, g26, g27⟩ | ⟨hf2, _⟩
    · exact ⟨_, rfl, z2, e2, g16, gr.trans hvr.symm, ⟨⟨0, ⟨⟨by omega, fun i hi => absurd hi (Nat.not_lt_zero i)⟩, fun i hi => absurd hi (Nat.not_lt_zero i)⟩, h13, g17⟩, (h12.trans g23.symm), hW, b, N, (qM (u.1 2) NT), (qWt (u.1 2) NT), (qTc (u.1 2) NT), (qTz (u.1 2) NT), (qLt (u.1 2) NT), (qSt (u.1 2) NT), (qSf (u.1 2) NT), bu, mo, li, 0, hP, ⟨h1, h16, g1, g18, g2, g3, g4⟩, ⟨h2, h22, g5, g24⟩, ⟨s4, s5, s6, h23, v50, v51, v52, g27, Nat.two_pow_pos _, moS, buS, h3⟩, .inl h24, .inl g25, .inl g26⟩⟩
    · exact absurd hf hf2
  · obtain ⟨o0, o1, o2, o3, o4, o5, o6, o7, o8, o9, o10, o11, o12, o13, o14, o15, o16, o17, o18, o19, o20, o21, o22, o23, o24, o25, hpj, hE⟩ := h
    refine ⟨_, hpj, ?_⟩
    obtain ⟨hx, hf, h0, h1, h2, h3, h8, h9, h10, h11, h12, h13, h14, h15, h16, h22, h23, h24, h25⟩ := hE
    refine ⟨1, by rw [hx]; decide, (s_M_query l v _ hM).mono fun r2 w2 hh => ?_⟩
    obtain ⟨z2, e2, n0, n1, n2, n3, n4, n5, n6, n7, n8, n9, n10, n11, n12, n13, n14, n15, n16, n17, n18, n19, n20, n21, n22, n23, n24, n25, n26, n27, rfl, hv2⟩ := hh
    rcases hv2 with ⟨hf2, _⟩ | ⟨_, g16, k0, k1, k2, k3, k4, k5, g2, g3, g4, k12, k13, k14, k15, g17, g18, g23, g24, g25, g26, g27⟩
    · exact absurd hf2 hf
    · subst h0 h1 h2 h3 h8 h9 h10 h11 h14 h15 h25 k0 k1 k2 k3 k4 k5 k12 k13 k14 k15 h24 g25 g26
      exact ⟨_, rfl, z2, e2, g16, ⟨⟨0, ⟨⟨by omega, fun i hi => absurd hi (Nat.not_lt_zero i)⟩, fun i hi => absurd hi (Nat.not_lt_zero i)⟩, h13, g17⟩, (h12.trans g23.symm), hW, b, N, I, wt, tc, tz, lt, st, sf, bu, mo, li, ch, hP, ⟨qA, h16.trans q6, mqA, g18.trans m29, g2, g3, g4⟩, ⟨tI, h22.trans t6, mmA, g24.trans m39⟩, ⟨s4, s5, s6, h23.trans s7, v50, v51, v52, g27.trans v53, cS, moS, buS, tkS⟩, hBk, hLa, hLk⟩⟩
theorem tl_b {a1 a2 : Int} {bu : Nat} (h : (0 ≤ a1 ∧ a1 ≤ 2) ∧ ((a1 = 0 → 20 ≤ a2 ∧ a2 ≤ 700) ∧ (a1 = 1 → 1 ≤ a2 ∧ a2 ≤ 6) ∧ (a1 = 2 → 0 ≤ a2 ∧ a2 ≤ 100))) (hb : bu ≤ 700) : ∃ b9 : Nat, tlN 0 a1 a2 bu = b9 ∧ b9 ≤ 700 := by
  unfold tlN
  split
  · exact ⟨a2.toNat, by omega, by omega⟩
  · exact ⟨bu, rfl, hb⟩
theorem tl_m {a1 a2 : Int} {mo : Nat} (h : (0 ≤ a1 ∧ a1 ≤ 2) ∧ ((a1 = 0 → 20 ≤ a2 ∧ a2 ≤ 700) ∧ (a1 = 1 → 1 ≤ a2 ∧ a2 ≤ 6) ∧ (a1 = 2 → 0 ≤ a2 ∧ a2 ≤ 100))) (hb : mo ≤ 6) : ∃ b9 : Nat, tlN 1 a1 a2 mo = b9 ∧ b9 ≤ 6 := by
  unfold tlN
  split
  · exact ⟨a2.toNat, by omega, by omega⟩
  · exact ⟨mo, rfl, hb⟩
theorem K_tell {l : Launch} (hl : l.stackTraces = false) {u v : St} (hR : Rel u v) (a1 a2 : Int) : Ct l yX9_tell cX9_tell 4 (some .int) 7 2 LX u [aR 0, aI a1, aI a2] (okI (fun r u' => Cn l yX10_tell cX10_tell 4 (some .int) 1 LM v [aR 0, aI a1, aI a2] (okI (fun r' v' => v'.1 0 0 = 0 ∧ r' = r ∧ Rel u' v')))) (fun x u' => ∃ k : Int, (x, k) ∈ ([(2, 1), (3, 2)] : List (Nat × Int)) ∧ Cn l yX10_tell cX10_tell 4 (some .int) 1 LM v [aR 0, aI a1, aI a2] (okI (fun r' v' => v'.1 0 0 = k ∧ Rel u' v'))) := by
  obtain ⟨hT, hF, hW, b, N, I, wt, tc, tz, lt, st, sf, bu, mo, li, ch, hP, hQ, hMt, hS, hBk, hLa, hLk⟩ := hR
  obtain ⟨fN, fQx, fQm, fTx, fTm, fRs, fTa, fB, fLe, fFt, fWl⟩ := facts hP hQ hMt
  obtain ⟨pb, pA, p14, p15, p16, p17, mE, ms, mw, mso, mal, mta, mha, m6, m7, m12, m16⟩ := id hP
  obtain ⟨qA, q6, mqA, m29, bo1, bo2, by1⟩ := id hQ
  obtain ⟨tI, t6, mmA, m39⟩ := id hMt
  obtain ⟨s4, s5, s6, s7, v50, v51, v52, v53, cS, moS, buS, tkS⟩ := id hS
  obtain ⟨hB, hLt, hSg, hWd, hAl, hSn, hPl⟩ := id pA
  have h100 : Wn b N ≤ 100 := by unfold Wn; omega
  have h14 := Sn_le b N
  have hX : wp_Picker_tell (u.1 40) (u.1 3 17) (u.1 37 4) (u.1 37 5) (u.1 37 6) (u.1 37 7) (u.1 37 10) (u.2 16) (u.2 17) a1 a2 (fun r o0 o1 o2 o3 o4 o5 => ((0 ≤ a1 ∧ a1 ≤ 2) ∧ ((a1 = 0 → 20 ≤ a2 ∧ a2 ≤ 700) ∧ (a1 = 1 → 1 ≤ a2 ∧ a2 ≤ 6) ∧ (a1 = 2 → 0 ≤ a2 ∧ a2 ≤ 100))) ∧ (∃ l9 : Nat, tlN 2 a1 a2 li = l9 ∧ TkA (Sn b N) (tkl b N l9) o0) ∧ r = tlO a1 bu mo li ∧ o1 = tlN 0 a1 a2 bu ∧ o2 = tlN 1 a1 a2 mo ∧ o3 = tlN 2 a1 a2 li ∧ o4 = 0 ∧ o5 = 0) (fun x o0 o1 o2 o3 o4 o5 => (x = 2 ∧ (¬ (0 ≤ a1 ∧ a1 ≤ 2)) ∧ o0 = u.1 40 ∧ o1 = (bu : Int) ∧ o2 = (mo : Int) ∧ o3 = (li : Int) ∧ o4 = (ch : Int) ∧ o5 = u.1 37 10) ∨ (x = 3 ∧ ((0 ≤ a1 ∧ a1 ≤ 2) ∧ ¬ ((a1 = 0 → 20 ≤ a2 ∧ a2 ≤ 700) ∧ (a1 = 1 → 1 ≤ a2 ∧ a2 ≤ 6) ∧ (a1 = 2 → 0 ≤ a2 ∧ a2 ≤ 100))) ∧ o0 = u.1 40 ∧ o1 = (bu : Int) ∧ o2 = (mo : Int) ∧ o3 = (li : Int) ∧ o4 = (ch : Int) ∧ o5 = u.1 37 10)) := by
    rw [p17, s4, s5, s6, s7]
    exact b_tell hPl (by omega) (fun h1 h2 tk' l' e h3 => ⟨⟨h1, h2⟩, ⟨l', e, h3⟩, rfl, rfl, rfl, rfl, rfl, rfl⟩) (fun h => .inl ⟨rfl, h, rfl, rfl, rfl, rfl, rfl, rfl⟩) (fun h1 h2 => .inr ⟨rfl, ⟨h1, h2⟩, rfl, rfl, rfl, rfl, rfl, rfl⟩)
  have hM : wp_M_tell (v.1 0 0) (v.1 0 43) (v.1 0 50) (v.1 0 51) (v.1 0 52) (v.1 0 53) a1 a2 (fun r o0 o1 o2 o3 o4 o5 => (((0 ≤ a1 ∧ a1 ≤ 2) ∧ ((a1 = 0 → 20 ≤ a2 ∧ a2 ≤ 700) ∧ (a1 = 1 → 1 ≤ a2 ∧ a2 ≤ 6) ∧ (a1 = 2 → 0 ≤ a2 ∧ a2 ≤ 100))) ∧ o0 = 0 ∧ r = tlO a1 bu mo li ∧ o1 = 0 ∧ o2 = tlN 0 a1 a2 bu ∧ o3 = tlN 1 a1 a2 mo ∧ o4 = tlN 2 a1 a2 li ∧ o5 = 0) ∨ (o0 = 1 ∧ (¬ (0 ≤ a1 ∧ a1 ≤ 2)) ∧ o1 = v.1 0 43 ∧ o2 = (bu : Int) ∧ o3 = (mo : Int) ∧ o4 = (li : Int) ∧ o5 = (ch : Int)) ∨ (o0 = 2 ∧ ((0 ≤ a1 ∧ a1 ≤ 2) ∧ ¬ ((a1 = 0 → 20 ≤ a2 ∧ a2 ≤ 700) ∧ (a1 = 1 → 1 ≤ a2 ∧ a2 ≤ 6) ∧ (a1 = 2 → 0 ≤ a2 ∧ a2 ≤ 100))) ∧ o1 = v.1 0 43 ∧ o2 = (bu : Int) ∧ o3 = (mo : Int) ∧ o4 = (li : Int) ∧ o5 = (ch : Int))) := by
    rw [v50, v51, v52, v53]
    exact b_Mtell (fun h1 h2 => .inl ⟨⟨h1, h2⟩, rfl, rfl, rfl, rfl, rfl, rfl, rfl⟩) (fun h => .inr (.inl ⟨rfl, h, rfl, rfl, rfl, rfl, rfl⟩)) (fun h1 h2 => .inr (.inr ⟨rfl, ⟨h1, h2⟩, rfl, rfl, rfl, rfl, rfl⟩))
  refine (s_Picker_tell l hl u a1 a2 _ _ hX).mono (fun r w1 h => ?_) (fun x w1 h => ?_)
  · obtain ⟨z, e, o0, o1, o2, o3, o4, o5, rfl, hv⟩ := h
    refine ⟨_, rfl, z, e, (s_M_tell l v a1 a2 _ hM).mono fun r2 w2 h2 => ?_⟩
    obtain ⟨z2, e2, n0, n1, n2, n3, n4, n5, rfl, hv2⟩ := h2
    rcases hv2 with hv2 | hv2 | hv2
    · exact ⟨_, rfl, z2, e2, hv2.2.1, hv2.2.2.1.trans hv.2.2.1.symm, (by obtain ⟨⟨l9, el, htk⟩, _, d1, d2, d3, d4, d5⟩ := hv.2; obtain ⟨_, c1, c2, c3, c4, c5⟩ := hv2.2.2; obtain ⟨b9, eb, hb9⟩ := tl_b hv.1 buS; obtain ⟨m9, em, hm9⟩ := tl_m hv.1 moS; exact ⟨hT, hF, hW, b, N, I, wt, tc, tz, lt, st, sf, b9, m9, l9, 0, hP, hQ, hMt, ⟨d1.trans eb, d2.trans em, d3.trans el, d4, c2.trans eb, c3.trans em, c4.trans el, c5, Nat.two_pow_pos _, hm9, hb9, htk⟩, .inl d5, hLa, .inl c1⟩)⟩
    · exfalso; have g1 := hv.1; have g2 := hv2.2.1; omega
    · exfalso; have g1 := hv.1; have g2 := hv2.2.1; omega
  · obtain ⟨o0, o1, o2, o3, o4, o5, hpj, hE⟩ := h
    refine ⟨_, hpj, ?_⟩
    rcases hE with hE | hE
    · refine ⟨1, by rw [hE.1]; decide, (s_M_tell l v a1 a2 _ hM).mono fun r2 w2 h2 => ?_⟩
      obtain ⟨z2, e2, n0, n1, n2, n3, n4, n5, rfl, hv2⟩ := h2
      rcases hv2 with hv2 | hv2 | hv2
      · exfalso; have g1 := hv2.1; have g2 := hE.2.1; omega
      · exact ⟨_, rfl, z2, e2, hv2.1, (by obtain ⟨d0, d1, d2, d3, d4, d5⟩ := hE.2.2; obtain ⟨c1, c2, c3, c4, c5⟩ := hv2.2.2; subst d0 d5 c1; exact ⟨hT, hF, hW, b, N, I, wt, tc, tz, lt, st, sf, bu, mo, li, ch, hP, hQ, hMt, ⟨d1, d2, d3, d4, c2, c3, c4, c5, cS, moS, buS, tkS⟩, hBk, hLa, hLk⟩)⟩
      · exfalso; have g1 := hv2.2.1; have g2 := hE.2.1; omega
    · refine ⟨2, by rw [hE.1]; decide, (s_M_tell l v a1 a2 _ hM).mono fun r2 w2 h2 => ?_⟩
      obtain ⟨z2, e2, n0, n1, n2, n3, n4, n5, rfl, hv2⟩ := h2
      rcases hv2 with hv2 | hv2 | hv2
      · exfalso; have g1 := hv2.1; have g2 := hE.2.1; omega
      · exfalso; have g1 := hv2.2.1; have g2 := hE.2.1; omega
      · exact ⟨_, rfl, z2, e2, hv2.1, (by obtain ⟨d0, d1, d2, d3, d4, d5⟩ := hE.2.2; obtain ⟨c1, c2, c3, c4, c5⟩ := hv2.2.2; subst d0 d5 c1; exact ⟨hT, hF, hW, b, N, I, wt, tc, tz, lt, st, sf, bu, mo, li, ch, hP, hQ, hMt, ⟨d1, d2, d3, d4, c2, c3, c4, c5, cS, moS, buS, tkS⟩, hBk, hLa, hLk⟩)⟩
