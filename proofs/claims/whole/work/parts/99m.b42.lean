/-! B42: the reference writes a set -/
theorem b_Mwrite {b pg sa wf wt9 so0 fr to mw mt mfs mi mf ml im inw win mo o1 o2 o3 o4 : Nat → Int} {N I ch : Nat} {wt tc : Nat → Nat} {R : Nat → Nat → Bool} {sf : Nat → Bool} {thr z1 z2 z3 len sm tm n : Int} {Q : Int → (Nat → Int) → (Nat → Int) → (Nat → Int) → (Nat → Int) → (Nat → Int) → (Nat → Int) → (Nat → Int) → Int → Int → Int → Int → Int → Int → Int → Int → Int → Prop} (hB : Byt b N) (hp : PgE b N pg) (hm : MsA b N sa) (hW : MwA b N wf wt9) (hF : MtA b N fr to) (hS : ∀ w, w < Wn b N → so0 w = so b N w) (hLe : FtA (Sn b N) (leN b N) fr to) (hT : TcA (Wn b N) I tc R mt) (hRs : ∀ k v, k < I → R k v = true → soN b N v < Sn b N ∧ v + tc k ≤ fW b N (soN b N v + 1)) (hw : QwA I wt mw) (hM : MmA (Wn b N) I tc R mi mf ml im) (hsf : ∀ k, k < I → mfs k = bI (sf k)) (hch : ch < 2 ^ 14)
    (hq0 : ¬ (10 ≤ n ∧ n ≤ 600) → Q 0 inw win mo o1 o2 o3 o4 1 z1 z2 z3 len sm tm 0 0)
    (hq : ∀ (n' : Nat) (inw' win' mo' o1' o2' o3' o4' : Nat → Int) (z1' z2' z3' len' sm' tm' : Int) (st : WSt) (ah : Int) (op : Bool), n = n' → 10 ≤ n' → n' ≤ 600 → WrR b N I wt tc R sf n' ch (Sn b N) st ah op → MrC (if op then addS 11 st else st) mo' len' sm' tm' → Q len' inw' win' mo' o1' o2' o3' o4' 0 z1' z2' z3' len' sm' tm' 0 0) : wp_M_write pg sa wf wt9 so0 fr to mw mt mfs mi mf ml im inw win mo o1 o2 o3 o4 thr (sgn b N N) (Wn b N) (Sn b N) I (M0 (Wn b N) I R) z1 z2 z3 ch len sm tm 0 0 n Q := by
  have hN := hB.1
  have hsN := sgn_le b N N
  have hFT := FTo_N (b := b) hN
  have h100 := hFT.1
  have h14 := Sn_le b N
  have hLbN := Lb_le (b := b) hN
  unfold wp_M_write
  refine b_Min ?_
  by_cases hn : 10 ≤ n ∧ n ≤ 600
  · rw [decide_eq_true hn]
    refine jn1_i ⟨fun _ => ?_, fun g => absurd g (by decide)⟩
    unfold wp_M_throwsIf
    refine ⟨fun _ => ⟨by decide, fun _ => ?_, fun g => absurd rfl g⟩, fun g => absurd rfl g⟩
    obtain ⟨n', rfl⟩ : ∃ n' : Nat, n = n' := ⟨n.toNat, by omega⟩
    unfold wp_M_begins
    refine ⟨fun _ _ mo _ _ _ _ _ _ _ len sm tm so to x23 x24 x25 => ∃ (s : Nat) (st : WSt) (op : Bool), x25 = s ∧ s ≤ Sn b N ∧ x24 = bI op ∧ -1 ≤ x23 ∧ x23 ≤ 14 ∧ so = 0 ∧ to = 0 ∧ WrR b N I wt tc R sf n' ch s st x23 op ∧ MrC st mo len sm tm ∧ st.1.length ≤ 26 * s + (if s = 0 then 0 else Lb b N (sEn b N (s - 1))) ∧ st.2.1 ≤ 601 * s ∧ st.2.2 ≤ 601 * s, fun _ _ _ _ _ _ _ _ _ _ _ _ _ _ _ _ _ x25 => Sn b N - x25.toNat, ⟨0, ([], 0, 0), false, rfl, by omega, rfl, by omega, by omega, rfl, rfl, ⟨rfl, rfl, rfl⟩, MrC_0 mo, by show 0 ≤ _; omega, by show 0 ≤ _; omega, by show 0 ≤ _; omega⟩, ?_⟩
    rintro inw win mo o1 o2 o3 o4 z1 z2 z3 len sm tm _ _ x23 _ _ ⟨s, st, op, rfl, hs, rfl, ha1, ha2, rfl, rfl, hR, hC, hl1, hl2, hl3⟩
    have lbs : (if s = 0 then 0 else Lb b N (sEn b N (s - 1))) ≤ 5300 := by
      split
      · omega
      · have := (sEn_b (b := b) (N := N) (k := s - 1) (Sn_lt (by omega))).2.1
        exact Nat.le_trans (Lb_mono this) hLbN
    refine ⟨fun h1 => ?_, fun h1 => b_Mholds (by omega) (by omega) ?_⟩
    · have es : s = Sn b N := by omega
      rw [es] at hR
      refine ⟨fun h2 => ?_, fun h2 => ?_⟩
      · have := hq n' inw win mo o1 o2 o3 o4 z1 z2 z3 len sm tm st x23 op rfl (by omega) (by omega) hR
        rw [bI_0 h2, if_neg Bool.false_ne_true] at this
        exact this hC
      · refine b_MaddS (a := 25) (c := 11) (by decide) (by decide) (by decide) hC (by rw [show (sBy 25).length = 2 from rfl]; omega) fun mo' len' h3 => ?_
        have := hq n' inw win mo' o1 o2 o3 o4 z1 z2 z3 len' sm tm st x23 op rfl (by omega) (by omega) hR
        rw [bI_1 h2, if_pos rfl] at this
        exact this h3
    · have hsS : s < Sn b N := by omega
      have hse := sEn_b (Sn_lt hsS)
      have lbE : Lb b N (sEn b N s) ≤ 5300 := Nat.le_trans (Lb_mono hse.2.1) hLbN
      have lbP : (if s = 0 then 0 else Lb b N (sEn b N (s - 1))) ≤ Lb b N (sBg b N s) := by
        split
        · exact Nat.zero_le _
        · exact Lb_mono (sBg_lt (show s - 1 < s by omega) (Sn_lt hsS))
      have lbB : Lb b N (sBg b N s) ≤ Lb b N (sEn b N s) := Lb_mono (by omega)
      refine ⟨fun _ _ mo _ _ _ _ _ _ _ len sm tm so to x23 x24 => ∃ (st : WSt) (op : Bool), x24 = bI op ∧ -1 ≤ x23 ∧ x23 ≤ 14 ∧ so = 0 ∧ to = 0 ∧ WrR b N I wt tc R sf n' ch (s + 1) st x23 op ∧ MrC st mo len sm tm ∧ st.1.length ≤ 26 * (s + 1) + Lb b N (sEn b N s) ∧ st.2.1 ≤ 601 * (s + 1) ∧ st.2.2 ≤ 601 * (s + 1), ?_, fun h2 => ⟨st, op, rfl, ha1, ha2, rfl, rfl, ⟨st, x23, op, hR, .inl ⟨bI_0 h2, rfl, rfl, rfl⟩⟩, hC, by omega, by omega, by omega⟩, fun h2 => ?_⟩
      · rintro inw win mo o1 o2 o3 o4 z1 z2 z3 len sm tm _ _ x23 _ ⟨st, op, rfl, a1, a2, rfl, rfl, a3, a4, a5, a6, a7⟩
        exact ⟨⟨by omega, by omega⟩, ⟨s + 1, st, op, by omega, by omega, rfl, a1, a2, rfl, rfl, a3, a4, by rw [if_neg (by omega), Nat.add_sub_cancel]; exact a5, a6, a7⟩, by (try dsimp only); omega⟩
      · have htb : ch.testBit s = true := bI_1 h2
        refine b_Mcuts (F := FN b N) (T := TN b N) hFT (MlA_N hW) hT hw hM hS hLe hsS fun r inw' win' cf cl wh hr => ⟨fun h3 => ?_, fun h3 => ?_⟩
        · rcases hr with ⟨_, hnn, hcut⟩ | ⟨g, _⟩
          · have hct : CtN b N I wt tc R n' s cf cl wh := hcut
            have hrg := ct_rng hsS hct hnn
            have hff := fW_mono (b := b) (N := N) (show s ≤ s + 1 by omega)
            have hfl := fW_le b N (s + 1)
            refine b_MfirstW hS hsS (b_MwordsIn hS hsS ?_)
            rw [show (if fW b N s < fW b N (s + 1) then (fW b N s : Int) else -1) = sfI b N s from rfl]
            have sfb : -1 ≤ sfI b N s ∧ sfI b N s ≤ 100 := by unfold sfI; split <;> omega
            have opL9 : (wh = 0 ∧ sfI b N s < cf) ↔ sfI b N s < cf := by
              refine ⟨fun g => g.2, fun g => ⟨?_, g⟩⟩
              rcases hct with ⟨_, _, k1, _⟩ | ⟨_, k, _⟩
              · rw [show (if fW b N s < fW b N (s + 1) then (fW b N s : Int) else -1) = sfI b N s from rfl] at k1
                omega
              · exact k
            have opR9 : (wh = 0 ∧ cl < sfI b N s + ((fW b N (s + 1) : Int) - fW b N s) - 1) ↔ cl < slI b N s := by
              rcases hct with ⟨_, k0, _, k1⟩ | ⟨_, k, _⟩
              · rw [show (if fW b N s < fW b N (s + 1) then (fW b N (s + 1) : Int) - 1 else -1) = slI b N s from rfl] at k1
                omega
              · have : sfI b N s + ((fW b N (s + 1) : Int) - fW b N s) - 1 = slI b N s := by
                  have hw9 : fW b N s < fW b N (s + 1) := by
                    rcases hrg with ⟨g, _⟩ | ⟨p, q, _, _, g1, g2, g3, _⟩
                    · exact absurd ⟨k, g⟩ hnn
                    · omega
                  unfold sfI slI
                  rw [if_pos hw9, if_pos hw9]
                  omega
                rw [this]
                exact ⟨fun g => g.2, fun g => ⟨k, g⟩⟩
            refine ⟨⟨by omega, by omega⟩, ⟨by omega, by omega⟩, ⟨fun y => y = bI (decide (sfI b N s < cf)), ?_, ⟨¬ sfI b N s < cf, fun g => by (try dsimp only); rw [decide_eq_false g]; rfl, fun g1 g2 => g1 (opL9.mpr g2).1, fun g1 => ⟨fun g2 => by omega, fun g2 => by rw [decide_eq_true (by omega)]; rfl⟩⟩⟩⟩
            rintro _ rfl
            refine ⟨fun y => y = bI (decide (cl < slI b N s)), ?_, ⟨¬ cl < slI b N s, fun g => by (try dsimp only); rw [decide_eq_false g]; rfl, fun g1 g2 => g1 (opR9.mpr g2).1, fun g1 => ⟨fun g2 g3 => by have := (opR9.mpr g3).2; omega, fun g2 => by rw [decide_eq_true (opR9.mp ⟨g1, by omega⟩)]; rfl⟩⟩⟩
            rintro _ rfl
            have jb := jnt_b x23 op s (decide (sfI b N s < cf))
            refine ⟨fun mo' len' => MrC (addS (jnt x23 op s (decide (sfI b N s < cf))) st) mo' len' sm tm, ?_, fun g => ?_, fun g => ?_⟩
            · intro mo1 len1 hC1
              have la4 : (addS (jnt x23 op s (decide (sfI b N s < cf))) st).1.length ≤ st.1.length + 4 := by
                show List.length (_ ++ _) ≤ _
                rw [List.length_append]; omega
              have eF := hF s hsS
              have eF1 : fr s = (SF b N s : Nat) := eF.1
              have eF2 : to s = (SE b N s : Nat) := eF.2
              have psF : ps b N (SF b N s) = sBg b N s := ps_sgn (by omega) (sBg_sec b N s)
              have psE : ps b N (SE b N s) = sEn b N s := ps_sgn hse.2.1 (sEn_sec (Sn_lt hsS))
              have bdn := fun d (hd : Bd b N d) => bd_no hd hsS
              have seN : SE b N s ≤ sgn b N N := sgn_mono hse.2.1
              have sfse := sf_se hsS
              refine ⟨fun y => ∃ x : Nat, y = x ∧ ps b N x = wBe b N s cf ∧ SF b N s ≤ x ∧ (Bd b N x ∨ ∀ w : Nat, cf ≤ (w : Int) → w < Wn b N → x < TN b N w) ∧ (cf = -1 → x = SF b N s) ∧ ∀ p : Nat, cf = p → p < Wn b N → x ≤ FN b N p, ?_, fun g => ?_, fun g => ?_⟩
              · rintro _ ⟨x, rfl, hx1, hx2, hx3, hx4, hx5⟩
                refine ⟨fun y => ∃ x : Nat, y = x ∧ ps b N x = wEe b N s cl ∧ x ≤ SE b N s ∧ (Bd b N x ∨ ∀ w : Nat, (w : Int) < cl → w + 1 < Wn b N → FN b N (w + 1) < x) ∧ (cl = -1 → x = SE b N s) ∧ ∀ q : Nat, cl = q → q < Wn b N → TN b N q ≤ x, ?_, fun g => ?_, fun g => ?_⟩
                · rintro _ ⟨c, rfl, hc1, hc2, hc3, hc4, hc5⟩
                  have hxc : x ≤ c := by
                    rcases hrg with ⟨r1, r2, _⟩ | ⟨p, q, r1, r2, r3, r4, r5, r6, _⟩
                    · rw [hx4 r1, hc4 r2]; omega
                    · have := hx5 p r1 (by omega)
                      have := hc5 q r2 r6
                      have := (FN_m (b := b) (N := N) r4 r6).2.2
                      omega
                  have hfl9 : FlP b N cf cl := by
                    rcases hrg with ⟨r1, r2, _⟩ | ⟨p, q, r1, r2, r3, r4, r5, r6, _⟩
                    · exact .inl ⟨r1, r2⟩
                    · exact .inr ⟨p, q, r1, r2, r4, r6⟩
                  have hcl9 : cl < (Wn b N : Int) := by
                    rcases hfl9 with ⟨r1, r2⟩ | ⟨p, q, r1, r2, r3, r4⟩ <;> omega
                  have pxc := ps_m (b := b) (N := N) hxc (by omega)
                  have pF := ps_m (b := b) (N := N) hx2 (by omega)
                  have pE := ps_m (b := b) (N := N) hc2 seN
                  rw [psF] at pF
                  rw [psE] at pE
                  have lx := Lb_mono (b := b) (N := N) pxc
                  have lF := Lb_mono (b := b) (N := N) pF
                  have lE := Lb_mono (b := b) (N := N) pE
                  have sg1 := mS_sg (stg sf) hT hfl9
                  have sg2 := mS_sg sf hT hfl9
                  refine b_Mwrites hB hp hm hT hRs hM hW hsf hxc (by omega) hfl9 (PrP_q hx3 hc3 hcl9 fun d hd hxd => ?_) hC1 (by omega) ?_ fun mo' o1' o2' o3' o4' len' sm' tm' w3 => ?_
                  · have := bdn d hd; omega
                  · show st.2.1 ≤ 9000 ∧ st.2.2 ≤ 9000
                    omega
                  · have pl := pas_len (B := ps b N x) (n := ps b N c - ps b N x) sg1 sg2 (addS (jnt x23 op s (decide (sfI b N s < cf))) st)
                    rw [show ps b N x + (ps b N c - ps b N x) = ps b N c by omega] at pl
                    have pcN := ps_le b N c
                    have e2 : (addS (jnt x23 op s (decide (sfI b N s < cf))) st).2 = st.2 := rfl
                    rw [e2] at pl
                    refine ⟨_, decide (cl < slI b N s), rfl, by omega, by omega, rfl, rfl, ⟨st, x23, op, hR, .inr ⟨htb, cf, cl, wh, hct, .inr ⟨hnn, ?_, rfl, rfl⟩⟩⟩, w3, by omega, by omega, by omega⟩
                    rw [hx1, hc1]; rfl
                · have g := of_decide_eq_false (bI_0 g)
                  have ee : wEe b N s cl = sEn b N s := if_neg g
                  refine ⟨⟨by omega, by omega⟩, ⟨SE b N s, by rw [Int.toNat_natCast]; exact eF2, by rw [psE, ee], Nat.le_refl _, .inl ⟨s, hsS, .inr rfl⟩, fun _ => rfl, fun q hq hqW => ?_⟩⟩
                  rcases hrg with ⟨r1, r2, _⟩ | ⟨p, q', r1, r2, r3, r4, r5, r6, _, _, r7, _⟩
                  · omega
                  · rw [ee] at r7
                    have : q = q' := by omega
                    subst this
                    exact sgn_mono r7
                · have g := of_decide_eq_true (bI_1 g)
                  rcases hrg with ⟨r1, r2, _, _, _, r8⟩ | ⟨p, q, rfl, rfl, r3, r4, r5, r6, _, _, r7, r8⟩
                  · omega
                  · have ee : wEe b N s q = wEn b N q := by unfold wEe; rw [if_pos g, Int.toNat_natCast]
                    rw [ee] at r8
                    refine ⟨⟨by omega, by omega⟩, ⟨TN b N q, by rw [Int.toNat_natCast]; exact (hW q r6).2, by rw [(ps_F r6).2, ee], sgn_mono r8, .inr fun w hw1 hw2 => ?_, fun h => by omega, fun q' hq hqW => ?_⟩⟩
                    · exact (FN_m (b := b) (N := N) (show w + 1 ≤ q by omega) r6).2.2
                    · rw [show q' = q by omega]; exact Nat.le_refl _
              · have g := of_decide_eq_false (bI_0 g)
                have ee : wBe b N s cf = sBg b N s := if_neg g
                refine ⟨⟨by omega, by omega⟩, ⟨SF b N s, by rw [Int.toNat_natCast]; exact eF1, by rw [psF, ee], Nat.le_refl _, .inl ⟨s, hsS, .inl rfl⟩, fun _ => rfl, fun p hp9 hpW => ?_⟩⟩
                rcases hrg with ⟨r1, r2, _⟩ | ⟨p', q', r1, r2, r3, r4, r5, r6, _, r7, _⟩
                · omega
                · rw [ee] at r7
                  have : p = p' := by omega
                  subst this
                  exact sgn_mono r7
              · have g := of_decide_eq_true (bI_1 g)
                rcases hrg with ⟨r1, r2, _⟩ | ⟨p, q, rfl, rfl, r3, r4, r5, r6, r7, _⟩
                · omega
                · have ee : wBe b N s p = wBg b N p := by unfold wBe; rw [if_pos g, Int.toNat_natCast]
                  have hpW : p < Wn b N := by omega
                  rw [ee] at r7
                  refine ⟨⟨by omega, by omega⟩, ⟨FN b N p, by rw [Int.toNat_natCast]; exact (hW p hpW).1, by rw [(ps_F hpW).1, ee], sgn_mono r7, .inr fun w hw1 hw2 => ?_, fun h => by omega, fun p' hp9 _ => ?_⟩⟩
                  · exact (FN_m (b := b) (N := N) (show p ≤ w by omega) hw2).2.2
                  · rw [show p' = p by omega]; exact Nat.le_refl _
            · refine ⟨⟨by omega, by omega⟩, ⟨fun y => ((s : Int) = x23 + 1 ∧ op = false ∧ decide (sfI b N s < cf) = false ∧ y = 27) ∨ (¬ ((s : Int) = x23 + 1 ∧ op = false ∧ decide (sfI b N s < cf) = false) ∧ y = 28), ?_, ⟨¬ ((s : Int) = x23 + 1 ∧ op = false ∧ decide (sfI b N s < cf) = false), fun k => .inr ⟨k, rfl⟩, fun k1 k2 => k1 k2.1, fun k1 => ⟨fun k2 k3 => k2 (by rw [k3.2.1]; rfl), fun k2 => ⟨fun k3 k4 => k3 (by rw [k4.2.2]; rfl), fun k3 => .inl ⟨k1, bI_0 k2, bI_0 k3, rfl⟩⟩⟩⟩⟩⟩
              rintro _ (⟨k1, k2, k3, rfl⟩ | ⟨k1, rfl⟩)
              · have ej : jnt x23 op s (decide (sfI b N s < cf)) = 21 := by unfold jnt; rw [if_neg g, if_pos ⟨k1, k2, k3⟩]
                rw [ej]
                exact b_MaddS (a := 27) (c := 21) (by decide) (by decide) (by decide) hC (Nat.le_trans (Nat.add_le_add_left (show (sBy 27).length ≤ 4 from by decide) _) (by omega)) fun mo' len' h3 => h3
              · have ej : jnt x23 op s (decide (sfI b N s < cf)) = 22 := by unfold jnt; rw [if_neg g, if_neg k1]
                rw [ej]
                exact b_MaddS (a := 28) (c := 22) (by decide) (by decide) (by decide) hC (Nat.le_trans (Nat.add_le_add_left (show (sBy 28).length ≤ 4 from by decide) _) (by omega)) fun mo' len' h3 => h3
            · refine ⟨fun y => (decide (sfI b N s < cf) = false ∧ y = 26) ∨ (decide (sfI b N s < cf) = true ∧ y = 25), ?_, fun k => .inl ⟨bI_0 k, rfl⟩, fun k => .inr ⟨bI_1 k, rfl⟩⟩
              rintro _ (⟨k1, rfl⟩ | ⟨k1, rfl⟩)
              · have ej : jnt x23 op s (decide (sfI b N s < cf)) = 20 := by unfold jnt; rw [if_pos g, k1]; rfl
                rw [ej]
                exact b_MaddS (a := 26) (c := 20) (by decide) (by decide) (by decide) hC (Nat.le_trans (Nat.add_le_add_left (show (sBy 26).length ≤ 4 from by decide) _) (by omega)) fun mo' len' h3 => h3
              · have ej : jnt x23 op s (decide (sfI b N s < cf)) = 11 := by unfold jnt; rw [if_pos g, k1]; rfl
                rw [ej]
                exact b_MaddS (a := 25) (c := 11) (by decide) (by decide) (by decide) hC (Nat.le_trans (Nat.add_le_add_left (show (sBy 25).length ≤ 4 from by decide) _) (by omega)) fun mo' len' h3 => h3
          · exact absurd g h3
        · rcases hr with ⟨g, _⟩ | ⟨_, _, hcut⟩
          · rw [g] at h3; exact absurd h3 (by decide)
          · exact ⟨st, op, rfl, ha1, ha2, rfl, rfl, ⟨st, x23, op, hR, .inr ⟨htb, -1, -1, 0, hcut, .inl ⟨rfl, rfl, rfl, rfl, rfl⟩⟩⟩, hC, by omega, by omega, by omega⟩
  · rw [decide_eq_false hn]
    refine jn1_i ⟨fun g => absurd rfl g, fun _ => ?_⟩
    unfold wp_M_throwsIf
    exact ⟨fun g => absurd g (by decide), fun _ => ⟨by decide, fun g => absurd g (by decide), fun _ => hq0 hn⟩⟩
