/-! B41: the reference quotes -/
theorem MrC_0 (mo : Nat → Int) : MrC ([], 0, 0) mo 0 0 0 := ⟨rfl, rfl, rfl, fun j hj => by cases hj⟩
theorem ps_m {b : Nat → Int} {N u v : Nat} (huv : u ≤ v) (hv : v ≤ sgn b N N) : ps b N u ≤ ps b N v := by
  rcases Nat.eq_or_lt_of_le huv with e | e
  · rw [e]; exact Nat.le_refl _
  · exact Nat.le_of_lt (ps_mono e hv)
theorem ps_F {b : Nat → Int} {N w : Nat} (hw : w < Wn b N) : ps b N (FN b N w) = wBg b N w ∧ ps b N (TN b N w) = wEn b N w := by
  have h := wd_lt hw
  exact ⟨ps_sgn (by omega) (wBg_sec hw), ps_sgn h.2 (wEn_sec hw)⟩
theorem b_Mquote {b pg sa wf wt9 fr to mw mt mfs mi mf ml im inw win mo o1 o2 o3 o4 : Nat → Int} {N I : Nat} {wt tc : Nat → Nat} {R : Nat → Nat → Bool} {sf : Nat → Bool} {thr len sm tm n : Int} {Q : Int → (Nat → Int) → (Nat → Int) → (Nat → Int) → (Nat → Int) → (Nat → Int) → (Nat → Int) → (Nat → Int) → Int → Int → Int → Int → Int → Int → Prop} (hB : Byt b N) (hp : PgE b N pg) (hm : MsA b N sa) (hW : MwA b N wf wt9) (hF : MtA b N fr to) (hT : TcA (Wn b N) I tc R mt) (hRs : ∀ k v, k < I → R k v = true → soN b N v < Sn b N ∧ v + tc k ≤ fW b N (soN b N v + 1)) (hw : QwA I wt mw) (hM : MmA (Wn b N) I tc R mi mf ml im) (hsf : ∀ k, k < I → mfs k = bI (sf k))
    (hq0 : ¬ (1 ≤ n ∧ n ≤ 600) → Q 0 inw win mo o1 o2 o3 o4 1 len sm tm 0 0)
    (hq : ∀ (n' : Nat) (inw' win' mo' o1' o2' o3' o4' : Nat → Int) (len' sm' tm' : Int) (st : WSt), n = n' → 1 ≤ n' → n' ≤ 600 → QuS b N I wt tc R sf n' st → MrC st mo' len' sm' tm' → Q len' inw' win' mo' o1' o2' o3' o4' 0 len' sm' tm' 0 0) : wp_M_quote pg sa wf wt9 fr to mw mt mfs mi mf ml im inw win mo o1 o2 o3 o4 thr (sgn b N N) (Wn b N) (Sn b N) I (M0 (Wn b N) I R) len sm tm 0 0 n Q := by
  have hN := hB.1
  have hsN := sgn_le b N N
  have hFT := FTo_N (b := b) hN
  have h100 := hFT.1
  have t0 : Int.toNat 0 = 0 := rfl
  have t1 : Int.toNat 1 = 1 := rfl
  unfold wp_M_quote
  refine b_Min ?_
  by_cases hn : 1 ≤ n ∧ n ≤ 600
  · rw [decide_eq_true hn]
    refine jn1_i ⟨fun _ => ?_, fun g => absurd g (by decide)⟩
    unfold wp_M_throwsIf
    refine ⟨fun _ => ⟨by decide, fun _ => ?_, fun g => absurd rfl g⟩, fun g => absurd rfl g⟩
    obtain ⟨n', rfl⟩ : ∃ n' : Nat, n = n' := ⟨n.toNat, by omega⟩
    unfold wp_M_begins
    refine ⟨⟨by omega, by omega⟩, b_Mwidest (lo := 0) (h1 := Wn b N) hFT (MlA_N hW) hT hw hM (Nat.le_refl _) fun f l inw' win' hr hwi => ⟨fun h1 => ?_, fun h1 => ?_⟩⟩
    · rcases hr with ⟨_, _, g3, _⟩ | ⟨p, q, rfl, rfl, g3, g4, g5⟩
      · rw [g3] at h1; exact absurd rfl h1
      · have hpq := g4.2.1
        have hq9 : q < Wn b N := g4.2.2.1
        have e := hwi p q rfl rfl
        have hres : WRes (Wn b N) I wt tc R (FN b N) (TN b N) 0 (Wn b N) n' p q (win' 3) := .inr ⟨p, q, rfl, rfl, g3, g4, g5⟩
        have fp := ps_F (b := b) (N := N) (show p < Wn b N by omega)
        have fq := ps_F hq9
        have fm := FN_m (b := b) (N := N) hpq hq9
        have tqn : TN b N q ≤ sgn b N N := sgn_mono (wd_lt hq9).2
        have sg1 := mrk_sg (f := p) (stg sf) hT hq9
        have sg2 := mrk_sg (f := p) sf hT hq9
        rw [t0, t1, e.1, e.2.1]
        simp only [Int.toNat_natCast]
        have ew1 : wf p = (FN b N p : Nat) := (hW p (by omega)).1
        have ew2 : wt9 q = (TN b N q : Nat) := (hW q hq9).2
        rw [ew1, ew2]
        refine ⟨⟨by omega, by omega⟩, ⟨by omega, by omega⟩, ⟨fun mo' len' => MrC (if 0 < p then addS 11 ([], 0, 0) else ([], 0, 0)) mo' len' 0 0, ?_, fun g => ?_, fun g => b_MaddS (a := 25) (c := 11) (by decide) (by decide) (by decide) (MrC_0 mo) (by decide) fun mo' len' w => ?_⟩⟩
        rotate_left
        · show MrC _ _ _ _ _
          rw [if_neg (show ¬ 0 < p by omega)]; exact MrC_0 mo
        · show MrC _ _ _ _ _
          rw [if_pos (show 0 < p by omega)]; exact w
        intro mo1 len1 w1
        have l1 : (if 0 < p then addS 11 (([], 0, 0) : WSt) else ([], 0, 0)).1.length ≤ 2 ∧ (if 0 < p then addS 11 (([], 0, 0) : WSt) else ([], 0, 0)).2.1 ≤ 0 ∧ (if 0 < p then addS 11 (([], 0, 0) : WSt) else ([], 0, 0)).2.2 ≤ 0 := by
          split <;> decide
        have hqst : qst b N I tc R sf p q = if q + 1 < Wn b N then addS 11 (pas (mrk b N I tc R (stg sf) p q) (mrk b N I tc R sf p q) b (wBg b N p) (wEn b N q - wBg b N p) (if 0 < p then addS 11 ([], 0, 0) else ([], 0, 0))) else pas (mrk b N I tc R (stg sf) p q) (mrk b N I tc R sf p q) b (wBg b N p) (wEn b N q - wBg b N p) (if 0 < p then addS 11 ([], 0, 0) else ([], 0, 0)) := rfl
        generalize (if 0 < p then addS 11 (([], 0, 0) : WSt) else ([], 0, 0)) = st0 at *
        refine ⟨⟨by omega, by omega⟩, ⟨fun mo o1 o2 o3 o4 len sm tm so to x23 => ∃ x : Nat, x23 = x ∧ FN b N p ≤ x ∧ x ≤ TN b N q ∧ so = 0 ∧ to = 0 ∧ (x = FN b N p ∨ Bd b N x ∨ x = TN b N q) ∧ MrC (pas (mrk b N I tc R (stg sf) p q) (mrk b N I tc R sf p q) b (wBg b N p) (ps b N x - wBg b N p) st0) mo len sm tm, fun _ _ _ _ _ _ _ _ _ _ x => TN b N q - x.toNat, ⟨FN b N p, rfl, Nat.le_refl _, by omega, rfl, rfl, .inl rfl, by rw [fp.1, Nat.sub_self, pas_0]; exact w1⟩, ?_⟩⟩
        rintro mo o1 o2 o3 o4 len sm tm _ _ _ ⟨x, rfl, hx1, hx2, rfl, rfl, hxb, w2⟩
        have pm := ps_m (b := b) (N := N) hx1 (by omega)
        rw [fp.1] at pm
        have pl := pas_len (B := wBg b N p) (n := ps b N x - wBg b N p) sg1 sg2 st0
        rw [show wBg b N p + (ps b N x - wBg b N p) = ps b N x by omega] at pl
        have lm1 := Lb_mono (b := b) (N := N) pm
        have pxN := ps_le b N x
        have lmN := Lb_mono (b := b) (N := N) pxN
        have lbN := Lb_le (b := b) hN
        refine ⟨⟨by omega, by omega⟩, fun h2 => ⟨⟨by omega, by omega⟩, fun h3 => ?_, fun h3 => ?_⟩, fun h2 => ?_⟩
        · have ex : x = TN b N q := by omega
          rw [ex, fq.2] at w2
          refine hq n' _ _ _ _ _ _ _ _ _ _ (qst b N I tc R sf p q) rfl (by omega) (by omega) (.inr ⟨p, q, _, hres, rfl⟩) ?_
          rw [hqst, if_neg (show ¬ q + 1 < Wn b N by omega)]; exact w2
        · have ex : x = TN b N q := by omega
          rw [ex, fq.2] at w2 pl lmN
          refine b_MaddS (a := 25) (c := 11) (by decide) (by decide) (by decide) w2 (by rw [show (sBy 25).length = 2 from rfl]; omega) fun mo' len' w => ?_
          refine hq n' _ _ _ _ _ _ _ _ _ _ (qst b N I tc R sf p q) rfl (by omega) (by omega) (.inr ⟨p, q, _, hres, rfl⟩) ?_
          rw [hqst, if_pos (show q + 1 < Wn b N by omega)]; exact w
        · refine b_Mborder hF (by omega) fun c hc1 hc2 hc3 => ⟨⟨by omega, by omega⟩, ⟨fun y => ∃ d : Nat, y = d ∧ x < d ∧ d ≤ TN b N q ∧ (Bd b N d ∨ d = TN b N q) ∧ ∀ e, Bd b N e → x < e → d ≤ e, ?_, fun g => ⟨c, rfl, hc2, by omega, ?_, hc3⟩, fun g => ⟨⟨by omega, by omega⟩, ⟨TN b N q, rfl, by omega, Nat.le_refl _, .inr rfl, fun e he hxe => by have := hc3 e he hxe; omega⟩⟩⟩⟩
          rotate_left
          · rcases hc1 with k | k
            · exact .inr (by omega)
            · exact .inl k
          rintro _ ⟨d, rfl, hd1, hd2, hd3, hd4⟩
          have pd := ps_m (b := b) (N := N) (show x ≤ d by omega) (by omega)
          have pdN := ps_le b N d
          have lm2 := Lb_mono (b := b) (N := N) pd
          have lm3 := Lb_mono (b := b) (N := N) pdN
          refine b_Mwrites hB hp hm hT hRs hM hW hsf (by omega) (by omega) (.inr ⟨p, q, rfl, rfl, hpq, hq9⟩) (PrP_q ?_ ?_ (by omega) hd4) w2 (by omega) (by omega) fun mo' o1' o2' o3' o4' len' sm' tm' w3 => ⟨⟨d, rfl, by omega, hd2, rfl, rfl, ?_, ?_⟩, by (try dsimp only); omega⟩
          · rcases hxb with k | k | k
            · refine .inr fun w hw1 hw2 => ?_
              have := (FN_m (b := b) (N := N) (show p ≤ w by omega) hw2).2.2
              omega
            · exact .inl k
            · omega
          · rcases hd3 with k | k
            · exact .inl k
            · refine .inr fun w hw1 hw2 => ?_
              have := (FN_m (b := b) (N := N) (show w + 1 ≤ q by omega) hq9).2.2
              omega
          · rcases hd3 with k | k
            · exact .inr (.inl k)
            · exact .inr (.inr k)
          · rw [mS_n, mS_n] at w3
            have ea : wBg b N p + (ps b N x - wBg b N p) = ps b N x := by omega
            have cat := pas_cat (S := mrk b N I tc R (stg sf) p q) (T := mrk b N I tc R sf p q) (b := b) (B := wBg b N p) (m := ps b N x - wBg b N p) (n := ps b N d - ps b N x) (st := st0) ?_
            · rw [ea] at cat
              rw [show ps b N d - wBg b N p = (ps b N x - wBg b N p) + (ps b N d - ps b N x) by omega, ← cat]
              exact w3
            · right
              by_cases ex : x = FN b N p
              · left
                rw [ex, fp.1, Nat.sub_self]; exact ⟨rfl, rfl⟩
              · have hbd : Bd b N x := by
                  rcases hxb with k | k | k
                  · exact absurd k ex
                  · exact k
                  · omega
                have plt := ps_mono (b := b) (N := N) (s := FN b N p) (t := x) (by omega) (by omega)
                have plt2 := ps_mono (b := b) (N := N) (s := x) (t := TN b N q) (by omega) (by omega)
                have wl := (wd_lt hq9).2
                rw [fp.1] at plt
                rw [fq.2] at plt2
                rcases cut_z (f := p) (l := q) hT hRs hq9 hbd (by omega) with k | k
                · left
                  obtain ⟨j, hj⟩ : ∃ j, ps b N x - wBg b N p = j + 1 := ⟨ps b N x - wBg b N p - 1, by omega⟩
                  rw [hj]
                  exact ⟨k _ _ (by omega), k _ _ (by omega)⟩
                · right
                  rw [ea]
                  exact ⟨k _, k _⟩
    · rcases hr with ⟨rfl, rfl, g3, g4⟩ | ⟨p, q, rfl, rfl, g3, g4, g5⟩
      · exact hq n' _ _ _ _ _ _ _ _ _ _ ([], 0, 0) rfl (by omega) (by omega) (.inl ⟨.inl ⟨rfl, rfl, rfl, g4⟩, rfl⟩) (MrC_0 mo)
      · have := g4.2.2.2.2
        have h1 := of_decide_eq_false (bI_0 h1)
        omega
  · rw [decide_eq_false hn]
    refine jn1_i ⟨fun g => absurd rfl g, fun _ => ?_⟩
    unfold wp_M_throwsIf
    exact ⟨fun g => absurd g (by decide), fun _ => ⟨by decide, fun g => absurd g (by decide), fun _ => hq0 hn⟩⟩
