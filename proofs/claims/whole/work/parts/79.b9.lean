/-! B9: words as the reference lays them -/
theorem smv_hi {x y : Int} (h : smv x = smv y) (hx : 128 ≤ x) : y = x := by
  unfold smv at h
  rw [if_neg (by omega)] at h
  split at h <;> omega
theorem alk_iff {b : Nat → Int} {N v w : Nat} : alk b N v w = true ↔ (wEn b N w - wBg b N w = wEn b N v - wBg b N v ∧ ∀ i, i < wEn b N v - wBg b N v → smv (b (wBg b N v + i)) = smv (b (wBg b N w + i))) := by
  unfold alk
  exact decide_eq_true_iff
theorem alk_symm {b : Nat → Int} {N v w : Nat} (h : alk b N v w = true) : alk b N w v = true := by
  have h := alk_iff.mp h
  exact alk_iff.mpr ⟨h.1.symm, fun i hi => (h.2 i (by omega)).symm⟩
theorem alk_trans {b : Nat → Int} {N u v w : Nat} (h : alk b N u v = true) (g : alk b N v w = true) : alk b N u w = true := by
  have h := alk_iff.mp h
  have g := alk_iff.mp g
  exact alk_iff.mpr ⟨by omega, fun i hi => (h.2 i hi).trans (g.2 i (by omega))⟩
theorem alk_sec1 {b : Nat → Int} {N v w i : Nat} (hv : v < Wn b N) (hw : w < Wn b N) (h : alk b N v w = true) (hi : i ≤ wEn b N v - wBg b N v) (hs : sec b N (wBg b N v + i) = true) : sec b N (wBg b N w + i) = true := by
  have h := alk_iff.mp h
  have v1 := wd_lt hv
  have w1 := wd_lt hw
  have g := sec_ge hs
  have i0 : ¬ i = 0 := fun e => by
    rw [e, Nat.add_zero, wBg_sec hv] at hs; cases hs
  have iL : ¬ i = wEn b N v - wBg b N v := fun e => by
    rw [e, show wBg b N v + (wEn b N v - wBg b N v) = wEn b N v by omega, wEn_sec hv] at hs; cases hs
  have e1 := smv_hi (h.2 i (by omega)) g.1
  have e2 := smv_hi (h.2 (i - 1) (by omega)) (by rw [show wBg b N v + (i - 1) = wBg b N v + i - 1 by omega]; omega)
  rw [show wBg b N v + (i - 1) = wBg b N v + i - 1 by omega, show wBg b N w + (i - 1) = wBg b N w + i - 1 by omega] at e2
  have g2 := of_decide_eq_true hs
  exact decide_eq_true (by rw [e1, e2]; omega)
theorem alk_sec {b : Nat → Int} {N v w i : Nat} (hv : v < Wn b N) (hw : w < Wn b N) (h : alk b N v w = true) (hi : i ≤ wEn b N v - wBg b N v) : sec b N (wBg b N v + i) = sec b N (wBg b N w + i) := by
  have h' := alk_iff.mp h
  cases e1 : sec b N (wBg b N v + i) <;> cases e2 : sec b N (wBg b N w + i)
  · rfl
  · rw [alk_sec1 hw hv (alk_symm h) (by omega) e2] at e1; cases e1
  · rw [alk_sec1 hv hw h hi e1] at e2; cases e2
  · rfl
theorem alk_sgn {b : Nat → Int} {N v w : Nat} (hv : v < Wn b N) (hw : w < Wn b N) (h : alk b N v w = true) : ∀ i, i ≤ wEn b N v - wBg b N v → sgn b N (wBg b N v + i) + sgn b N (wBg b N w) = sgn b N (wBg b N w + i) + sgn b N (wBg b N v)
  | 0, _ => by rw [Nat.add_zero, Nat.add_zero]; omega
  | i + 1, hi => by
    have ih := alk_sgn hv hw h i (by omega)
    have e := alk_sec hv hw h (show i ≤ wEn b N v - wBg b N v by omega)
    have g1 : sgn b N (wBg b N v + (i + 1)) = sgn b N (wBg b N v + i) + (if nsc b N (wBg b N v + i) then 1 else 0) := rfl
    have g2 : sgn b N (wBg b N w + (i + 1)) = sgn b N (wBg b N w + i) + (if nsc b N (wBg b N w + i) then 1 else 0) := rfl
    have g3 : nsc b N (wBg b N v + i) = nsc b N (wBg b N w + i) := by unfold nsc; rw [e]
    rw [g1, g2, g3]
    omega
def sal (b : Nat → Int) (N p q : Nat) : Bool := decide (ps b N (p + 1) - ps b N p = ps b N (q + 1) - ps b N q ∧ ∀ i, i < ps b N (p + 1) - ps b N p → smv (b (ps b N p + i)) = smv (b (ps b N q + i)))
theorem b_MareAlike {b pg sa : Nat → Int} {N p q : Nat} {Q : Int → Prop} (hB : Byt b N) (hp : PgE b N pg) (hm : MsA b N sa) (h1 : p < sgn b N N) (h2 : q < sgn b N N) (hq : Q (bI (sal b N p q))) : wp_M_areAlike pg sa (sgn b N N) p q Q := by
  have hN := hB.1
  have hS : sgn b N N ≤ N := cn_le (nsc b N) N
  have p1 := ps_lt h1
  have q1 := ps_lt h2
  have p2 := ps_le b N (p + 1)
  have q2 := ps_le b N (q + 1)
  have p3 : ps b N (p + 1) = ps b N p + 1 ∨ (ps b N (p + 1) = ps b N p + 2 ∧ 192 ≤ b (ps b N p) ∧ 128 ≤ b (ps b N p + 1)) := by
    cases e : sec b N (ps b N p + 1)
    · exact .inl (ps_1 h1 e)
    · have g := sec_ge e
      rw [Nat.add_sub_cancel] at g
      exact .inr ⟨ps_2 h1 e, g.2.1, g.1⟩
  have q3 : ps b N (q + 1) = ps b N q + 1 ∨ (ps b N (q + 1) = ps b N q + 2 ∧ 192 ≤ b (ps b N q) ∧ 128 ≤ b (ps b N q + 1)) := by
    cases e : sec b N (ps b N q + 1)
    · exact .inl (ps_1 h2 e)
    · have g := sec_ge e
      rw [Nat.add_sub_cancel] at g
      exact .inr ⟨ps_2 h2 e, g.2.1, g.1⟩
  have hi : ∀ x : Int, 128 ≤ x → smv x = x := fun x hx => by unfold smv; rw [if_neg (by omega)]
  unfold wp_M_areAlike wp_M_signBytes
  rw [Int.toNat_natCast, Int.toNat_natCast, show Int.toNat ((p : Int) + 1) = p + 1 by omega, show Int.toNat ((q : Int) + 1) = q + 1 by omega, hm p (by omega), hm q (by omega), hm (p + 1) (by omega), hm (q + 1) (by omega), Int.toNat_natCast, Int.toNat_natCast, show Int.toNat ((ps b N p : Int) + 1) = ps b N p + 1 by omega, show Int.toNat ((ps b N q : Int) + 1) = ps b N q + 1 by omega]
  refine ⟨⟨by omega, by omega⟩, ⟨by omega, by omega⟩, ⟨by omega, by omega⟩, ⟨by omega, by omega⟩, ⟨by omega, by omega⟩, ⟨by omega, by omega⟩, ⟨by omega, by omega⟩, ⟨by omega, by omega⟩, fun h3 => ⟨⟨by omega, by omega⟩, ⟨by omega, by omega⟩, ⟨by omega, by omega⟩, ⟨by omega, by omega⟩, fun h4 => ?_, fun h4 => ?_⟩, fun h3 => qe hq ?_⟩
  · have p3 := p3.resolve_left (by omega)
    have q3 := q3.resolve_left (by omega)
    rw [hp _ p1.1, hp _ q1.1, hp _ (show ps b N p + 1 < N by omega), hp _ (show ps b N q + 1 < N by omega)]
    refine ⟨⟨by omega, by omega⟩, ⟨by omega, by omega⟩, ⟨by omega, by omega⟩, ⟨by omega, by omega⟩, fun h5 => qe hq ?_, fun h5 => ⟨⟨by omega, by omega⟩, ⟨by omega, by omega⟩, ⟨by omega, by omega⟩, ⟨by omega, by omega⟩, ⟨by omega, by omega⟩, ⟨by omega, by omega⟩, fun h6 => qe hq ?_, fun h6 => qe hq ?_⟩⟩
    · unfold sal
      rw [decide_eq_false]; rfl
      intro hh
      have := hh.2 0 (by omega)
      rw [Nat.add_zero, Nat.add_zero, hi _ (by omega), hi _ (by omega)] at this
      exact h5 this
    · unfold sal
      rw [decide_eq_false]; rfl
      intro hh
      have := hh.2 1 (by omega)
      rw [hi _ (by omega), hi _ (by omega)] at this
      exact h6 this
    · unfold sal
      rw [decide_eq_true]; rfl
      refine ⟨by omega, fun i hi2 => ?_⟩
      by_cases e : i = 0
      · rw [e, Nat.add_zero, Nat.add_zero, h5]
      · rw [show i = 1 by omega, h6]
  · have p4 : atv b N (ps b N p) = b (ps b N p) := atv_n p1.1
    have q4 : atv b N (ps b N q) = b (ps b N q) := atv_n q1.1
    refine b_pln hN hp hm (by omega) fun r hr => ?_
    rcases hr with ⟨rfl, _⟩ | ⟨rfl, _, _, _⟩
    · rw [p4]
      refine b_Msmall (by have := hB.2 _ p1.1; omega) (b_pln hN hp hm (by omega) fun r hr => ?_)
      rcases hr with ⟨rfl, _⟩ | ⟨rfl, _, _, _⟩
      · rw [q4]
        refine b_Msmall (by have := hB.2 _ q1.1; omega) ⟨fun h5 => qe hq ?_, fun h5 => qe hq ?_⟩
        · unfold sal
          rw [decide_eq_false]; rfl
          intro hh
          have := hh.2 0 (by omega)
          rw [Nat.add_zero, Nat.add_zero] at this
          exact h5 this
        · unfold sal
          rw [decide_eq_true]; rfl
          refine ⟨by omega, fun i hi2 => ?_⟩
          rw [show i = 0 by omega, Nat.add_zero, Nat.add_zero, h5]
      · omega
    · omega
  · unfold sal
    rw [decide_eq_false]; rfl
    intro hh
    omega
theorem b_MalkW {b pg sa wf wt : Nat → Int} {N v w : Nat} {Q : Int → Prop} (hB : Byt b N) (hp : PgE b N pg) (hm : MsA b N sa) (hW : MwA b N wf wt) (hv : v < Wn b N) (hw : w < Wn b N) (hq : Q (bI (alk b N v w))) : wp_M_areAlikeWords pg sa wf wt (sgn b N N) v w Q := by
  have hN := hB.1
  have hS : sgn b N N ≤ N := cn_le (nsc b N) N
  have v1 := wd_lt hv
  have w1 := wd_lt hw
  have v3 := wd_e hv
  have w3 := wd_e hw
  have v4 := sgn_lt (wBg_sec hv) v1.1
  have w4 := sgn_lt (wBg_sec hw) w1.1
  have v5 := sgn_mono (b := b) (N := N) v1.2
  have w5 := sgn_mono (b := b) (N := N) w1.2
  unfold wp_M_areAlikeWords
  rw [Int.toNat_natCast, Int.toNat_natCast, (hW v hv).1, (hW v hv).2, (hW w hw).1, (hW w hw).2]
  refine ⟨⟨by omega, by omega⟩, ⟨by omega, by omega⟩, ⟨by omega, by omega⟩, ⟨by omega, by omega⟩, ⟨by omega, by omega⟩, ⟨by omega, by omega⟩, fun y => y = bI (decide (sgn b N (wEn b N v) - sgn b N (wBg b N v) = sgn b N (wEn b N w) - sgn b N (wBg b N w))), ?_, fun h => ?_, fun h => ?_⟩
  · rintro _ rfl
    refine ⟨fun x2 x3 => ∃ (c : Bool) (k : Nat), x2 = bI c ∧ x3 = k ∧ (c = false → alk b N v w = false) ∧ (c = true → sgn b N (wEn b N v) - sgn b N (wBg b N v) = sgn b N (wEn b N w) - sgn b N (wBg b N w) ∧ k ≤ sgn b N (wEn b N v) - sgn b N (wBg b N v) ∧ ∃ o, ps b N (sgn b N (wBg b N v) + k) = wBg b N v + o ∧ ps b N (sgn b N (wBg b N w) + k) = wBg b N w + o ∧ ∀ i, i < o → smv (b (wBg b N v + i)) = smv (b (wBg b N w + i))), fun _ x3 => sgn b N (wEn b N v) - sgn b N (wBg b N v) - x3.toNat, ⟨_, 0, rfl, rfl, fun hc => ?_, fun hc => ⟨of_decide_eq_true hc, Nat.zero_le _, 0, ?_, ?_, fun i hi => by omega⟩⟩, ?_⟩
    · have hc := of_decide_eq_false hc
      cases e : alk b N v w
      · rfl
      · exfalso
        have g := alk_sgn hv hw e (wEn b N v - wBg b N v) (Nat.le_refl _)
        have g2 := (alk_iff.mp e).1
        rw [show wBg b N v + (wEn b N v - wBg b N v) = wEn b N v by omega, show wBg b N w + (wEn b N v - wBg b N v) = wEn b N w by omega] at g
        omega
    · rw [Nat.add_zero, Nat.add_zero, ps_sgn (by omega) (wBg_sec hv)]
    · rw [Nat.add_zero, Nat.add_zero, ps_sgn (by omega) (wBg_sec hw)]
    rintro x2 x3 ⟨c, k, rfl, rfl, hf, ht⟩
    refine ⟨fun h => ⟨bI_b c, ?_⟩, fun h => ⟨⟨by omega, by omega⟩, ⟨by omega, by omega⟩, ⟨by omega, by omega⟩, fun h2 => ⟨bI_b c, ?_⟩, fun h2 => ⟨⟨by omega, by omega⟩, ⟨by omega, by omega⟩, ⟨by omega, by omega⟩, ⟨by omega, by omega⟩, ?_⟩⟩⟩
    · rw [hf (bI_0 h)] at hq
      rw [bI_0 h]; exact hq
    · have hc := bI_1 h
      obtain ⟨g1, g2, o, g3, g4, g5⟩ := ht hc
      rw [show sgn b N (wBg b N v) + k = sgn b N (wEn b N v) by omega, ps_sgn v1.2 (wEn_sec hv)] at g3
      rw [show sgn b N (wBg b N w) + k = sgn b N (wEn b N w) by omega, ps_sgn w1.2 (wEn_sec hw)] at g4
      have : alk b N v w = true := alk_iff.mpr ⟨by omega, fun i hi => g5 i (by omega)⟩
      rw [this] at hq
      rw [hc]; exact hq
    · have hc := bI_1 h
      obtain ⟨g1, g2, o, g3, g4, g5⟩ := ht hc
      have hpv := ps_mono (b := b) (N := N) (show sgn b N (wBg b N v) + k < sgn b N (wEn b N v) by omega) (by omega)
      have hpw := ps_mono (b := b) (N := N) (show sgn b N (wBg b N w) + k < sgn b N (wEn b N w) by omega) (by omega)
      have hnv := ps_mono (b := b) (N := N) (show sgn b N (wBg b N v) + k < sgn b N (wBg b N v) + k + 1 by omega) (by omega)
      have hnw := ps_mono (b := b) (N := N) (show sgn b N (wBg b N w) + k < sgn b N (wBg b N w) + k + 1 by omega) (by omega)
      rw [ps_sgn v1.2 (wEn_sec hv)] at hpv
      rw [ps_sgn w1.2 (wEn_sec hw)] at hpw
      rw [show ((sgn b N (wBg b N v) : Nat) : Int) + (k : Int) = ((sgn b N (wBg b N v) + k : Nat) : Int) by omega, show ((sgn b N (wBg b N w) : Nat) : Int) + (k : Int) = ((sgn b N (wBg b N w) + k : Nat) : Int) by omega]
      refine b_MareAlike hB hp hm (by omega) (by omega) ⟨⟨by omega, by omega⟩, ⟨_, k + 1, rfl, by omega, fun hs => ?_, fun hs => ⟨g1, by omega, ?_⟩⟩, by dsimp only; omega⟩
      · have hs := of_decide_eq_false hs
        cases e : alk b N v w
        · rfl
        · exfalso
          have ea := alk_iff.mp e
          have e1 := alk_sec hv hw e (show o + 1 ≤ wEn b N v - wBg b N v by omega)
          rw [show wBg b N v + (o + 1) = wBg b N v + o + 1 by omega, show wBg b N w + (o + 1) = wBg b N w + o + 1 by omega, ← g3, ← g4] at e1
          have hd : ps b N (sgn b N (wBg b N v) + k + 1) - ps b N (sgn b N (wBg b N v) + k) = ps b N (sgn b N (wBg b N w) + k + 1) - ps b N (sgn b N (wBg b N w) + k) := by
            cases e2 : sec b N (ps b N (sgn b N (wBg b N v) + k) + 1)
            · rw [e2] at e1
              have := ps_1 (by omega) e2
              have := ps_1 (by omega) e1.symm
              omega
            · rw [e2] at e1
              have := ps_2 (by omega) e2
              have := ps_2 (by omega) e1.symm
              omega
          have hle : ps b N (sgn b N (wBg b N v) + k + 1) ≤ wEn b N v := by
            rcases Nat.eq_or_lt_of_le (show sgn b N (wBg b N v) + k + 1 ≤ sgn b N (wEn b N v) by omega) with e3 | e3
            · rw [e3, ps_sgn v1.2 (wEn_sec hv)]; exact Nat.le_refl _
            · have := ps_mono (b := b) (N := N) e3 (by omega)
              rw [ps_sgn v1.2 (wEn_sec hv)] at this
              omega
          refine hs ⟨hd, fun i hi => ?_⟩
          rw [g3, g4, Nat.add_assoc, Nat.add_assoc]
          exact ea.2 (o + i) (by omega)
      · obtain ⟨s1, s2⟩ := of_decide_eq_true hs
        refine ⟨o + (ps b N (sgn b N (wBg b N v) + k + 1) - ps b N (sgn b N (wBg b N v) + k)), ?_, ?_, fun i hi => ?_⟩
        · rw [← Nat.add_assoc]; omega
        · rw [← Nat.add_assoc]; omega
        · by_cases e : i < o
          · exact g5 i e
          · have := s2 (i - o) (by omega)
            rw [g3, g4, Nat.add_assoc, Nat.add_assoc, show o + (i - o) = i by omega] at this
            exact this
  · show (0 : Int) = bI _
    rw [decide_eq_false (by omega)]; rfl
  · show (1 : Int) = bI _
    rw [decide_eq_true (by omega)]; rfl
theorem b_MWords {b pg sa wf wt lk : Nat → Int} {N : Nat} {z : Int} {Q : (Nat → Int) → (Nat → Int) → (Nat → Int) → Int → Prop} (hB : Byt b N) (hp : PgE b N pg) (hm : MsA b N sa) (hq : ∀ wf' wt' lk', MwA b N wf' wt' → AlA b N lk' → Q wf' wt' lk' (Wn b N)) : wp_M_laysWords pg sa wf wt lk (sgn b N N) z Q := by
  have hN := hB.1
  have hS : sgn b N N ≤ N := cn_le (nsc b N) N
  have h100 : Wn b N ≤ 100 := by unfold Wn; omega
  unfold wp_M_laysWords
  refine ⟨fun wf wt n x => ∃ k t : Nat, n = k ∧ x = t ∧ t ≤ sgn b N N ∧ k ≤ 100 ∧ cn (wst b N) (ps b N t) = k ∧ cn (wen b N) (ps b N t) = k ∧ ∀ j, j < k → wf j = sgn b N (wBg b N j) ∧ wt j = sgn b N (wEn b N j), fun _ _ _ x => sgn b N N - x.toNat, ⟨0, 0, rfl, rfl, Nat.zero_le _, Nat.zero_le _, by rw [ps_0]; rfl, by rw [ps_0]; rfl, fun j h => by omega⟩, ?_⟩
  rintro wf wt n x ⟨k, t, rfl, rfl, ht, hk, hc1, hc2, ha⟩
  refine ⟨k = Wn b N, fun ek => ?_, fun h => ?_, fun h => ⟨fun h2 => ?_, fun h2 => b_Mletter hB hp hm ⟨fun h3 => ⟨⟨by omega, by omega⟩, ?_⟩, fun h3 => ?_⟩⟩⟩
  · have hW : MwA b N wf wt := fun w hw => ha w (by omega)
    refine ⟨fun l x => ∃ w : Nat, x = w ∧ w ≤ Wn b N ∧ ∀ v, v < w → l v = lko b N v, fun _ x => Wn b N - x.toNat, ⟨0, rfl, Nat.zero_le _, fun v h => by omega⟩, ?_⟩
    rintro l x ⟨w, rfl, hw, hl⟩
    refine ⟨fun h => ?_, fun h => ⟨⟨by omega, by omega⟩, ?_⟩⟩
    · rw [ek]
      exact hq _ _ _ hW fun v hv => hl v (by omega)
    · refine ⟨fun l => (∀ v, v < w → l v = lko b N v) ∧ ∃ u : Nat, l w = u ∧ u ≤ w ∧ sk (lkf b N w) w u = lko b N w, fun l => w - (l w).toNat, ⟨fun v hv => ?_, 0, uI_e rfl, Nat.zero_le _, rfl⟩, ?_⟩
      · rw [uI_n (by omega) (by omega)]; exact hl v hv
      rintro l ⟨hl, u, eu, hu, es⟩
      rw [Int.toNat_natCast, eu]
      refine ⟨⟨by omega, by omega⟩, b_MalkW hB hp hm hW (by omega) (by omega) ⟨fun h2 => ⟨⟨by omega, by omega⟩, ⟨w + 1, by omega, by omega, fun v hv => ?_⟩, by dsimp only; omega⟩, fun h2 => ⟨⟨by omega, by omega⟩, ⟨by omega, by omega⟩, ⟨by omega, by omega⟩, ⟨fun v hv => ?_, u + 1, uI_e rfl, ?_, ?_⟩, ?_⟩⟩⟩
      · by_cases e : v = w
        · rw [e, eu, ← es]
          rcases Nat.eq_or_lt_of_le hu with e2 | e2
          · rw [sk_end (by omega)]
          · rw [sk_stop]
            unfold lkf; rw [bI_1 h2]; rfl
        · exact hl v (by omega)
      · rw [uI_n (by omega) (by omega)]; exact hl v hv
      · have h2 := bI_0 h2
        have : ¬ u = w := fun e => by rw [e, alk_refl] at h2; cases h2
        omega
      · have h2 := bI_0 h2
        have : ¬ u = w := fun e => by rw [e, alk_refl] at h2; cases h2
        rw [← es, sk_step (i := u) (by omega)]
        unfold lkf; rw [h2]; rfl
      · have h2 := bI_0 h2
        have : ¬ u = w := fun e => by rw [e, alk_refl] at h2; cases h2
        dsimp only
        rw [uI_e rfl, eu]
        omega
  · show k = Wn b N
    rw [ps_ge (by omega)] at hc2
    unfold Wn; omega
  · show k = Wn b N
    have := cn_mono (wen b N) (ps_le b N t)
    unfold Wn; omega
  · have ht : t < sgn b N N := by omega
    have h1 := ps_lt ht
    rw [lts_n ht] at h3
    have h3 := bI_1 h3
    have hst : wst b N (ps b N t) = true := by
      have g := wst_wen b N (ps b N t)
      unfold wst
      rw [h3] at g ⊢
      cases e : (decide (0 < ps b N t) && ltr b N (ps b N t - 1))
      · rfl
      · rw [e] at g
        have g : cn (wst b N) (ps b N t) = cn (wen b N) (ps b N t) + 1 := g
        omega
    have eB : wBg b N k = ps b N t := nt_eq hst h1.1 hc1
    refine ⟨fun x => ∃ u : Nat, x = u ∧ t ≤ u ∧ u ≤ sgn b N N ∧ ∀ j, ps b N t ≤ j → j < ps b N u → ltr b N j = true, fun x => sgn b N N - x.toNat, ⟨t, rfl, Nat.le_refl _, by omega, fun j h4 h5 => by omega⟩, ?_⟩
    rintro x ⟨u, rfl, hu1, hu, hl⟩
    refine b_Mletter hB hp hm ⟨fun h4 => ⟨⟨by omega, by omega⟩, ⟨by omega, by omega⟩, ?_⟩, fun h4 => ?_⟩
    · have h4 := bI_0 h4
      have hlu : ltr b N (ps b N u) = false := by
        by_cases hu2 : u < sgn b N N
        · rw [lts_n hu2] at h4; exact h4
        · rw [ps_ge (by omega)]; exact ltr_o (Nat.le_refl _)
      have hne : ¬ u = t := fun e => by rw [e, h3] at hlu; cases hlu
      have hlt := ps_mono (b := b) (N := N) (show t < u by omega) hu
      have hle := ps_le b N u
      have hen : wen b N (ps b N u - 1) = true := by
        unfold wen
        rw [hl _ (by omega) (by omega), show ps b N u - 1 + 1 = ps b N u by omega, hlu]; rfl
      have hcs : cn (wen b N) (ps b N u - 1) = k := by
        rw [← hc2]
        refine cn_same (by omega) fun j h5 h6 => ?_
        unfold wen
        rw [hl (j + 1) (by omega) (by omega)]; simp
      have eE : wEn b N k = ps b N u := by
        have : nt (wen b N) N k = ps b N u - 1 := nt_eq hen (by omega) hcs
        unfold wEn; omega
      have hc3 : cn (wen b N) (ps b N u) = k + 1 := by
        have := cn_t hen
        rw [show ps b N u - 1 + 1 = ps b N u by omega] at this
        omega
      refine ⟨⟨k + 1, u, by omega, rfl, hu, by omega, ?_, hc3, fun j hj => ?_⟩, by dsimp only; omega⟩
      · rw [wst_wen, hlu, Bool.and_false, hc3]; rfl
      · by_cases e : j = k
        · rw [e, uI_e rfl, uI_e rfl, eB, eE, sgn_ps (by omega), sgn_ps hu]
          exact ⟨rfl, rfl⟩
        · rw [uI_n (by omega) (by omega), uI_n (by omega) (by omega)]; exact ha j (by omega)
    · have h4 := bI_1 h4
      have hu2 : u < sgn b N N := by
        unfold lts at h4
        have := of_decide_eq_true (Bool.and_eq_true_iff.mp h4).1
        omega
      rw [lts_n hu2] at h4
      refine ⟨⟨by omega, by omega⟩, ⟨u + 1, by omega, by omega, by omega, fun j h5 h6 => ?_⟩, by dsimp only; omega⟩
      by_cases e : j < ps b N u
      · exact hl j h5 e
      · cases es : sec b N (ps b N u + 1)
        · rw [ps_1 hu2 es] at h6
          rw [show j = ps b N u by omega]; exact h4
        · rw [ps_2 hu2 es] at h6
          by_cases e2 : j = ps b N u
          · rw [e2]; exact h4
          · rw [show j = ps b N u + 1 by omega]; exact (sec_ltr es).1
  · have ht : t < sgn b N N := by omega
    have h1 := ps_lt ht
    rw [lts_n ht] at h3
    have h3 := bI_0 h3
    have e1 : ps b N (t + 1) = ps b N t + 1 := by
      refine ps_1 ht ?_
      cases e : sec b N (ps b N t + 1)
      · rfl
      · have := (sec_ltr e).2
        rw [Nat.add_sub_cancel, h3] at this; cases this
    refine ⟨⟨by omega, by omega⟩, ⟨k, t + 1, rfl, by omega, by omega, hk, ?_, ?_, ha⟩, by dsimp only; omega⟩
    · rw [e1, cn_f]
      · exact hc1
      · unfold wst; rw [h3]; rfl
    · rw [e1, cn_f]
      · exact hc2
      · unfold wen; rw [h3]; rfl
