/-! B7: signs as the reference numbers them -/
def ps (b : Nat → Int) (N s : Nat) : Nat := if s < sgn b N N then nt (nsc b N) N s else N
theorem ps_lt {b : Nat → Int} {N s : Nat} (h : s < sgn b N N) : ps b N s < N ∧ nsc b N (ps b N s) = true ∧ sgn b N (ps b N s) = s := by
  unfold ps
  rw [if_pos h]
  exact nt_spec h
theorem ps_S (b : Nat → Int) (N : Nat) : ps b N (sgn b N N) = N := if_neg (Nat.lt_irrefl _)
theorem ps_ge {b : Nat → Int} {N s : Nat} (h : sgn b N N ≤ s) : ps b N s = N := if_neg (by omega)
theorem ps_sgn {b : Nat → Int} {N i : Nat} (hi : i ≤ N) (h : sec b N i = false) : ps b N (sgn b N i) = i := by
  rcases Nat.eq_or_lt_of_le hi with e | e
  · rw [e]; exact ps_S b N
  · have hn : nsc b N i = true := by unfold nsc; rw [h]; rfl
    unfold ps
    rw [if_pos (show sgn b N i < sgn b N N from cn_lt hn e)]
    exact nt_cn hn e
theorem ps_0 (b : Nat → Int) (N : Nat) : ps b N 0 = 0 := ps_sgn (b := b) (N := N) (i := 0) (Nat.zero_le _) (sec_0 b N)
theorem sgn_ps {b : Nat → Int} {N s : Nat} (h : s ≤ sgn b N N) : sgn b N (ps b N s) = s := by
  rcases Nat.eq_or_lt_of_le h with e | e
  · rw [ps_ge (by omega)]; exact e.symm
  · exact (ps_lt e).2.2
theorem ps_le (b : Nat → Int) (N s : Nat) : ps b N s ≤ N := by
  rcases Nat.lt_or_ge s (sgn b N N) with h | h
  · exact Nat.le_of_lt (ps_lt h).1
  · rw [ps_ge h]; exact Nat.le_refl _
theorem ps_sec (b : Nat → Int) (N s : Nat) : sec b N (ps b N s) = false := by
  rcases Nat.lt_or_ge s (sgn b N N) with h | h
  · have := (ps_lt h).2.1
    unfold nsc at this
    simpa using this
  · rw [ps_ge h]; exact sec_N b (Nat.le_refl _)
theorem sec_two {b : Nat → Int} {N i : Nat} (h : sec b N i = true) : sec b N (i + 1) = false := by
  have h := of_decide_eq_true h
  refine decide_eq_false ?_
  rw [Nat.add_sub_cancel]
  omega
theorem ps_1 {b : Nat → Int} {N s : Nat} (h : s < sgn b N N) (h2 : sec b N (ps b N s + 1) = false) : ps b N (s + 1) = ps b N s + 1 := by
  have h1 := ps_lt h
  have e : sgn b N (ps b N s + 1) = s + 1 := by
    have h3 : cn (nsc b N) (ps b N s) = s := h1.2.2
    have h4 : cn (nsc b N) (ps b N s + 1) = cn (nsc b N) (ps b N s) + 1 := cn_t h1.2.1
    unfold sgn
    omega
  have h4 := ps_sgn (b := b) (N := N) (i := ps b N s + 1) (by omega) h2
  rw [e] at h4
  exact h4
theorem ps_2 {b : Nat → Int} {N s : Nat} (h : s < sgn b N N) (h2 : sec b N (ps b N s + 1) = true) : ps b N (s + 1) = ps b N s + 2 := by
  have h1 := ps_lt h
  have h5 := sec_ge h2
  have e : sgn b N (ps b N s + 2) = s + 1 := by
    have h3 : cn (nsc b N) (ps b N s) = s := h1.2.2
    have h4 : cn (nsc b N) (ps b N s + 1) = cn (nsc b N) (ps b N s) + 1 := cn_t h1.2.1
    have h6 : cn (nsc b N) (ps b N s + 1 + 1) = cn (nsc b N) (ps b N s + 1) := cn_f (by unfold nsc; rw [h2]; rfl)
    show cn (nsc b N) (ps b N s + 1 + 1) = s + 1
    omega
  have h4 := ps_sgn (b := b) (N := N) (i := ps b N s + 2) (by omega) (sec_two h2)
  rw [e] at h4
  exact h4
theorem ps_mono {b : Nat → Int} {N s t : Nat} (h : s < t) (ht : t ≤ sgn b N N) : ps b N s < ps b N t := by
  rcases Nat.lt_or_ge (ps b N s) (ps b N t) with e | e
  · exact e
  · have := cn_mono (nsc b N) e
    have h1 : cn (nsc b N) (ps b N s) = s := sgn_ps (by omega)
    have h2 : cn (nsc b N) (ps b N t) = t := sgn_ps ht
    omega
theorem ps_prev {b : Nat → Int} {N t : Nat} (h1 : 1 ≤ t) (ht : t ≤ sgn b N N) : (sec b N (ps b N t - 1) = false ∧ ps b N t = ps b N (t - 1) + 1) ∨ (sec b N (ps b N t - 1) = true ∧ ps b N t = ps b N (t - 1) + 2) := by
  obtain ⟨u, rfl⟩ : ∃ u, t = u + 1 := ⟨t - 1, by omega⟩
  rw [Nat.add_sub_cancel]
  cases e : sec b N (ps b N u + 1)
  · have h2 := ps_1 (by omega) e
    rw [h2, Nat.add_sub_cancel]
    exact .inl ⟨ps_sec b N u, rfl⟩
  · have h2 := ps_2 (by omega) e
    rw [h2, show ps b N u + 2 - 1 = ps b N u + 1 by omega]
    exact .inr ⟨e, rfl⟩
theorem sgn_lt {b : Nat → Int} {N i j : Nat} (hi : sec b N i = false) (h : i < j) : sgn b N i < sgn b N j := cn_lt (by unfold nsc; rw [hi]; rfl) h
theorem sgn_mono {b : Nat → Int} {N i j : Nat} (h : i ≤ j) : sgn b N i ≤ sgn b N j := cn_mono _ h
theorem sgn_le (b : Nat → Int) (N i : Nat) : sgn b N i ≤ i := cn_le _ _
def MsA (b : Nat → Int) (N : Nat) (sa : Nat → Int) : Prop := ∀ s, s ≤ sgn b N N → sa s = ps b N s
def PgE (b : Nat → Int) (N : Nat) (pg : Nat → Int) : Prop := ∀ i, i < N → pg i = b i
theorem b_Min {a l h : Int} {Q : Int → Prop} (hq : Q (bI (decide (l ≤ a ∧ a ≤ h)))) : wp_M_in a l h Q := by
  unfold wp_M_in
  refine ⟨fun h1 => qe hq ?_, fun h1 => ⟨fun h2 => qe hq ?_, fun h2 => qe hq ?_⟩⟩
  · rw [decide_eq_false (by omega)]; rfl
  · rw [decide_eq_false (by omega)]; rfl
  · rw [decide_eq_true (by omega)]; rfl
theorem b_Mpair {b pg : Nat → Int} {N i : Nat} {Q : Int → Prop} (hN : N ≤ 600) (hp : PgE b N pg) (hi : i < N) (hq : Q (bI (sec b N (i + 1)))) : wp_M_isPair pg N i Q := by
  unfold wp_M_isPair
  rw [Int.toNat_natCast, show Int.toNat ((i : Int) + 1) = i + 1 by omega, hp i hi]
  refine ⟨⟨by omega, by omega⟩, fun h1 => qe hq ?_, fun h1 => ⟨⟨by omega, by omega⟩, fun h2 => qe hq ?_, fun h2 => ⟨⟨by omega, by omega⟩, ⟨by omega, by omega⟩, b_Min ?_⟩⟩⟩
  · rw [sec_N b (by omega)]; rfl
  · unfold sec; rw [Nat.add_sub_cancel, decide_eq_false (by omega)]; rfl
  · rw [hp (i + 1) (by omega)]
    refine ⟨fun h3 => qe hq ?_, fun h3 => qe hq ?_⟩
    · have h3 := of_decide_eq_false (bI_0 h3)
      unfold sec; rw [Nat.add_sub_cancel, decide_eq_false (by omega)]; rfl
    · have h3 := of_decide_eq_true (bI_1 h3)
      unfold sec; rw [Nat.add_sub_cancel, decide_eq_true (by omega)]; rfl
theorem b_MSigns {b pg sa : Nat → Int} {N : Nat} {z : Int} {Q : (Nat → Int) → Int → Prop} (hN : N ≤ 600) (hp : PgE b N pg) (hq : ∀ sa', MsA b N sa' → Q sa' (sgn b N N)) : wp_M_laysSigns pg sa N z Q := by
  unfold wp_M_laysSigns
  refine ⟨fun sa n x => ∃ i : Nat, x = i ∧ i ≤ N ∧ sec b N i = false ∧ n = sgn b N i ∧ ∀ s, s < sgn b N i → sa s = ps b N s, fun _ _ x => N - x.toNat, ⟨0, rfl, Nat.zero_le _, sec_0 b N, rfl, fun s h => absurd h (Nat.not_lt_zero s)⟩, ?_⟩
  rintro sa n x ⟨i, rfl, hi, hs, rfl, ha⟩
  have hc : sgn b N i ≤ i := cn_le (nsc b N) i
  refine ⟨fun h => ⟨⟨by omega, by omega⟩, ?_⟩, fun h => ⟨⟨by omega, by omega⟩, ⟨by omega, by omega⟩, b_Mpair hN hp (by omega) ?_⟩⟩
  · have e : i = N := by omega
    have eS : sgn b N i = sgn b N N := by rw [e]
    rw [eS]
    refine hq _ fun s hs2 => ?_
    by_cases e3 : s = sgn b N N
    · rw [uI_e (by omega), e3, ps_S]
    · rw [uI_n (by omega) (by omega)]; exact ha s (by omega)
  · have hn : nsc b N i = true := by unfold nsc; rw [hs]; rfl
    have e1 : sgn b N (i + 1) = sgn b N i + 1 := cn_t hn
    have hu : ∀ s, s < sgn b N i + 1 → uI sa (sgn b N i : Nat) i s = ps b N s := by
      intro s hs2
      by_cases e : s = sgn b N i
      · rw [uI_e (by omega), e, ps_sgn hi hs]
      · rw [uI_n (by omega) (by omega)]; exact ha s (by omega)
    refine jn1_i ⟨fun h2 => ?_, fun h2 => ?_⟩
    · have h2 := bI_0 h2
      refine ⟨⟨by omega, by omega⟩, ⟨i + 1, by omega, by omega, h2, by omega, ?_⟩, by dsimp only; omega⟩
      rw [e1]; exact hu
    · have h2 := bI_1 h2
      have h3 := sec_ge h2
      have e2 : sgn b N (i + 2) = sgn b N i + 1 := by
        have h4 : cn (nsc b N) (i + 1 + 1) = cn (nsc b N) (i + 1) := cn_f (by unfold nsc; rw [h2]; rfl)
        have h5 : sgn b N (i + 2) = sgn b N (i + 1) := h4
        omega
      refine ⟨⟨by omega, by omega⟩, ⟨i + 2, by omega, by omega, sec_two h2, by omega, ?_⟩, by dsimp only; omega⟩
      rw [e2]; exact hu
theorem b_pln {b pg sa : Nat → Int} {N t : Nat} {Q : Int → Prop} (hN : N ≤ 600) (hp : PgE b N pg) (hm : MsA b N sa) (ht : t ≤ sgn b N N) (hq : ∀ r, (r = atv b N (ps b N t) ∧ (t < sgn b N N → ps b N (t + 1) = ps b N t + 1)) ∨ (r = -1 ∧ 192 ≤ atv b N (ps b N t) ∧ t < sgn b N N ∧ ps b N (t + 1) = ps b N t + 2) → Q r) : wp_M_plain pg sa (sgn b N N) t Q := by
  have hS : sgn b N N ≤ N := cn_le (nsc b N) N
  unfold wp_M_plain
  refine ⟨⟨by omega, by omega⟩, b_Min ?_⟩
  by_cases h : t < sgn b N N
  · rw [decide_eq_true (by omega)]
    refine ⟨fun h2 => (by cases h2), fun _ => ?_⟩
    have h1 := ps_lt h
    unfold wp_M_signBytes
    rw [Int.toNat_natCast, show Int.toNat ((t : Int) + 1) = t + 1 by omega, hm t ht, hm (t + 1) (by omega)]
    have h3 := ps_le b N (t + 1)
    have h4 : atv b N (ps b N t) = b (ps b N t) := atv_n h1.1
    refine ⟨⟨by omega, by omega⟩, ⟨by omega, by omega⟩, ⟨by omega, by omega⟩, ⟨by omega, by omega⟩, fun h5 => hq _ (.inr ?_), fun h5 => ⟨⟨by omega, by omega⟩, ⟨by omega, by omega⟩, hq _ (.inl ?_)⟩⟩
    · cases e : sec b N (ps b N t + 1)
      · have := ps_1 h e; omega
      · have := sec_ge e
        rw [Nat.add_sub_cancel] at this
        refine ⟨rfl, ?_, h, ps_2 h e⟩
        rw [h4]; exact this.2.1
    · rw [Int.toNat_natCast, h4, hp _ h1.1]
      refine ⟨rfl, fun _ => ?_⟩
      omega
  · rw [decide_eq_false (by omega)]
    refine ⟨fun _ => hq _ (.inl ⟨?_, fun h2 => absurd h2 h⟩), fun h2 => absurd rfl h2⟩
    rw [ps_ge (by omega), atv_o (.inr (Int.le_refl _))]
theorem b_Mblk {b pg sa : Nat → Int} {N t : Nat} {Q : Int → Prop} (hN : N ≤ 600) (hp : PgE b N pg) (hm : MsA b N sa) (ht : t ≤ sgn b N N) (hq : Q (bI (blk (atv b N (ps b N t))))) : wp_M_isBlank pg sa (sgn b N N) t Q := by
  unfold wp_M_isBlank
  refine b_pln hN hp hm ht fun r hr => jn0_i ⟨fun h => qe hq ?_, fun h => ⟨fun h2 => qe hq ?_, fun h2 => ⟨fun h3 => qe hq ?_, fun h3 => qe hq ?_⟩⟩⟩ <;> unfold blk
  · rw [decide_eq_true (by omega)]; rfl
  · rw [decide_eq_true (by omega)]; rfl
  · rw [decide_eq_false (by omega)]; rfl
  · rw [decide_eq_true (by omega)]; rfl
theorem b_Mstp {b pg sa : Nat → Int} {N t : Nat} {Q : Int → Prop} (hN : N ≤ 600) (hp : PgE b N pg) (hm : MsA b N sa) (ht : t ≤ sgn b N N) (hq : Q (bI (stp (atv b N (ps b N t))))) : wp_M_isStop pg sa (sgn b N N) t Q := by
  unfold wp_M_isStop
  refine b_pln hN hp hm ht fun r hr => jn0_i ⟨fun h => qe hq ?_, fun h => ⟨fun h2 => qe hq ?_, fun h2 => ⟨fun h3 => qe hq ?_, fun h3 => qe hq ?_⟩⟩⟩ <;> unfold stp
  · rw [decide_eq_true (by omega)]; rfl
  · rw [decide_eq_true (by omega)]; rfl
  · rw [decide_eq_false (by omega)]; rfl
  · rw [decide_eq_true (by omega)]; rfl
theorem b_Mclo {b pg sa : Nat → Int} {N t : Nat} {Q : Int → Prop} (hN : N ≤ 600) (hp : PgE b N pg) (hm : MsA b N sa) (ht : t ≤ sgn b N N) (hq : Q (bI (clo (atv b N (ps b N t))))) : wp_M_isClosing pg sa (sgn b N N) t Q := by
  unfold wp_M_isClosing
  refine b_Mstp hN hp hm ht (jn0_i ⟨fun h => qe hq ?_, fun h => b_pln hN hp hm ht fun r hr => ⟨fun h2 => qe hq ?_, fun h2 => b_pln hN hp hm ht fun r3 hr3 => ⟨fun h3 => qe hq ?_, fun h3 => qe hq ?_⟩⟩⟩) <;> unfold clo
  · have h := of_decide_eq_true (bI_1 h)
    rw [decide_eq_true (by omega)]; rfl
  · rw [decide_eq_true (by omega)]; rfl
  · have h := of_decide_eq_false (bI_0 h)
    rw [decide_eq_false (by omega)]; rfl
  · rw [decide_eq_true (by omega)]; rfl
theorem b_Msmall {c : Int} {Q : Int → Prop} (hc : -1 ≤ c ∧ c ≤ 255) (hq : Q (smv c)) : wp_M_small c Q := b_small hc hq
theorem b_MisSm {c : Int} {Q : Int → Prop} (hq : Q (bI (isSm c))) : wp_M_isSmall c Q := b_isSm hq
def lts (b : Nat → Int) (N : Nat) (s : Int) : Bool := decide (0 ≤ s ∧ s < sgn b N N) && ltr b N (ps b N s.toNat)
theorem lts_n {b : Nat → Int} {N t : Nat} (h : t < sgn b N N) : lts b N t = ltr b N (ps b N t) := by
  unfold lts
  rw [decide_eq_true (by omega), Int.toNat_natCast]; rfl
theorem b_Mletter {b pg sa : Nat → Int} {N : Nat} {a : Int} {Q : Int → Prop} (hB : Byt b N) (hp : PgE b N pg) (hm : MsA b N sa) (hq : Q (bI (lts b N a))) : wp_M_isLetter pg sa (sgn b N N) a Q := by
  have hN := hB.1
  have hS : sgn b N N ≤ N := cn_le (nsc b N) N
  unfold wp_M_isLetter
  refine ⟨⟨by omega, by omega⟩, b_Min ?_⟩
  by_cases h : 0 ≤ a ∧ a < sgn b N N
  · obtain ⟨t, rfl⟩ : ∃ t : Nat, a = t := ⟨a.toNat, by omega⟩
    have ht : t < sgn b N N := by omega
    have h1 := ps_lt ht
    rw [lts_n ht] at hq
    have el : ltr b N (ps b N t) = (isSm (smv (b (ps b N t))) || sec b N (ps b N t + 1)) := by
      unfold ltr
      rw [decide_eq_true h1.1, ps_sec]; simp
    rw [decide_eq_true (by omega)]
    refine ⟨fun h2 => (by cases h2), fun _ => ?_⟩
    unfold wp_M_signBytes
    rw [Int.toNat_natCast, show Int.toNat ((t : Int) + 1) = t + 1 by omega, hm t (by omega), hm (t + 1) (by omega)]
    have h3 := ps_le b N (t + 1)
    have h4 : atv b N (ps b N t) = b (ps b N t) := atv_n h1.1
    refine ⟨⟨by omega, by omega⟩, ⟨by omega, by omega⟩, ⟨by omega, by omega⟩, ⟨by omega, by omega⟩, jn0_i ⟨fun h5 => qe hq ?_, fun h5 => b_pln hN hp hm (by omega) fun r hr => ?_⟩⟩
    · cases e : sec b N (ps b N t + 1)
      · have := ps_1 ht e; omega
      · rw [el, e, Bool.or_true]; rfl
    · rcases hr with ⟨rfl, hr2⟩ | ⟨rfl, _, _, hr2⟩
      · have e5 : sec b N (ps b N t + 1) = false := by
          cases e : sec b N (ps b N t + 1)
          · rfl
          · have := ps_2 ht e
            have := hr2 ht
            omega
        rw [el, e5, Bool.or_false] at hq
        rw [h4]
        refine b_Msmall (by have := hB.2 _ h1.1; omega) (b_MisSm ⟨fun h6 => qe hq ?_, fun h6 => qe hq ?_⟩)
        · rw [bI_0 h6]; rfl
        · rw [bI_1 h6]; rfl
      · omega
  · have e0 : lts b N a = false := by unfold lts; rw [decide_eq_false h]; rfl
    rw [e0] at hq
    rw [decide_eq_false (by omega)]
    exact ⟨fun _ => hq, fun h2 => absurd rfl h2⟩
theorem lts_prev {b : Nat → Int} {N t : Nat} (ht : t ≤ sgn b N N) : ltz b N ((ps b N t : Int) - 1) = lts b N ((t : Int) - 1) := by
  rcases Nat.eq_zero_or_pos t with e | e
  · rw [e, ps_0]
    unfold ltz lts
    rw [decide_eq_false (show ¬ 0 ≤ ((0 : Nat) : Int) - 1 by omega), decide_eq_false (by omega)]; rfl
  · have h := ps_prev e ht
    have h2 := ps_lt (show t - 1 < sgn b N N by omega)
    have h3 := ps_le b N t
    unfold ltz lts
    rw [decide_eq_true (show 0 ≤ (ps b N t : Int) - 1 by omega), decide_eq_true (show 0 ≤ (t : Int) - 1 ∧ (t : Int) - 1 < sgn b N N by omega), show ((ps b N t : Int) - 1).toNat = ps b N t - 1 by omega, show ((t : Int) - 1).toNat = t - 1 by omega, Bool.true_and, Bool.true_and]
    rcases h with ⟨e2, h⟩ | ⟨e2, h⟩
    · rw [show ps b N t - 1 = ps b N (t - 1) by omega]
    · have g := sec_ltr e2
      rw [g.1, show ps b N (t - 1) = ps b N t - 1 - 1 by omega, g.2]
theorem skc_1 (b : Nat → Int) (N i : Nat) : decide (skc b N i = i) = !clo (atv b N i) := by
  rcases Nat.lt_or_ge i N with h | h
  · rw [atv_n h]
    cases e : clo (b i)
    · have : skc b N i = i := sk_stop (p := clp b) e
      rw [decide_eq_true this]; rfl
    · have h1 : skc b N i = skc b N (i + 1) := sk_step (p := clp b) h e
      have h2 : i + 1 ≤ skc b N (i + 1) := sk_ge _ _ _
      rw [decide_eq_false (by omega)]; rfl
  · rw [atv_o (.inr (by omega))]
    have : skc b N i = i := sk_end h
    rw [decide_eq_true this]; rfl
theorem b_Mini {b pg sa : Nat → Int} {N t : Nat} {Q : Int → Prop} (hB : Byt b N) (hp : PgE b N pg) (hm : MsA b N sa) (ht : t < sgn b N N) (hq : Q (bI (ini b N (ps b N t)))) : wp_M_isInitial pg sa (sgn b N N) t Q := by
  have hN := hB.1
  have hS : sgn b N N ≤ N := cn_le (nsc b N) N
  have h1 := ps_lt ht
  have h4 : atv b N (ps b N t) = b (ps b N t) := atv_n h1.1
  unfold wp_M_isInitial
  refine b_pln hN hp hm (by omega) fun r hr => ⟨fun h => qe hq ?_, fun h => ⟨⟨by omega, by omega⟩, b_Mletter hB hp hm ?_⟩⟩
  · unfold ini
    rw [decide_eq_false (show ¬ b (ps b N t) = 46 by omega), Bool.and_false]; rfl
  · rcases hr with ⟨rfl, hr2⟩ | ⟨rfl, _, _, _⟩
    · have hr2 := hr2 ht
      have e1 := lts_prev (b := b) (N := N) (t := t) (by omega)
      have hb : b (ps b N t) = 46 := by omega
      refine ⟨fun h2 => qe hq ?_, fun h2 => ⟨⟨by omega, by omega⟩, b_Mletter hB hp hm ?_⟩⟩
      · unfold ini lone; rw [e1, bI_0 h2]; simp [bI]
      · have ht1 : 1 ≤ t := by
          have := bI_1 h2
          unfold lts at this
          have := of_decide_eq_true (Bool.and_eq_true_iff.mp this).1
          omega
        have e2 : ltz b N (if sec b N ((ps b N t : Int) - 1).toNat then (ps b N t : Int) - 1 - 2 else (ps b N t : Int) - 1 - 1) = lts b N ((t : Int) - 2) := by
          have g := lts_prev (b := b) (N := N) (t := t - 1) (by omega)
          rw [show ((t : Int) - 2) = ((t - 1 : Nat) : Int) - 1 by omega, ← g, show ((ps b N t : Int) - 1).toNat = ps b N t - 1 by omega]
          congr 1
          rcases ps_prev ht1 (show t ≤ sgn b N N by omega) with ⟨e3, g2⟩ | ⟨e3, g2⟩
          · rw [e3]; show (ps b N t : Int) - 1 - 1 = _; omega
          · rw [e3]; show (ps b N t : Int) - 1 - 2 = _; omega
        refine ⟨fun h3 => qe hq ?_, fun h3 => ⟨⟨by omega, by omega⟩, ?_⟩⟩
        · unfold ini lone; rw [e2, bI_1 h3]; simp [bI]
        · have h5 := skc_1 b N (ps b N t + 1)
          rw [show ((t : Int) + 1) = ((t + 1 : Nat) : Int) by omega]
          refine b_Mclo hN hp hm (by omega) ⟨fun h6 => qe hq ?_, fun h6 => qe hq ?_⟩
          · rw [hr2] at h6
            unfold ini
            rw [h5, bI_1 h6]; simp [bI]
          · rw [hr2] at h6
            unfold ini lone
            rw [h5, bI_0 h6, e1, bI_1 h2, e2, bI_0 h3, decide_eq_true hb]; rfl
    · omega
theorem b_Mgap {b pg sa : Nat → Int} {N t : Nat} {Q : Int → Prop} (hN : N ≤ 600) (hp : PgE b N pg) (hm : MsA b N sa) (ht : t < sgn b N N) (hq : Q (bI (gap b N (ps b N t)))) : wp_M_isGap pg sa (sgn b N N) t Q := by
  have hS : sgn b N N ≤ N := cn_le (nsc b N) N
  have h4 : atv b N (ps b N t) = b (ps b N t) := atv_n (ps_lt ht).1
  unfold wp_M_isGap
  refine b_pln hN hp hm (by omega) fun r hr => ⟨fun h => ⟨⟨by omega, by omega⟩, ?_⟩, fun h => qe hq ?_⟩
  · rcases hr with ⟨rfl, hr2⟩ | ⟨rfl, _, _, _⟩
    · have hr2 := hr2 ht
      have hb : b (ps b N t) = 10 := by omega
      refine ⟨fun x => ∃ u : Nat, x = u ∧ u ≤ sgn b N N ∧ sk (tbp b) N (ps b N u) = sk (tbp b) N (ps b N t + 1), fun x => sgn b N N - x.toNat, ⟨t + 1, by omega, by omega, by rw [hr2]⟩, ?_⟩
      rintro x ⟨u, rfl, hu, e⟩
      have ha1 : u < sgn b N N → atv b N (ps b N u) = b (ps b N u) := fun h => atv_n (ps_lt h).1
      have ha2 : ¬ u < sgn b N N → atv b N (ps b N u) = -1 := fun h => atv_o (.inr (by rw [ps_ge (by omega)]; exact Int.le_refl _))
      have ex : ¬ (atv b N (ps b N u) = 9 ∨ atv b N (ps b N u) = 32) → sk (tbp b) N (ps b N t + 1) = ps b N u := by
        intro hn
        rw [← e]
        by_cases hu2 : u < sgn b N N
        · have := ha1 hu2
          exact sk_stop (decide_eq_false (by omega))
        · exact sk_end (by rw [ps_ge (by omega)]; exact Nat.le_refl _)
      refine b_pln hN hp hm hu fun r hr => ⟨tbp b (ps b N u) = true ∧ u < sgn b N N ∧ ps b N (u + 1) = ps b N u + 1, fun hJ => ⟨⟨by omega, by omega⟩, ⟨u + 1, by omega, by omega, ?_⟩, by dsimp only; omega⟩, fun h3 => ?_, fun h3 => b_pln hN hp hm hu fun r4 hr4 => ⟨fun h4 => b_pln hN hp hm hu fun r5 hr5 => ⟨fun h5 => qe hq ?_, fun h5 => qe hq ?_⟩, fun h4 => ?_⟩⟩
      · rw [hJ.2.2, ← e, sk_step (i := ps b N u) (ps_lt hJ.2.1).1 hJ.1]
      · have hu2 : u < sgn b N N := by
          by_cases h : u < sgn b N N
          · exact h
          · have := ha2 h; omega
        have := ha1 hu2
        exact ⟨decide_eq_true (by omega), hu2, by omega⟩
      · unfold gap
        rw [ex (by omega), decide_eq_false (show ¬ atv b N (ps b N u) = 10 by omega), Bool.and_false]; rfl
      · unfold gap
        rw [ex (by omega), decide_eq_true (show atv b N (ps b N u) = 10 by omega), decide_eq_true hb]; rfl
      · have hu2 : u < sgn b N N := by
          by_cases h : u < sgn b N N
          · exact h
          · have := ha2 h; omega
        have := ha1 hu2
        exact ⟨decide_eq_true (by omega), hu2, by omega⟩
    · omega
  · unfold gap
    rw [decide_eq_false (show ¬ b (ps b N t) = 10 by omega)]; rfl
