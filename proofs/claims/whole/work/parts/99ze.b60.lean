/-! B60: match, rank of the reference -/
theorem bc_bs {p : Nat → Bool} {n : Nat} (h : n ≤ 31) : bc (bs p n) = cn p n := by
  unfold bc
  rw [cn_same (i := n) h (fun k h1 _ => by rw [bs_bit, decide_eq_false (by omega), Bool.false_and])]
  exact cn_congr fun i hi => bs_in hi
theorem m_next {I w : Nat} {R : Nat → Nat → Bool} (hI : I ≤ 8) : cn (mpq I R) (8 * (w + 1)) = cn (mpq I R) (8 * w) + cn (fun k => R k w) I := by
  rw [mpq_end hI, cn_split]
  congr 1
  exact cn_congr fun i hi => by rw [show i + 8 * w = 8 * w + i by omega, mpq_at (by omega), decide_eq_true hi, Bool.true_and]
theorem nt_in {p : Nat → Bool} {n m i j : Nat} (hm : m < cn p n) (h1 : cn p i ≤ m) (h2 : m < cn p j) : i ≤ nt p n m ∧ nt p n m < j := by
  have s := nt_spec hm
  constructor
  · apply Classical.byContradiction
    intro h
    have := cn_lt s.2.1 (show nt p n m < i by omega)
    omega
  · apply Classical.byContradiction
    intro h
    have := cn_mono p (show j ≤ nt p n m by omega)
    omega
theorem b_firstOf {W I m : Nat} {R : Nat → Nat → Bool} {bg : Nat → Int} {Q : Int → Prop} (hW : W ≤ 100) (hI : I ≤ 8) (hbg : ∀ v, v < W → bg v = bs (fun k => R k v) I) (hm : m < M0 W I R) (hq : Q (mFi W I R m : Nat)) : wp_Matches_firstWordOf bg W m Q := by
  have hM : m < cn (mpq I R) (8 * W) := hm
  have hm2 := M0_le W I R
  unfold wp_Matches_firstWordOf
  refine ⟨fun x1 x2 => ∃ w : Nat, x2 = w ∧ w ≤ W ∧ x1 = (cn (mpq I R) (8 * w) : Nat) ∧ cn (mpq I R) (8 * w) ≤ m, fun _ x2 => W - x2.toNat, ⟨0, rfl, by omega, rfl, Nat.zero_le _⟩, ?_⟩
  rintro _ _ ⟨w, rfl, hw, rfl, hc⟩
  refine ⟨fun h => ?_, fun h => ⟨⟨by omega, by omega⟩, ?_⟩⟩
  · rw [show w = W by omega] at hc; omega
  · rw [Int.toNat_natCast, hbg w (by omega)]
    have hn := m_next (R := R) (w := w) hI
    have hI2 := cn_le (fun k => R k w) I
    refine b_bits (Nat.lt_of_lt_of_le (bs_lt _ _) (Nat.pow_le_pow_right (by omega) (by omega))) ?_
    rw [bc_bs (by omega)]
    refine ⟨⟨by omega, by omega⟩, fun k => ⟨⟨by omega, by omega⟩, ⟨w + 1, by omega, by omega, by omega, by omega⟩, by (try dsimp only); omega⟩, fun k => ?_⟩
    have s := nt_in hM hc (show m < cn (mpq I R) (8 * (w + 1)) by omega)
    unfold mFi at hq
    rw [show nt (mpq I R) (8 * W) m / 8 = w by omega] at hq
    exact hq
theorem b_itemOf {W I m : Nat} {R : Nat → Nat → Bool} {bg : Nat → Int} {Q : Int → Prop} (hW : W ≤ 100) (hI : I ≤ 8) (hbg : ∀ v, v < W → bg v = bs (fun k => R k v) I) (hm : m < M0 W I R) (hq : Q (mIt W I R m : Nat)) : wp_Matches_itemOf bg W I m Q := by
  have hM : m < cn (mpq I R) (8 * W) := hm
  have hm2 := M0_le W I R
  unfold wp_Matches_itemOf
  refine ⟨fun x1 x2 => ∃ w : Nat, x2 = w ∧ w ≤ W ∧ x1 = (cn (mpq I R) (8 * w) : Nat) ∧ cn (mpq I R) (8 * w) ≤ m, fun _ x2 => W - x2.toNat, ⟨0, rfl, by omega, rfl, Nat.zero_le _⟩, ?_⟩
  rintro _ _ ⟨w, rfl, hw, rfl, hc⟩
  refine ⟨fun h => ?_, fun h => ?_⟩
  · rw [show w = W by omega] at hc; omega
  refine ⟨fun x3 x4 => ∃ k : Nat, x4 = k ∧ k ≤ I ∧ x3 = (cn (mpq I R) (8 * w + k) : Nat) ∧ cn (mpq I R) (8 * w + k) ≤ m, fun _ x4 => I - x4.toNat, ⟨0, rfl, by omega, rfl, hc⟩, ?_⟩
  rintro _ _ ⟨k, rfl, hk, rfl, hck⟩
  refine ⟨fun g => ?_, fun g => ⟨⟨by omega, by omega⟩, ?_⟩⟩
  · have ek : k = I := by omega
    rw [ek] at hck ⊢
    have hn := mpq_end (R := R) (w := w) hI
    exact ⟨⟨by omega, by omega⟩, ⟨w + 1, by omega, by omega, by rw [hn], by omega⟩, by (try dsimp only); omega⟩
  · rw [Int.toNat_natCast, hbg w (by omega), b_has (bs_31 _ (by omega)) (by omega), bs_in (show k < I by omega)]
    have hs : cn (mpq I R) (8 * w + k + 1) = cn (mpq I R) (8 * w + k) + (if R k w = true then 1 else 0) := by
      rw [cn_s, mpq_at (by omega), decide_eq_true (show k < I by omega), Bool.true_and]
    have e : ((cn (mpq I R) (8 * w + k) : Nat) : Int) + (if R k w = true then 1 else 0) = (cn (mpq I R) (8 * w + k + 1) : Nat) := by
      rw [hs]
      by_cases e : R k w = true
      · rw [if_pos e, if_pos e]; rfl
      · rw [if_neg e, if_neg e]; rfl
    rw [e]
    have hb := cn_le (mpq I R) (8 * w + k + 1)
    refine ⟨⟨by omega, by omega⟩, fun h2 => ⟨⟨by omega, by omega⟩, ⟨k + 1, by omega, by omega, rfl, (show cn (mpq I R) (8 * w + k + 1) ≤ m by omega)⟩, by (try dsimp only); omega⟩, fun h2 => ?_⟩
    have s := nt_in hM hck (show m < cn (mpq I R) (8 * w + k + 1) by omega)
    unfold mIt at hq
    rw [show nt (mpq I R) (8 * W) m % 8 = k by omega] at hq
    exact hq
def mvl (W I : Nat) (tc : Nat → Nat) (R : Nat → Nat → Bool) (m : Nat) (a : Int) : Int := if a = 0 then (mIt W I R m : Int) else if a = 1 then (mFi W I R m : Int) else (mFi W I R m : Int) + tc (mIt W I R m) - 1
theorem b_match {W I : Nat} {tc : Nat → Nat} {R : Nat → Nat → Bool} {qt bg : Nat → Int} {a1 a2 : Int} {Q : Int → Prop} {E : Nat → Prop} (hW : W ≤ 100) (hT : TcA W I tc R qt) (hbg : ∀ v, v < W → bg v = bs (fun k => R k v) I)
    (h1 : ∀ m : Nat, a1 = m → m < M0 W I R → 0 ≤ a2 ∧ a2 ≤ 2 → Q (mvl W I tc R m a2)) (h2 : 0 ≤ a1 ∧ a1 < (M0 W I R : Int) → ¬ (0 ≤ a2 ∧ a2 ≤ 2) → E 2) (h3 : ¬ (0 ≤ a1 ∧ a1 < (M0 W I R : Int)) → E 1) : wp_Picker_match qt bg W I (M0 W I R) a1 a2 Q E := by
  have hI := hT.1
  unfold wp_Picker_match
  refine rq_idx (fun g1 => rq_what (fun g2 => ?_) (fun g2 => h2 g1 g2)) h3
  obtain ⟨m, rfl⟩ : ∃ m : Nat, a1 = m := ⟨a1.toNat, by omega⟩
  have hm : m < M0 W I R := by omega
  have hq := h1 m rfl hm g2
  unfold mvl at hq
  refine b_firstOf hW hI hbg hm (b_itemOf hW hI hbg hm ⟨fun k => ?_, fun k => ⟨fun k2 => ?_, fun k2 => ?_⟩⟩)
  · rw [if_pos k] at hq; exact hq
  · rw [if_neg k, if_pos k2] at hq; exact hq
  · rw [if_neg k, if_neg k2] at hq
    have g := m_in hm
    have t := hT.2.1 _ g.1
    rw [Int.toNat_natCast, t.1]
    exact ⟨⟨by omega, by omega⟩, ⟨by omega, by omega⟩, ⟨by omega, by omega⟩, hq⟩
theorem b_Mmatch {W I : Nat} {tc : Nat → Nat} {R : Nat → Nat → Bool} {mi mf ml im mt : Nat → Int} {thr a1 a2 : Int} {Q : Int → Int → Prop} (hW : W ≤ 100) (hT : TcA W I tc R mt) (hM : MmA W I tc R mi mf ml im)
    (h1 : ∀ m : Nat, a1 = m → m < M0 W I R → 0 ≤ a2 ∧ a2 ≤ 2 → Q (mvl W I tc R m a2) 0) (h2 : 0 ≤ a1 ∧ a1 < (M0 W I R : Int) → ¬ (0 ≤ a2 ∧ a2 ≤ 2) → Q 0 2) (h3 : ¬ (0 ≤ a1 ∧ a1 < (M0 W I R : Int)) → Q 0 1) : wp_M_match mi mf ml thr (M0 W I R) a1 a2 Q := by
  have hM0 := M0_le W I R
  unfold wp_M_match
  refine ⟨⟨by omega, by omega⟩, m_no (fun g1 => ⟨fun k => absurd rfl k, fun _ => m_no (fun g2 => ⟨fun _ => ?_, fun k => absurd rfl k⟩) (fun g2 => ⟨fun k => absurd k (by decide), fun _ => h2 (by omega) g2⟩)⟩) (fun g1 => ⟨fun _ => h3 (by omega), fun k => absurd k (by decide)⟩)⟩
  obtain ⟨m, rfl⟩ : ∃ m : Nat, a1 = m := ⟨a1.toNat, by omega⟩
  have hm : m < M0 W I R := by omega
  have hq := h1 m rfl hm g2
  unfold mvl at hq
  have g := m_in hm
  have t := hT.2.1 _ g.1
  have e := hM.it hm
  rw [Int.toNat_natCast, e.1, e.2.1, e.2.2]
  refine ⟨fun k => ⟨fun k2 => ⟨⟨by omega, by omega⟩, ?_⟩, fun k2 => ⟨⟨by omega, by omega⟩, ?_⟩⟩, fun k => ⟨⟨by omega, by omega⟩, ?_⟩⟩
  · rw [if_neg k, if_neg k2] at hq
    rw [show ((mFi W I R m + tc (mIt W I R m) - 1 : Nat) : Int) = (mFi W I R m : Int) + tc (mIt W I R m) - 1 by omega]
    exact hq
  · rw [if_neg k, if_pos k2] at hq; exact hq
  · rw [if_pos k] at hq; exact hq
theorem wZ_one {S I s : Nat} {wt : Nat → Nat} {ta : Nat → Nat → Nat} (hs : s < S) : wZ S I wt ta (2 ^ s) = wth I wt (ta s) := wth_congr fun k _ => sS_one hs
theorem b_Mrank {b so0 lk fr to hwa mw mi mf ml im wo ln9 ins : Nat → Int} {N I : Nat} {wt tc : Nat → Nat} {R : Nat → Nat → Bool} {thr al a : Int} {Q : Int → (Nat → Int) → (Nat → Int) → (Nat → Int) → Int → Int → Prop} (hB : MBs b N I wt tc R so0 lk fr to hwa mw mi mf ml im) (hal : al = 0 ∨ (al = 1 ∧ StA (Sn b N) I wt (taN b N I R) (leN b N) wo ln9))
    (hq : ∀ (wo' ln' ins' : Nat → Int), StA (Sn b N) I wt (taN b N I R) (leN b N) wo' ln' → Q (rkI (Sn b N) (fun s => wth I wt (taN b N I R s)) a) wo' ln' ins' 0 1) : wp_M_rank so0 fr to mw mi mf wo ln9 ins thr (Sn b N) I (M0 (Wn b N) I R) al a Q := by
  have h14 := Sn_le b N
  have h100 : Wn b N ≤ 100 := by unfold Wn; omega
  have hP := p14 h14
  unfold wp_M_rank
  refine b_Msets h100 hB.1 hB.2.1 hB.2.2.1 hB.2.2.2.1 hal fun wo' ln' ins' hSt => ?_
  have hq : (fun r => Q r wo' ln' ins' 0 1) (rkI (Sn b N) (fun s => wth I wt (taN b N I R s)) a) := hq wo' ln' ins' hSt
  have wv : ∀ s, s < Sn b N → wo' (2 ^ s) = wth I wt (taN b N I R s) := fun s hs => by
    rw [(hSt (2 ^ s) (Nat.pow_lt_pow_right (by omega) hs)).1]
    exact congrArg _ (wZ_one hs)
  have pb : ∀ s, s < Sn b N → 2 ^ s < 16384 := fun s hs => Nat.lt_of_lt_of_le (Nat.pow_lt_pow_right (by omega) hs) hP
  generalize hS : Sn b N = S at *
  refine ⟨fun x => ∃ s : Nat, x = s ∧ s ≤ S ∧ sk (fun s => !decide ((ahd S (fun s => wth I wt (taN b N I R s)) s : Int) = a)) S s = sk (fun s => !decide ((ahd S (fun s => wth I wt (taN b N I R s)) s : Int) = a)) S 0, fun x => S - x.toNat, ⟨0, rfl, by omega, rfl⟩, ?_⟩
  rintro x ⟨s, rfl, hs, hsk⟩
  refine ⟨fun h => qe (Q := fun r => Q r wo' ln' ins' 0 1) hq ?_, fun h => ?_⟩
  · rw [sk_end (by omega)] at hsk
    unfold rkI
    rw [← hsk, if_neg (by omega)]
  · refine ⟨fun x y => ∃ o : Nat, y = o ∧ o ≤ S ∧ x = (cn (fun o => decide (wth I wt (taN b N I R s) < wth I wt (taN b N I R o) ∨ (wth I wt (taN b N I R o) = wth I wt (taN b N I R s) ∧ o < s))) o : Nat), fun _ y => S - y.toNat, ⟨0, rfl, by omega, rfl⟩, ?_⟩
    rintro x y ⟨o, rfl, ho, rfl⟩
    have hc := cn_le (fun o => decide (wth I wt (taN b N I R s) < wth I wt (taN b N I R o) ∨ (wth I wt (taN b N I R o) = wth I wt (taN b N I R s) ∧ o < s))) o
    refine ⟨fun h2 => ⟨fun h3 => ⟨⟨by omega, by omega⟩, ⟨s + 1, by omega, by omega, ?_⟩, by (try dsimp only); omega⟩, fun h3 => qe (Q := fun r => Q r wo' ln' ins' 0 1) hq ?_⟩, fun h2 => ?_⟩
    · rw [← hsk, sk_step (i := s) (by omega)]
      rw [show o = S by omega] at h3
      rw [decide_eq_false (show ¬ (ahd S (fun s => wth I wt (taN b N I R s)) s : Int) = a from h3)]; rfl
    · rw [show o = S by omega] at h3
      rw [sk_stop (by rw [decide_eq_true (show (ahd S (fun s => wth I wt (taN b N I R s)) s : Int) = a from h3)]; rfl)] at hsk
      unfold rkI
      rw [← hsk, if_pos (by omega)]
    · have p1 := pb o (by omega)
      have q1 := Nat.two_pow_pos o
      have q2 := Nat.two_pow_pos s
      have p2 := pb s (by omega)
      rw [b_shl1 (show o < 31 by omega), b_shl1 (show s < 31 by omega), Int.toNat_natCast, Int.toNat_natCast, wv o (by omega), wv s (by omega)]
      refine ⟨⟨by omega, by omega⟩, ⟨by omega, by omega⟩, fun x => x = (if wth I wt (taN b N I R s) < wth I wt (taN b N I R o) ∨ (wth I wt (taN b N I R o) = wth I wt (taN b N I R s) ∧ o < s) then 1 else 0), ?_, ?_⟩
      · rintro x rfl
        have e : ((cn (fun o => decide (wth I wt (taN b N I R s) < wth I wt (taN b N I R o) ∨ (wth I wt (taN b N I R o) = wth I wt (taN b N I R s) ∧ o < s))) o : Nat) : Int) + (if wth I wt (taN b N I R s) < wth I wt (taN b N I R o) ∨ (wth I wt (taN b N I R o) = wth I wt (taN b N I R s) ∧ o < s) then 1 else 0) = (cn (fun o => decide (wth I wt (taN b N I R s) < wth I wt (taN b N I R o) ∨ (wth I wt (taN b N I R o) = wth I wt (taN b N I R s) ∧ o < s))) (o + 1) : Nat) := by
          by_cases g : wth I wt (taN b N I R s) < wth I wt (taN b N I R o) ∨ (wth I wt (taN b N I R o) = wth I wt (taN b N I R s) ∧ o < s)
          · rw [if_pos g, cn_t (decide_eq_true g)]; omega
          · rw [if_neg g, cn_f (decide_eq_false g)]; omega
        rw [e]
        have hc2 := cn_le (fun o => decide (wth I wt (taN b N I R s) < wth I wt (taN b N I R o) ∨ (wth I wt (taN b N I R o) = wth I wt (taN b N I R s) ∧ o < s))) (o + 1)
        exact ⟨⟨by omega, by omega⟩, ⟨by omega, by omega⟩, ⟨o + 1, by omega, by omega, rfl⟩, by (try dsimp only); omega⟩
      · refine ⟨wth I wt (taN b N I R s) < wth I wt (taN b N I R o) ∨ (wth I wt (taN b N I R o) = wth I wt (taN b N I R s) ∧ o < s), fun g => (if_pos g).symm, fun g => .inl (by omega), fun g => ⟨⟨by omega, by omega⟩, ⟨by omega, by omega⟩, ¬ (wth I wt (taN b N I R s) < wth I wt (taN b N I R o) ∨ (wth I wt (taN b N I R o) = wth I wt (taN b N I R s) ∧ o < s)), fun g2 => (if_neg g2).symm, fun g2 => by omega, fun g2 => ⟨fun g3 => by omega, fun g3 => .inr ⟨by omega, by omega⟩⟩⟩⟩
