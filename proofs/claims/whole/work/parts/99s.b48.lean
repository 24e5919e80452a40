/-! B48: sets of bits over the matches; word -/
def ogf (c : Nat → Bool) (v : Nat → Nat) : Nat → Nat
  | 0 => 0
  | m + 1 => ogf c v m ||| (if c m then 2 ^ v m else 0)
theorem ogf_lt {c : Nat → Bool} {v : Nat → Nat} {n : Nat} : ∀ m, (∀ j, j < m → c j = true → v j < n) → ogf c v m < 2 ^ n
  | 0, _ => Nat.two_pow_pos n
  | m + 1, h => by
    have h1 := ogf_lt m (fun j hj => h j (by omega))
    show _ ||| _ < _
    refine Nat.or_lt_two_pow h1 ?_
    split
    · next e => exact Nat.pow_lt_pow_right (by omega) (h m (by omega) e)
    · exact Nat.two_pow_pos n
theorem ogf_bit {c : Nat → Bool} {v : Nat → Nat} {i : Nat} : ∀ m, ((ogf c v m).testBit i = true ↔ ∃ j, j < m ∧ c j = true ∧ v j = i)
  | 0 => by
    show (0 : Nat).testBit i = true ↔ _
    rw [Nat.zero_testBit]
    exact ⟨fun h => (by cases h), fun ⟨j, hj, _⟩ => by omega⟩
  | m + 1 => by
    show (ogf c v m ||| (if c m then 2 ^ v m else 0)).testBit i = true ↔ _
    rw [Nat.testBit_or, Bool.or_eq_true, ogf_bit m]
    constructor
    · rintro (⟨j, hj, h⟩ | h)
      · exact ⟨j, by omega, h⟩
      · split at h
        · next e =>
          rw [Nat.testBit_two_pow] at h
          exact ⟨m, by omega, e, of_decide_eq_true h⟩
        · rw [Nat.zero_testBit] at h; cases h
    · rintro ⟨j, hj, h1, h2⟩
      by_cases e : j = m
      · subst e
        right
        rw [if_pos h1, Nat.testBit_two_pow]
        exact decide_eq_true h2
      · exact .inl ⟨j, by omega, h1, h2⟩
theorem ogf_bs {c : Nat → Bool} {v : Nat → Nat} {p : Nat → Bool} {n m : Nat} (h : ∀ j, j < m → c j = true → v j < n) (hp : ∀ i, i < n → ((∃ j, j < m ∧ c j = true ∧ v j = i) ↔ p i = true)) : ogf c v m = bs p n := by
  refine bs_ext (ogf_lt m h) fun i hi => ?_
  have := (ogf_bit (c := c) (v := v) (i := i) m).trans (hp i hi)
  cases e1 : (ogf c v m).testBit i <;> cases e2 : p i <;> rw [e1, e2] at this
  · exact absurd (this.mpr rfl) (by decide)
  · exact absurd (this.mp rfl) (by decide)
theorem b_MitemsWith {W I w : Nat} {tc : Nat → Nat} {R : Nat → Nat → Bool} {mi mf ml im mt : Nat → Int} {Q : Int → Prop} (hW : W ≤ 100) (hT : TcA W I tc R mt) (hM : MmA W I tc R mi mf ml im) (hq : Q (bs (fun k => tcR tc R k w) I : Nat)) : wp_M_itemsWith mi mf ml (M0 W I R) w Q := by
  have hI := hT.1
  have hM0 := M0_le W I R
  have hlt : ∀ m, m ≤ M0 W I R → ∀ j, j < m → (decide (mFi W I R j ≤ w ∧ w ≤ mFi W I R j + tc (mIt W I R j) - 1)) = true → mIt W I R j < I := fun m hm j hj _ => (m_in (by omega)).1
  have hog : ogf (fun j => decide (mFi W I R j ≤ w ∧ w ≤ mFi W I R j + tc (mIt W I R j) - 1)) (mIt W I R) (M0 W I R) = bs (fun k => tcR tc R k w) I := by
    refine ogf_bs (hlt _ (Nat.le_refl _)) fun k hk => ?_
    have ht := (hT.2.1 k hk).2
    unfold tcR
    rw [ex_iff]
    constructor
    · rintro ⟨j, hj, h1, h2⟩
      have h1 := of_decide_eq_true h1
      have g := m_in hj
      rw [h2] at g h1
      exact ⟨mFi W I R j, by omega, by rw [g.2.2, decide_eq_true (by omega)]; rfl⟩
    · rintro ⟨u, hu, h1⟩
      rw [Bool.and_eq_true, decide_eq_true_iff] at h1
      have := hT.2.2 k u hk h1.1
      obtain ⟨j, j1, j2, j3⟩ := m_ex hk hI (show u < W by omega) h1.1
      exact ⟨j, j1, decide_eq_true (by rw [j2, j3]; omega), j2⟩
  unfold wp_M_itemsWith
  refine ⟨fun x1 x2 => ∃ m : Nat, x2 = m ∧ m ≤ M0 W I R ∧ x1 = (ogf (fun j => decide (mFi W I R j ≤ w ∧ w ≤ mFi W I R j + tc (mIt W I R j) - 1)) (mIt W I R) m : Nat), fun _ x2 => M0 W I R - x2.toNat, ⟨0, rfl, by omega, rfl⟩, ?_⟩
  rintro _ _ ⟨m, rfl, hm, rfl⟩
  refine ⟨fun h => ?_, fun h => ?_⟩
  · have em : m = M0 W I R := by omega
    rw [em, hog]; exact hq
  · have hm2 : m < M0 W I R := by omega
    have g1 := hM.it hm2
    have g2 := m_in hm2
    have ol : ogf (fun j => decide (mFi W I R j ≤ w ∧ w ≤ mFi W I R j + tc (mIt W I R j) - 1)) (mIt W I R) m < 2 ^ 31 := Nat.lt_of_lt_of_le (ogf_lt m (hlt m hm)) (Nat.pow_le_pow_right (by omega) (by omega))
    have ht := (hT.2.1 _ g2.1).2
    rw [Int.toNat_natCast, g1.1, g1.2.1, g1.2.2]
    have go : ∀ z : Int, z = (ogf (fun j => decide (mFi W I R j ≤ w ∧ w ≤ mFi W I R j + tc (mIt W I R j) - 1)) (mIt W I R) (m + 1) : Nat) → rng ((m : Int) + 1) ∧ (∃ m' : Nat, (m : Int) + 1 = m' ∧ m' ≤ M0 W I R ∧ z = (ogf (fun j => decide (mFi W I R j ≤ w ∧ w ≤ mFi W I R j + tc (mIt W I R j) - 1)) (mIt W I R) m' : Nat)) ∧ M0 W I R - ((m : Int) + 1).toNat < M0 W I R - (m : Int).toNat := fun z hz => ⟨⟨by omega, by omega⟩, ⟨m + 1, by omega, by omega, hz⟩, by omega⟩
    refine ⟨⟨by omega, by omega⟩, ⟨by omega, by omega⟩, b_Min (jn1_i ⟨fun k => go _ ?_, fun k => ⟨⟨by omega, by omega⟩, go _ ?_⟩⟩)⟩
    · have k := of_decide_eq_false (bI_0 k)
      rw [b_or0 ol]
      show _ = ((ogf _ _ m ||| (if decide _ = true then _ else 0) : Nat) : Int)
      rw [if_neg (by rw [decide_eq_true_iff]; omega), Nat.or_zero]
    · have k := of_decide_eq_true (bI_1 k)
      rw [b_orb ol (by omega)]
      show _ = ((ogf _ _ m ||| (if decide _ = true then _ else 0) : Nat) : Int)
      rw [if_pos (by rw [decide_eq_true_iff]; omega)]
def wvl (b : Nat → Int) (N I : Nat) (tc : Nat → Nat) (R : Nat → Nat → Bool) (a : Int) (w : Nat) : Int := if a = 0 then (wBg b N w : Int) else if a = 1 then (wEn b N w : Int) - wBg b N w else if a = 2 then (TN b N w : Int) - FN b N w else if a = 3 then so b N w else if a = 4 then (bs (fun k => tcR tc R k w) I : Nat) else lko b N w
theorem b_word {b sa wb we ws al to bg en : Nat → Int} {tl : Nat → Int64} {N I : Nat} {tc : Nat → Nat} {R : Nat → Nat → Bool} {a1 a2 : Int} {Q : Int → Prop} {E : Nat → Prop} (hN : N ≤ 600) (hSg : SgA b N sa) (hW : WdA b N wb we) (hws : ∀ w, w < Wn b N → ws w = so b N w) (hA : AlA b N al) (hM : ∀ v, v < Wn b N → to v = bs (fun k => tcR tc R k v) I)
    (h1 : ∀ w : Nat, a1 = w → w < Wn b N → 0 ≤ a2 ∧ a2 ≤ 5 → Q (wvl b N I tc R a2 w)) (h2 : 0 ≤ a1 ∧ a1 < (Wn b N : Int) → ¬ (0 ≤ a2 ∧ a2 ≤ 5) → E 2) (h3 : ¬ (0 ≤ a1 ∧ a1 < (Wn b N : Int)) → E 1) : wp_Picker_word sa wb we ws al to (Wn b N) a1 a2 Q E := by
  have hF := FTo_N (b := b) hN
  have h100 := hF.1
  unfold wp_Picker_word
  refine rq_idx (fun g1 => rq_what (fun g2 => ?_) (fun g2 => h2 g1 g2)) h3
  obtain ⟨w, rfl⟩ : ∃ w : Nat, a1 = w := ⟨a1.toNat, by omega⟩
  have hw : w < Wn b N := by omega
  have hq := h1 w rfl hw g2
  have hwd := wd_lt hw
  unfold wvl at hq
  rw [Int.toNat_natCast]
  refine ⟨fun k => ?_, fun k => ?_⟩
  · rw [if_pos k, ← (hW w hw).1] at hq; exact ⟨⟨by omega, by omega⟩, hq⟩
  rw [if_neg k] at hq
  refine ⟨fun k => ?_, fun k => ?_⟩
  · rw [if_pos k, ← (hW w hw).1, ← (hW w hw).2] at hq
    exact ⟨⟨by omega, by omega⟩, ⟨by omega, by omega⟩, ⟨by rw [(hW w hw).1, (hW w hw).2]; omega, by rw [(hW w hw).1, (hW w hw).2]; omega⟩, hq⟩
  rw [if_neg k] at hq
  refine ⟨fun k => ?_, fun k => ?_⟩
  · rw [if_pos k] at hq; exact b_wl hF (WlA_N hN hSg hW) hw hw hq
  rw [if_neg k] at hq
  refine ⟨fun k => ?_, fun k => ?_⟩
  · rw [if_pos k, ← hws w hw] at hq; exact ⟨⟨by omega, by omega⟩, hq⟩
  rw [if_neg k] at hq
  refine ⟨fun k => ?_, fun k => ?_⟩
  · rw [if_pos k, ← hM w hw] at hq; exact ⟨⟨by omega, by omega⟩, hq⟩
  · rw [if_neg k, ← hA w hw] at hq; exact ⟨⟨by omega, by omega⟩, hq⟩
theorem b_Mword {b sa wf wt9 so0 lk mi mf ml im mt : Nat → Int} {N I : Nat} {tc : Nat → Nat} {R : Nat → Nat → Bool} {thr a1 a2 : Int} {Q : Int → Int → Prop} (hN : N ≤ 600) (hm : MsA b N sa) (hW : MwA b N wf wt9) (hS : ∀ w, w < Wn b N → so0 w = so b N w) (hA : AlA b N lk) (hT : TcA (Wn b N) I tc R mt) (hM : MmA (Wn b N) I tc R mi mf ml im)
    (h1 : ∀ w : Nat, a1 = w → w < Wn b N → 0 ≤ a2 ∧ a2 ≤ 5 → Q (wvl b N I tc R a2 w) 0) (h2 : 0 ≤ a1 ∧ a1 < (Wn b N : Int) → ¬ (0 ≤ a2 ∧ a2 ≤ 5) → Q 0 2) (h3 : ¬ (0 ≤ a1 ∧ a1 < (Wn b N : Int)) → Q 0 1) : wp_M_word sa wf wt9 so0 lk mi mf ml thr (Wn b N) (M0 (Wn b N) I R) a1 a2 Q := by
  have hF := FTo_N (b := b) hN
  have h100 := hF.1
  unfold wp_M_word
  refine ⟨⟨by omega, by omega⟩, m_no (fun g1 => ⟨fun k => absurd rfl k, fun _ => m_no (fun g2 => ⟨fun _ => ?_, fun k => absurd rfl k⟩) (fun g2 => ⟨fun k => absurd k (by decide), fun _ => h2 (by omega) g2⟩)⟩) (fun g1 => ⟨fun _ => h3 (by omega), fun k => absurd k (by decide)⟩)⟩
  obtain ⟨w, rfl⟩ : ∃ w : Nat, a1 = w := ⟨a1.toNat, by omega⟩
  have hw : w < Wn b N := by omega
  have hq := h1 w rfl hw g2
  have e1 : wf w = (FN b N w : Nat) := (hW w hw).1
  have e2 : wt9 w = (TN b N w : Nat) := (hW w hw).2
  have hsN := sgn_le b N N
  have hft := (FN_m (b := b) (N := N) (Nat.le_refl w) hw).2.2
  have tn : TN b N w ≤ sgn b N N := sgn_mono (wd_lt hw).2
  have pf := ps_F hw
  have hwd := wd_lt hw
  rw [Int.toNat_natCast, e1, e2, Int.toNat_natCast, Int.toNat_natCast, hm (FN b N w) (by omega), hm (TN b N w) tn, pf.1, pf.2]
  unfold wvl at hq
  refine ⟨fun k => ?_, fun k => ?_⟩
  · rw [if_pos k] at hq; exact ⟨⟨by omega, by omega⟩, ⟨by omega, by omega⟩, hq⟩
  rw [if_neg k] at hq
  refine ⟨fun k => ?_, fun k => ?_⟩
  · rw [if_pos k] at hq
    exact ⟨⟨by omega, by omega⟩, ⟨by omega, by omega⟩, ⟨by omega, by omega⟩, ⟨by omega, by omega⟩, ⟨by omega, by omega⟩, hq⟩
  rw [if_neg k] at hq
  refine ⟨fun k => ?_, fun k => ?_⟩
  · rw [if_pos k] at hq; exact ⟨⟨by omega, by omega⟩, ⟨by omega, by omega⟩, ⟨by omega, by omega⟩, hq⟩
  rw [if_neg k] at hq
  refine ⟨fun k => ?_, fun k => ?_⟩
  · rw [if_pos k, ← hS w hw] at hq; exact ⟨⟨by omega, by omega⟩, hq⟩
  rw [if_neg k] at hq
  refine ⟨fun k => ?_, fun k => ?_⟩
  · rw [if_pos k] at hq; exact b_MitemsWith h100 hT hM hq
  · rw [if_neg k, ← hA w hw] at hq; exact ⟨⟨by omega, by omega⟩, hq⟩
