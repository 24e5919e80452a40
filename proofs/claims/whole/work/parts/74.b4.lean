/-! B4: facts of words; like words -/
theorem wd_e {b : Nat → Int} {N w : Nat} (h : w < Wn b N) : w < cn (wen b N) N ∧ w < cn (wst b N) N ∧ w < 100 := by
  have := wst_N b N
  unfold Wn at h
  omega
theorem wd_cn {b : Nat → Int} {N w : Nat} (h : w < Wn b N) : wBg b N w < N ∧ wst b N (wBg b N w) = true ∧ cn (wst b N) (wBg b N w) = w ∧ cn (wen b N) (wBg b N w) = w ∧ wEn b N w - 1 < N ∧ wen b N (wEn b N w - 1) = true ∧ cn (wen b N) (wEn b N w - 1) = w := by
  have h0 := wd_e h
  have h1 := nt_spec h0.2.1
  have h2 := nt_spec h0.1
  have h3 := wst_eq h1.2.1
  unfold wBg wEn
  rw [Nat.add_sub_cancel]
  exact ⟨h1.1, h1.2.1, h1.2.2, by rw [← h3]; exact h1.2.2, h2.1, h2.2.1, h2.2.2⟩
theorem wd_lt {b : Nat → Int} {N w : Nat} (h : w < Wn b N) : wBg b N w < wEn b N w ∧ wEn b N w ≤ N := by
  have h1 := wd_cn h
  have hE : wEn b N w - 1 + 1 = wEn b N w := by unfold wEn; omega
  refine ⟨?_, by omega⟩
  rcases Nat.lt_or_ge (wBg b N w) (wEn b N w) with e | e
  · exact e
  · exfalso
    have h2 := cn_mono (wst b N) e
    have h3 := wst_wen b N (wEn b N w)
    have h4 := cn_t h1.2.2.2.2.2.1
    rw [hE] at h4
    omega
theorem wd_ltr {b : Nat → Int} {N w : Nat} (h : w < Wn b N) : ∀ j, wBg b N w ≤ j → j < wEn b N w → ltr b N j = true := by
  have h1 := wd_cn h
  have h2 := wd_lt h
  intro j
  induction j with
  | zero =>
    intro hj _
    have e : wBg b N w = 0 := by omega
    have := h1.2.1
    rw [e] at this
    unfold wst at this
    exact (Bool.and_eq_true_iff.mp this).1
  | succ j ih =>
    intro hj hj2
    rcases Nat.eq_or_lt_of_le hj with e | e
    · have := h1.2.1
      rw [e] at this
      unfold wst at this
      exact (Bool.and_eq_true_iff.mp this).1
    · have g := ih (by omega) (by omega)
      cases hh : ltr b N (j + 1)
      · exfalso
        have g2 : wen b N j = true := by unfold wen; rw [g, hh]; rfl
        have g3 := cn_lt g2 (show j < wEn b N w - 1 by omega)
        have g4 := cn_mono (wen b N) (show wBg b N w ≤ j by omega)
        omega
      · rfl
theorem wd_end {b : Nat → Int} {N w : Nat} (h : w < Wn b N) : ltr b N (wEn b N w) = false := by
  have h1 := (wd_cn h).2.2.2.2.2.1
  unfold wen at h1
  have hE : wEn b N w - 1 + 1 = wEn b N w := by unfold wEn; omega
  rw [hE] at h1
  simpa using (Bool.and_eq_true_iff.mp h1).2
theorem wd_ahead {b : Nat → Int} {N w : Nat} (h : w < Wn b N) (h0 : 0 < wBg b N w) : ltr b N (wBg b N w - 1) = false := by
  have h1 := (wd_cn h).2.1
  unfold wst at h1
  have := (Bool.and_eq_true_iff.mp h1).2
  rw [decide_eq_true h0] at this
  simpa using this
theorem wd_next {b : Nat → Int} {N w v : Nat} (h : w < v) (hv : v < Wn b N) : wEn b N w < wBg b N v := by
  have h1 := wd_cn hv
  have h2 := wd_cn (show w < Wn b N by omega)
  have hE : wEn b N w - 1 + 1 = wEn b N w := by unfold wEn; omega
  rcases Nat.lt_or_ge (wEn b N w) (wBg b N v) with e | e
  · exact e
  · exfalso
    rcases Nat.eq_or_lt_of_le e with e2 | e2
    · have g1 := wd_end (show w < Wn b N by omega)
      have g2 := wd_ltr hv (wBg b N v) (Nat.le_refl _) (wd_lt hv).1
      rw [e2, g1] at g2
      cases g2
    · have g := cn_mono (wen b N) (show wBg b N v ≤ wEn b N w - 1 by omega)
      omega
theorem sec_ltr {b : Nat → Int} {N i : Nat} (h : sec b N i = true) : ltr b N i = true ∧ ltr b N (i - 1) = true := by
  have h1 := sec_ge h
  unfold ltr
  rw [show i - 1 + 1 = i by omega, h, decide_eq_true (show i < N by omega), decide_eq_true (show i - 1 < N by omega)]
  simp
theorem wBg_sec {b : Nat → Int} {N w : Nat} (h : w < Wn b N) : sec b N (wBg b N w) = false := by
  cases e : sec b N (wBg b N w)
  · rfl
  · have h1 := sec_ltr e
    have h2 := wd_ahead h (sec_ge e).2.2.1
    rw [h2] at h1
    cases h1.2
theorem wEn_sec {b : Nat → Int} {N w : Nat} (h : w < Wn b N) : sec b N (wEn b N w) = false := by
  cases e : sec b N (wEn b N w)
  · rfl
  · have h1 := sec_ltr e
    rw [wd_end h] at h1
    cases h1.1
theorem ltr_nb {b : Nat → Int} {N i : Nat} (h : ltr b N i = true) : blk (b i) = false := by
  unfold ltr at h
  have h := (Bool.and_eq_true_iff.mp h).2
  rcases Bool.or_eq_true_iff.mp h with h | h
  · rcases Bool.or_eq_true_iff.mp h with h | h
    · have h := of_decide_eq_true h
      refine decide_eq_false ?_
      unfold smv at h
      split at h <;> omega
    · have := sec_ge h
      exact decide_eq_false (by omega)
  · have := sec_ge h
    rw [Nat.add_sub_cancel] at this
    exact decide_eq_false (by omega)
/-- like words -/
def alk (b : Nat → Int) (N v w : Nat) : Bool := decide (wEn b N w - wBg b N w = wEn b N v - wBg b N v ∧ ∀ i, i < wEn b N v - wBg b N v → smv (b (wBg b N v + i)) = smv (b (wBg b N w + i)))
theorem alk_refl (b : Nat → Int) (N w : Nat) : alk b N w w = true := decide_eq_true ⟨rfl, fun _ _ => rfl⟩
def lkf (b : Nat → Int) (N w v : Nat) : Bool := !alk b N v w
def lko (b : Nat → Int) (N w : Nat) : Nat := sk (lkf b N w) w 0
theorem lko_le (b : Nat → Int) (N w : Nat) : lko b N w ≤ w := sk_le (Nat.zero_le _)
theorem lko_alk (b : Nat → Int) (N w : Nat) : alk b N (lko b N w) w = true := by
  rcases Nat.eq_or_lt_of_le (lko_le b N w) with e | e
  · rw [e]; exact alk_refl b N w
  · have h1 : (!alk b N (lko b N w) w) = false := sk_not (p := lkf b N w) e
    simpa using h1
theorem b_areAlike {b wb we : Nat → Int} {N v w : Nat} {Q : Int → Prop} (hB : Byt b N) (hW : WdA b N wb we) (hv : v < Wn b N) (hw : w < Wn b N) (hq : Q (bI (alk b N v w))) : wp_Page_areAlike b wb we N v w Q := by
  have hN := hB.1
  have v1 := wd_lt hv
  have w1 := wd_lt hw
  have v2 := hW v hv
  have w2 := hW w hw
  have v3 := wd_e hv
  have w3 := wd_e hw
  unfold wp_Page_areAlike
  rw [Int.toNat_natCast, Int.toNat_natCast, v2.1, v2.2, w2.1, w2.2]
  refine ⟨⟨by omega, by omega⟩, ⟨by omega, by omega⟩, ⟨by omega, by omega⟩, ⟨by omega, by omega⟩, ⟨by omega, by omega⟩, ⟨by omega, by omega⟩, fun h => ?_, fun h => qe hq ?_⟩
  · refine ⟨fun x => ∃ i : Nat, x = i ∧ ∀ j, j < i → smv (b (wBg b N v + j)) = smv (b (wBg b N w + j)), fun x => wEn b N v - wBg b N v - x.toNat, ⟨0, rfl, fun j hj => by omega⟩, ?_⟩
    rintro x ⟨i, rfl, hi⟩
    refine ⟨fun h2 => qe hq ?_, fun h2 => ⟨⟨by omega, by omega⟩, ⟨by omega, by omega⟩, b_at hN (b_small (hB.at _) ⟨⟨by omega, by omega⟩, ⟨by omega, by omega⟩, b_at hN (b_small (hB.at _) ?_)⟩)⟩⟩
    · unfold alk
      rw [decide_eq_true ⟨by omega, fun j hj => hi j (by omega)⟩]; rfl
    · rw [show ((wBg b N v : Nat) : Int) + (i : Int) = ((wBg b N v + i : Nat) : Int) by omega, show ((wBg b N w : Nat) : Int) + (i : Int) = ((wBg b N w + i : Nat) : Int) by omega, atv_n (by omega), atv_n (by omega)]
      refine ⟨fun h3 => ⟨⟨by omega, by omega⟩, ⟨i + 1, by omega, fun j hj => ?_⟩, by dsimp only; omega⟩, fun h3 => qe hq ?_⟩
      · by_cases e : j = i
        · rw [e]; exact h3
        · exact hi j (by omega)
      · unfold alk
        rw [decide_eq_false fun hh => h3 (hh.2 i (by omega))]; rfl
  · unfold alk
    rw [decide_eq_false fun hh => h (by omega)]; rfl
def AlA (b : Nat → Int) (N : Nat) (al : Nat → Int) : Prop := ∀ w, w < Wn b N → al w = lko b N w
theorem b_findAlike {b wb we al : Nat → Int} {N : Nat} {Q : (Nat → Int) → Prop} (hB : Byt b N) (hW : WdA b N wb we) (hq : ∀ al', AlA b N al' → Q al') : wp_Page_findAlike b wb we al N (Wn b N) Q := by
  have h100 : Wn b N ≤ 100 := by unfold Wn; omega
  unfold wp_Page_findAlike
  refine ⟨fun al x => ∃ w : Nat, x = w ∧ w ≤ Wn b N ∧ ∀ v, v < w → al v = lko b N v, fun _ x => Wn b N - x.toNat, ⟨0, rfl, Nat.zero_le _, fun v h => by omega⟩, ?_⟩
  rintro al x ⟨w, rfl, hw, ha⟩
  refine ⟨fun h => hq _ fun v hv => ha v (by omega), fun h => ⟨⟨by omega, by omega⟩, ?_⟩⟩
  refine ⟨fun x => ∃ v : Nat, x = v ∧ v ≤ w ∧ sk (lkf b N w) w v = lko b N w, fun x => w - x.toNat, ⟨0, rfl, Nat.zero_le _, rfl⟩, ?_⟩
  rintro x ⟨v, rfl, hv, e⟩
  refine ⟨fun al' => (∀ u, u < w → al' u = lko b N u) ∧ al' w = lko b N w, ?_, ⟨fun h2 => ?_, fun h2 => b_areAlike hB hW (by omega) (by omega) ⟨fun h3 => ?_, fun h3 => ?_⟩⟩⟩
  · rintro al' ⟨g1, g2⟩
    refine ⟨⟨by omega, by omega⟩, ⟨w + 1, by omega, by omega, fun u hu => ?_⟩, by dsimp only; omega⟩
    by_cases eu : u = w
    · rw [eu]; exact g2
    · exact g1 u (by omega)
  · refine ⟨fun u hu => ?_, ?_⟩
    · rw [uI_n (by omega) (by omega)]; exact ha u hu
    · rw [uI_e rfl, ← e, sk_end (by omega)]; omega
  · refine ⟨⟨by omega, by omega⟩, ⟨v + 1, by omega, by omega, ?_⟩, by dsimp only; omega⟩
    rw [← e, sk_step (i := v) (by omega)]
    unfold lkf; rw [bI_0 h3]; rfl
  · refine ⟨⟨by omega, by omega⟩, fun u hu => ?_, ?_⟩
    · rw [uI_n (by omega) (by omega), uI_n (by omega) (by omega)]; exact ha u hu
    · rw [uI_e rfl, ← e, sk_stop]
      unfold lkf; rw [bI_1 h3]; rfl
