/-! B2: words and sentences as the class finds them -/
def ltz (b : Nat → Int) (N : Nat) (i : Int) : Bool := decide (0 ≤ i) && ltr b N i.toNat
theorem ltz_n {b : Nat → Int} {N i : Nat} : ltz b N i = ltr b N i := by
  unfold ltz
  rw [decide_eq_true (by omega), Int.toNat_natCast]; rfl
theorem ltr_o {b : Nat → Int} {N i : Nat} (h : N ≤ i) : ltr b N i = false := by
  unfold ltr
  rw [decide_eq_false (by omega)]; rfl
theorem ltr_lt {b : Nat → Int} {N i : Nat} (h : ltr b N i = true) : i < N := by
  rcases Nat.lt_or_ge i N with e | e
  · exact e
  · rw [ltr_o e] at h; cases h
theorem b_isLetter {b la : Nat → Int} {N : Nat} {i : Int} {Q : Int → Prop} (hN : N ≤ 600) (hl : LtA b N la) (hq : Q (bI (ltz b N i))) : wp_Page_isLetter la N i Q := by
  unfold wp_Page_isLetter
  refine ⟨fun h => qe hq ?_, fun h => ⟨fun h2 => qe hq ?_, fun h2 => ⟨⟨by omega, by omega⟩, ?_⟩⟩⟩
  · unfold ltz; rw [decide_eq_false (by omega)]; rfl
  · unfold ltz; rw [ltr_o (by omega), Bool.and_false]; rfl
  · have e : bI (ltz b N i) = la i.toNat := by
      rw [hl i.toNat (by omega)]
      unfold ltz
      rw [decide_eq_true (by omega)]; rfl
    rw [← e]
    refine ⟨fun h3 => qe hq h3, fun h3 => qe hq ?_⟩
    rw [bI_1 h3]; rfl
def wst (b : Nat → Int) (N i : Nat) : Bool := ltr b N i && !(decide (0 < i) && ltr b N (i - 1))
def wen (b : Nat → Int) (N i : Nat) : Bool := ltr b N i && !ltr b N (i + 1)
theorem wst_wen (b : Nat → Int) (N : Nat) : ∀ i, cn (wst b N) i = cn (wen b N) i + (if decide (0 < i) && ltr b N (i - 1) && ltr b N i then 1 else 0)
  | 0 => rfl
  | i + 1 => by
    have ih := wst_wen b N i
    rw [cn_s, cn_s, ih]
    have e : decide (0 < i + 1) = true := decide_eq_true (by omega)
    rw [e, Nat.add_sub_cancel]
    unfold wst wen
    cases h1 : ltr b N i <;> cases h2 : ltr b N (i + 1) <;> cases h3 : (decide (0 < i) && ltr b N (i - 1)) <;> simp
theorem wst_eq {b : Nat → Int} {N i : Nat} (h : wst b N i = true) : cn (wst b N) i = cn (wen b N) i := by
  rw [wst_wen]
  unfold wst at h
  cases h3 : (decide (0 < i) && ltr b N (i - 1))
  · rfl
  · rw [h3] at h; simp at h
theorem wst_N (b : Nat → Int) (N : Nat) : cn (wst b N) N = cn (wen b N) N := by
  rw [wst_wen, ltr_o (Nat.le_refl N), Bool.and_false]; rfl
def Wn (b : Nat → Int) (N : Nat) : Nat := min 100 (cn (wen b N) N)
def wBg (b : Nat → Int) (N w : Nat) : Nat := nt (wst b N) N w
def wEn (b : Nat → Int) (N w : Nat) : Nat := nt (wen b N) N w + 1
def WdA (b : Nat → Int) (N : Nat) (wb we : Nat → Int) : Prop := ∀ w, w < Wn b N → wb w = wBg b N w ∧ we w = wEn b N w
theorem b_findWords {b la wb we : Nat → Int} {N : Nat} {z : Int} {Q : (Nat → Int) → (Nat → Int) → Int → Prop} (hN : N ≤ 600) (hl : LtA b N la) (hq : ∀ wb' we', WdA b N wb' we' → Q wb' we' (Wn b N)) : wp_Page_findWords la wb we N z Q := by
  unfold wp_Page_findWords
  refine ⟨fun wb we n x => ∃ i : Nat, x = i ∧ i ≤ N ∧ n = cn (wen b N) i ∧ cn (wen b N) i ≤ 100 ∧ (∀ j, j < i → wst b N j = true → wb (cn (wst b N) j) = j) ∧ (∀ j, j < i → wen b N j = true → we (cn (wen b N) j) = j + 1), fun _ _ _ x => N - x.toNat, ⟨0, rfl, by omega, rfl, Nat.zero_le _, fun j h => by omega, fun j h => by omega⟩, ?_⟩
  rintro wb we n x ⟨i, rfl, hi, rfl, hc, hb, he⟩
  have fin : Wn b N = cn (wen b N) i → Q wb we (cn (wen b N) i : Nat) := by
    intro e
    rw [← e]
    refine hq _ _ fun w hw => ?_
    have hw2 : w < cn (wen b N) i := by omega
    have hs : cn (wen b N) i ≤ cn (wst b N) i := by rw [wst_wen]; omega
    have h1 := nt_spec hw2
    have h2 := nt_spec (show w < cn (wst b N) i by omega)
    have g1 := hb _ h2.1 h2.2.1
    have g2 := he _ h1.1 h1.2.1
    rw [h2.2.2] at g1
    rw [h1.2.2] at g2
    refine ⟨?_, ?_⟩
    · have e3 : nt (wst b N) N w = nt (wst b N) i w := nt_eq h2.2.1 (by omega) h2.2.2
      rw [g1]; unfold wBg; rw [e3]
    · have e3 : nt (wen b N) N w = nt (wen b N) i w := nt_eq h1.2.1 (by omega) h1.2.2
      rw [g2]; unfold wEn; rw [e3]; omega
  refine ⟨fun h => fin ?_, fun h => ⟨fun h2 => fin ?_, fun h2 => ?_⟩⟩
  · have e : i = N := by omega
    subst e
    unfold Wn; omega
  · have := cn_mono (wen b N) hi
    unfold Wn; omega
  · refine b_isLetter hN hl ⟨fun wb' => ∀ j, j < i + 1 → wst b N j = true → wb' (cn (wst b N) j) = j, ?_, ?_⟩
    · intro wb' hb'
      refine b_isLetter hN hl ⟨fun we' n' => n' = cn (wen b N) (i + 1) ∧ (∀ j, j < i + 1 → wen b N j = true → we' (cn (wen b N) j) = j + 1), ?_, ?_⟩
      · rintro we' n' ⟨rfl, he'⟩
        refine ⟨⟨by omega, by omega⟩, ⟨i + 1, by omega, by omega, rfl, ?_, hb', he'⟩, by dsimp only; omega⟩
        have := cn_lip (wen b N) (show i ≤ i + 1 by omega)
        omega
      · have stay : wen b N i = false → ((cn (wen b N) i : Nat) : Int) = (cn (wen b N) (i + 1) : Nat) ∧ ∀ j, j < i + 1 → wen b N j = true → we (cn (wen b N) j) = j + 1 := by
          intro h3
          refine ⟨by rw [cn_f h3], fun j hj hj2 => ?_⟩
          by_cases e : j = i
          · rw [e, h3] at hj2; cases hj2
          · exact he j (by omega) hj2
        rw [ltz_n]
        refine ⟨fun h3 => stay ?_, fun h3 => ⟨⟨by omega, by omega⟩, b_isLetter hN hl ⟨fun h4 => stay ?_, fun h4 => ⟨⟨by omega, by omega⟩, ⟨by omega, by omega⟩, ⟨by omega, by omega⟩, ?_⟩⟩⟩⟩
        · unfold wen; rw [bI_0 h3]; rfl
        · rw [show (i : Int) + 1 = ((i + 1 : Nat) : Int) by omega, ltz_n] at h4
          unfold wen; rw [bI_1 h4]; simp
        · rw [show (i : Int) + 1 = ((i + 1 : Nat) : Int) by omega, ltz_n] at h4
          have h5 : wen b N i = true := by unfold wen; rw [bI_1 h3, bI_0 h4]; rfl
          refine ⟨by rw [cn_t h5]; omega, fun j hj hj2 => ?_⟩
          by_cases e : j = i
          · rw [e, uI_e rfl]
          · have := cn_lt hj2 (show j < i by omega)
            rw [uI_n (by omega) (by omega)]
            exact he j (by omega) hj2
    · have stay : wst b N i = false → ∀ j, j < i + 1 → wst b N j = true → wb (cn (wst b N) j) = j := by
        intro h3 j hj hj2
        by_cases e : j = i
        · rw [e, h3] at hj2; cases hj2
        · exact hb j (by omega) hj2
      rw [ltz_n]
      refine ⟨fun h3 => stay ?_, fun h3 => ⟨⟨by omega, by omega⟩, b_isLetter hN hl ⟨fun h4 => stay ?_, fun h4 => ⟨⟨by omega, by omega⟩, ?_⟩⟩⟩⟩
      · unfold wst; rw [bI_0 h3]; rfl
      · have h4 := bI_1 h4
        unfold ltz at h4
        have h5 : 1 ≤ i := by
          have := (Bool.and_eq_true_iff.mp h4).1
          have := of_decide_eq_true this
          omega
        rw [show ((i : Int) - 1).toNat = i - 1 by omega] at h4
        unfold wst; rw [(Bool.and_eq_true_iff.mp h4).2, decide_eq_true (by omega)]; simp
      · have h5 : wst b N i = true := by
          unfold wst
          rw [bI_1 h3]
          have h4 := bI_0 h4
          unfold ltz at h4
          rw [show ((i : Int) - 1).toNat = i - 1 by omega] at h4
          by_cases e : 0 < i
          · rw [decide_eq_true (show 0 ≤ (i : Int) - 1 by omega)] at h4
            rw [show ltr b N (i - 1) = false from h4]; simp
          · rw [decide_eq_false e]; rfl
        intro j hj hj2
        have h6 := wst_eq h5
        by_cases e : j = i
        · rw [e, uI_e (by omega)]
        · have := cn_lt hj2 (show j < i by omega)
          rw [uI_n (by omega) (by omega)]
          exact hb j (by omega) hj2
