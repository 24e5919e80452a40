/-! B3: sentences as the class finds them -/
def bkp (b : Nat → Int) (j : Nat) : Bool := blk (b j)
def clp (b : Nat → Int) (j : Nat) : Bool := clo (b j)
def tbp (b : Nat → Int) (j : Nat) : Bool := decide (b j = 9 ∨ b j = 32)
def fnb (b : Nat → Int) (N i : Nat) : Nat := sk (bkp b) N i
def skc (b : Nat → Int) (N i : Nat) : Nat := sk (clp b) N i
theorem b_fnb {b : Nat → Int} {N i : Nat} {Q : Int → Prop} (hN : N ≤ 600) (hi : i ≤ N) (hq : Q (fnb b N i)) : wp_Page_firstNotBlank b N i Q := by
  unfold wp_Page_firstNotBlank
  refine ⟨fun x => ∃ j : Nat, x = j ∧ j ≤ N ∧ fnb b N j = fnb b N i, fun x => N - x.toNat, ⟨i, rfl, hi, rfl⟩, ?_⟩
  rintro x ⟨j, rfl, hj, e⟩
  refine ⟨fun h => qe hq ?_, fun h => b_at hN (b_blk ?_)⟩
  · rw [← e]; unfold fnb; rw [sk_end (by omega)]; omega
  · rw [atv_n (by omega)]
    refine ⟨fun h2 => ⟨⟨by omega, by omega⟩, ⟨j + 1, by omega, by omega, ?_⟩, by dsimp only; omega⟩, fun h2 => qe hq ?_⟩
    · rw [← e]; unfold fnb; rw [sk_step (i := j) (by omega) (bI_1 h2)]
    · rw [← e]; unfold fnb; rw [sk_stop (bI_0 h2)]
/-- a letter that no letter stands ahead of; j its last byte -/
def lone (b : Nat → Int) (N : Nat) (j : Int) : Bool := ltz b N j && !ltz b N (if sec b N j.toNat then j - 2 else j - 1)
theorem SgA.at {b sa : Nat → Int} {N i : Nat} (h : SgA b N sa) (hi : i ≤ N) (hs : sec b N i = false) : sa i = sgn b N i := by
  rcases Nat.lt_or_ge i N with e | e
  · rw [h.1 i e]
    unfold sgn
    rw [cn_t (show nsc b N i = true by unfold nsc; rw [hs]; rfl)]
    omega
  · have : i = N := by omega
    subst this
    exact h.2
theorem SgA.secs {b sa : Nat → Int} {N i : Nat} (h : SgA b N sa) (h1 : 1 ≤ i) (hi : i < N) : sa (i - 1) = sa i ↔ sec b N i = true := by
  rw [h.1 i hi, h.1 (i - 1) (by omega), show i - 1 + 1 = i by omega]
  unfold sgn
  cases e : sec b N i
  · rw [cn_t (show nsc b N i = true by unfold nsc; rw [e]; rfl)]
    constructor
    · intro h; omega
    · intro h; cases h
  · rw [cn_f (show nsc b N i = false by unfold nsc; rw [e]; rfl)]
    exact ⟨fun _ => rfl, fun _ => rfl⟩
theorem b_lone {b la sa : Nat → Int} {N : Nat} {j : Int} {Q : Int → Prop} (hN : N ≤ 600) (hl : LtA b N la) (hs : SgA b N sa) (hj : -1 ≤ j) (hj2 : j < N) (hq : Q (bI (lone b N j))) : wp_Page_isLoneLetter la sa N j Q := by
  unfold wp_Page_isLoneLetter
  refine ⟨fun y => y = bI (decide (0 < j) && sec b N j.toNat), ?_, jn0_i ⟨fun h => ?_, fun h => ⟨⟨by omega, by omega⟩, ⟨by omega, by omega⟩, ⟨by omega, by omega⟩, fun h2 => ?_, fun h2 => ?_⟩⟩⟩
  · rintro y rfl
    refine b_isLetter hN hl ⟨fun h => qe hq ?_, fun h => ?_⟩
    · unfold lone; rw [bI_0 h]; rfl
    · have h0 : 0 ≤ j := by
        have := bI_1 h
        unfold ltz at this
        exact of_decide_eq_true (Bool.and_eq_true_iff.mp this).1
      have hsec : (decide (0 < j) && sec b N j.toNat) = sec b N j.toNat := by
        by_cases e : 0 < j
        · rw [decide_eq_true e]; rfl
        · have : j.toNat = 0 := by omega
          rw [this, sec_0, Bool.and_false]
      rw [hsec]
      refine ⟨fun y => y = if sec b N j.toNat then j - 2 else j - 1, ?_, ⟨fun h2 => ⟨⟨by omega, by omega⟩, ?_⟩, fun h2 => ⟨⟨by omega, by omega⟩, ?_⟩⟩⟩
      · rintro y rfl
        refine b_isLetter hN hl ⟨fun h3 => qe hq ?_, fun h3 => qe hq ?_⟩
        · unfold lone; rw [bI_1 h3]; simp [bI]
        · unfold lone; rw [bI_0 h3, bI_1 h]; rfl
      · rw [bI_0 h2]; rfl
      · rw [bI_1 h2]; rfl
  · show 0 = bI _
    rw [decide_eq_false (by omega)]; rfl
  · show 0 = bI _
    have h3 := hs.secs (i := j.toNat) (by omega) (by omega)
    rw [show (j - 1).toNat = j.toNat - 1 by omega] at h2
    cases e : sec b N j.toNat
    · rw [Bool.and_false]; rfl
    · exact absurd (h3.mpr e) h2
  · show 1 = bI _
    have h3 := hs.secs (i := j.toNat) (by omega) (by omega)
    rw [show (j - 1).toNat = j.toNat - 1 by omega] at h2
    rw [h3.mp h2, decide_eq_true (by omega)]; rfl
def ini (b : Nat → Int) (N i : Nat) : Bool := decide (skc b N (i + 1) = i + 1) && decide (b i = 46) && lone b N ((i : Int) - 1)
def cls (b : Nat → Int) (N i : Nat) : Bool := stp (b i) && (decide (N ≤ skc b N (i + 1)) || blk (b (skc b N (i + 1)))) && !ini b N i
def gap (b : Nat → Int) (N i : Nat) : Bool := decide (b i = 10) && decide (atv b N (sk (tbp b) N (i + 1)) = 10)
theorem b_behind {b la sa : Nat → Int} {N i : Nat} {Q : Int → Prop} (hN : N ≤ 600) (hl : LtA b N la) (hs : SgA b N sa) (hi : i < N) (hq : Q (if cls b N i then (skc b N (i + 1) : Int) else -1)) : wp_Page_behindClosing b la sa N i Q := by
  unfold wp_Page_behindClosing
  refine b_at hN (b_stp ?_)
  rw [atv_n hi]
  refine ⟨fun h1 => ⟨⟨by omega, by omega⟩, ?_⟩, fun h1 => qe hq ?_⟩
  · refine ⟨fun x => ∃ j : Nat, x = j ∧ i + 1 ≤ j ∧ j ≤ N ∧ skc b N j = skc b N (i + 1), fun x => N - x.toNat, ⟨i + 1, by omega, by omega, by omega, rfl⟩, ?_⟩
    rintro x ⟨j, rfl, hj1, hj, e⟩
    have key : j = skc b N (i + 1) → jn0 (fun (J3 : Prop) => ((N : Int) ≤ (j : Int) → J3) ∧ (¬ (N : Int) ≤ (j : Int) → wp_Page_at b N j (fun (r7 : Int) => wp_Picker_isBlank r7 (fun (r8 : Int) => (¬ r8 = 0 → J3) ∧ (r8 = 0 → Q (-1)))))) ((rng ((i : Int) + 1)) ∧ (jn1 (fun (J4 : Int → Prop) => (¬ (j : Int) = ((i : Int) + 1) → J4 0) ∧ ((j : Int) = ((i : Int) + 1) → J4 1)) (fun (y4 : Int) => (y4 = 0 → Q j) ∧ (¬ y4 = 0 → wp_Page_at b N i (fun (r5 : Int) => (¬ r5 = 46 → Q j) ∧ (r5 = 46 → (rng ((i : Int) - 1)) ∧ (wp_Page_isLoneLetter la sa N ((i : Int) - 1) (fun (r6 : Int) => (r6 = 0 → Q j) ∧ (¬ r6 = 0 → Q (-1)))))))))) := by
      intro ej
      refine ⟨N ≤ skc b N (i + 1) ∨ blk (b (skc b N (i + 1))) = true, fun hc => ⟨⟨by omega, by omega⟩, ?_⟩, ⟨fun h2 => .inl (by omega), fun h2 => b_at hN (b_blk ?_)⟩⟩
      · have hc2 : (decide (N ≤ skc b N (i + 1)) || blk (b (skc b N (i + 1)))) = true := by
          rcases hc with h | h
          · rw [decide_eq_true h]; rfl
          · rw [h, Bool.or_true]
        have hcls : cls b N i = !ini b N i := by unfold cls; rw [hc2, bI_1 h1]; rfl
        rw [hcls] at hq
        refine ⟨fun y => y = bI (decide (skc b N (i + 1) = i + 1)), ?_, ⟨fun h3 => ?_, fun h3 => ?_⟩⟩
        · rintro y rfl
          refine ⟨fun h4 => qe hq ?_, fun h4 => b_at hN ?_⟩
          · have : ini b N i = false := by unfold ini; rw [bI_0 h4]; rfl
            rw [this, ej]; rfl
          · rw [atv_n hi]
            refine ⟨fun h5 => qe hq ?_, fun h5 => ⟨⟨by omega, by omega⟩, b_lone hN hl hs (by omega) (by omega) ⟨fun h6 => qe hq ?_, fun h6 => qe hq ?_⟩⟩⟩
            · have : ini b N i = false := by unfold ini; rw [decide_eq_false h5, Bool.and_false]; rfl
              rw [this, ej]; rfl
            · have : ini b N i = false := by unfold ini; rw [bI_0 h6, Bool.and_false]
              rw [this, ej]; rfl
            · have : ini b N i = true := by unfold ini; rw [bI_1 h6, bI_1 h4, decide_eq_true h5]; rfl
              rw [this]; rfl
        · rw [decide_eq_false (by omega)]; rfl
        · rw [decide_eq_true (by omega)]; rfl
      · rw [atv_n (by omega), ej]
        refine ⟨fun h3 => .inr (bI_1 h3), fun h3 => qe hq ?_⟩
        have : cls b N i = false := by
          unfold cls
          rw [bI_0 h3, decide_eq_false (by omega)]; simp
        rw [this]; rfl
    refine jn0_i ⟨fun h2 => key ?_, fun h2 => b_at hN (b_clo ?_)⟩
    · rw [← e]; unfold skc; rw [sk_end (by omega)]
    · rw [atv_n (by omega)]
      refine ⟨fun h3 => key ?_, fun h3 => ⟨⟨by omega, by omega⟩, ⟨j + 1, by omega, by omega, by omega, ?_⟩, by dsimp only; omega⟩⟩
      · rw [← e]; unfold skc; rw [sk_stop (bI_0 h3)]
      · rw [← e]; unfold skc; rw [sk_step (i := j) (by omega) (bI_1 h3)]
  · have : cls b N i = false := by unfold cls; rw [bI_0 h1]; rfl
    rw [this]; rfl
theorem b_gap {b : Nat → Int} {N i : Nat} {Q : Int → Prop} (hN : N ≤ 600) (hi : i < N) (hq : Q (bI (gap b N i))) : wp_Page_isEmptyLineAhead b N i Q := by
  unfold wp_Page_isEmptyLineAhead
  refine b_at hN ?_
  rw [atv_n hi]
  refine ⟨fun h1 => ⟨⟨by omega, by omega⟩, ?_⟩, fun h1 => qe hq ?_⟩
  · refine ⟨fun x => ∃ j : Nat, x = j ∧ i + 1 ≤ j ∧ j ≤ N ∧ sk (tbp b) N j = sk (tbp b) N (i + 1), fun x => N - x.toNat, ⟨i + 1, by omega, by omega, by omega, rfl⟩, ?_⟩
    rintro x ⟨j, rfl, hj1, hj, e⟩
    refine ⟨j = sk (tbp b) N (i + 1), fun ej => ?_, ⟨fun h2 => ?_, fun h2 => b_at hN ?_⟩⟩
    · refine b_at hN ⟨fun h3 => qe hq ?_, fun h3 => qe hq ?_⟩
      · unfold gap; rw [← ej, decide_eq_false h3, Bool.and_false]; rfl
      · unfold gap; rw [← ej, decide_eq_true h3, decide_eq_true h1]; rfl
    · rw [← e, sk_end (by omega)]
    · rw [atv_n (by omega)]
      refine ⟨tbp b j = true, fun ht => ⟨⟨by omega, by omega⟩, ⟨j + 1, by omega, by omega, by omega, ?_⟩, by dsimp only; omega⟩, ⟨fun h3 => ?_, fun h3 => b_at hN ?_⟩⟩
      · rw [← e, sk_step (i := j) (by omega) ht]
      · exact decide_eq_true (by omega)
      · rw [atv_n (by omega)]
        refine ⟨fun h4 => ?_, fun h4 => decide_eq_true (by omega)⟩
        rw [← e, sk_stop]
        exact decide_eq_false (by omega)
  · unfold gap; rw [decide_eq_false h1]; rfl
/-- without blanks at the end -/
def trm (b : Nat → Int) (beg : Nat) : Nat → Nat
  | 0 => 0
  | e + 1 => if e + 1 ≤ beg then e + 1 else if blk (b e) then trm b beg e else e + 1
theorem trm_le (b : Nat → Int) (beg : Nat) : ∀ e, trm b beg e ≤ e
  | 0 => Nat.le_refl _
  | e + 1 => by
    have := trm_le b beg e
    unfold trm
    split
    · omega
    · split <;> omega
theorem trm_ge (b : Nat → Int) (beg : Nat) : ∀ e, beg ≤ e → beg ≤ trm b beg e
  | 0, h => by unfold trm; omega
  | e + 1, h => by
    unfold trm
    split
    · omega
    · have := trm_ge b beg e (by omega)
      split <;> omega
theorem trm_bk (b : Nat → Int) (beg : Nat) : ∀ e j, trm b beg e ≤ j → j < e → blk (b j) = true
  | 0, j, _, h => by omega
  | e + 1, j, h1, h2 => by
    unfold trm at h1
    split at h1
    · omega
    · split at h1
      · rename_i h3
        by_cases ej : j = e
        · rw [ej]; exact h3
        · exact trm_bk b beg e j h1 (by omega)
      · omega
theorem trm_nb (b : Nat → Int) (beg : Nat) : ∀ e, beg < trm b beg e → blk (b (trm b beg e - 1)) = false
  | 0, h => by unfold trm at h; omega
  | e + 1, h => by
    unfold trm at h ⊢
    split
    · rename_i h3; rw [if_pos h3] at h; omega
    · rename_i h3
      rw [if_neg h3] at h
      split
      · rename_i h4
        rw [if_pos h4] at h
        exact trm_nb b beg e h
      · rename_i h4
        simpa using h4
theorem trm_same {b : Nat → Int} {beg e : Nat} (h : beg < e) (hb : blk (b (e - 1)) = false) : trm b beg e = e := by
  obtain ⟨k, rfl⟩ : ∃ k, e = k + 1 := ⟨e - 1, by omega⟩
  unfold trm
  rw [if_neg (by omega)]
  rw [Nat.add_sub_cancel] at hb
  rw [hb]
  rfl
theorem b_trm {b : Nat → Int} {N i e : Nat} {Q : Int → Prop} (hN : N ≤ 600) (hi : i ≤ e) (he : e ≤ N) (hq : Q (trm b i e)) : wp_Page_withoutBlanks b N i e Q := by
  unfold wp_Page_withoutBlanks
  refine ⟨fun x => ∃ j : Nat, x = j ∧ i ≤ j ∧ j ≤ e ∧ trm b i j = trm b i e, fun x => x.toNat, ⟨e, rfl, hi, Nat.le_refl _, rfl⟩, ?_⟩
  rintro x ⟨j, rfl, hj1, hj, ee⟩
  refine ⟨fun h => qe hq ?_, fun h => ⟨⟨by omega, by omega⟩, b_at hN (b_blk ?_)⟩⟩
  · rw [← ee]
    have := trm_le b i j
    have := trm_ge b i j hj1
    omega
  · rw [show (j : Int) - 1 = ((j - 1 : Nat) : Int) by omega, atv_n (by omega)]
    refine ⟨fun h2 => qe hq ?_, fun h2 => ⟨⟨by omega, by omega⟩, ⟨j - 1, by omega, by omega, by omega, ?_⟩, by dsimp only; omega⟩⟩
    · rw [← ee, trm_same (by omega) (bI_0 h2)]
    · rw [← ee]
      obtain ⟨k, rfl⟩ : ∃ k, j = k + 1 := ⟨j - 1, by omega⟩
      rw [Nat.add_sub_cancel] at *
      have h3 := bI_1 h2
      show _ = (if k + 1 ≤ i then k + 1 else if blk (b k) then trm b i k else k + 1)
      rw [if_neg (by omega), if_pos h3]
/-- where a sentence ends, blanks and all -/
def evt (b : Nat → Int) (N j : Nat) : Bool := !(cls b N j || gap b N j)
def rawE (b : Nat → Int) (N i : Nat) : Nat := if sk (evt b N) N i < N ∧ cls b N (sk (evt b N) N i) = true then skc b N (sk (evt b N) N i + 1) else sk (evt b N) N i
theorem rawE_le {b : Nat → Int} {N i : Nat} (h : i ≤ N) : i ≤ rawE b N i ∧ rawE b N i ≤ N := by
  have h1 := sk_ge (evt b N) N i
  have h2 := sk_le (p := evt b N) h
  unfold rawE
  split
  · rename_i hc
    have := sk_ge (clp b) N (sk (evt b N) N i + 1)
    have := sk_le (p := clp b) (show sk (evt b N) N i + 1 ≤ N by omega)
    unfold skc
    omega
  · omega
/-- a sentence that a stop closes ends with no blank -/
theorem cls_nb {b : Nat → Int} {N j : Nat} (hj : j < N) (h : cls b N j = true) : j + 1 ≤ skc b N (j + 1) ∧ skc b N (j + 1) ≤ N ∧ clo (b (skc b N (j + 1) - 1)) = true := by
  have h1 := sk_ge (clp b) N (j + 1)
  have h2 := sk_le (p := clp b) (show j + 1 ≤ N by omega)
  refine ⟨h1, h2, ?_⟩
  rcases Nat.eq_or_lt_of_le h1 with e | e
  · unfold skc
    rw [← e, Nat.add_sub_cancel]
    unfold cls at h
    have h3 := of_decide_eq_true (Bool.and_eq_true_iff.mp (Bool.and_eq_true_iff.mp h).1).1
    exact decide_eq_true (by omega)
  · exact sk_all (p := clp b) (N := N) (i := j + 1) (j := skc b N (j + 1) - 1) (by unfold skc; omega) (by unfold skc; omega)
theorem clo_nb {c : Int} (h : clo c = true) : blk c = false := by
  have := of_decide_eq_true h
  exact decide_eq_false (by omega)
def sTr (b : Nat → Int) (N i : Nat) : Nat := trm b i (rawE b N i)
theorem b_eos {b la sa : Nat → Int} {N i : Nat} {Q : Int → Prop} (hN : N ≤ 600) (hl : LtA b N la) (hs : SgA b N sa) (hi : i < N) (hq : Q (sTr b N i)) : wp_Page_endOfSentence b la sa N i Q := by
  unfold wp_Page_endOfSentence
  refine ⟨fun x => ∃ j : Nat, x = j ∧ i ≤ j ∧ j ≤ N ∧ sk (evt b N) N j = sk (evt b N) N i, fun x => N - x.toNat, ⟨i, rfl, Nat.le_refl _, by omega, rfl⟩, ?_⟩
  rintro x ⟨j, rfl, hj1, hj, e⟩
  refine ⟨fun h => b_trm hN (by omega) (Nat.le_refl _) (qe hq ?_), fun h => b_behind hN hl hs (by omega) ?_⟩
  · rw [sk_end (show N ≤ j by omega)] at e
    unfold sTr rawE
    rw [← e, if_neg (by omega), show j = N by omega]
  · cases hc : cls b N j
    · refine ⟨fun _ => b_gap hN (by omega) ⟨fun h2 => ⟨⟨by omega, by omega⟩, ⟨j + 1, by omega, by omega, by omega, ?_⟩, by dsimp only; omega⟩, fun h2 => b_trm hN (by omega) (by omega) (qe hq ?_)⟩, fun h2 => absurd rfl h2⟩
      · rw [← e, sk_step (i := j) (by omega)]
        unfold evt; rw [hc, bI_0 h2]; rfl
      · rw [sk_stop (show evt b N j = false by unfold evt; rw [bI_1 h2, Bool.or_true]; rfl)] at e
        unfold sTr rawE
        rw [← e, if_neg (by rw [hc]; intro h; cases h.2)]
    · have h3 := cls_nb (by omega) hc
      refine ⟨fun h2 => ?_, fun _ => qe hq ?_⟩
      · have h2 : (skc b N (j + 1) : Int) = -1 := h2
        omega
      · rw [sk_stop (show evt b N j = false by unfold evt; rw [hc]; rfl)] at e
        unfold sTr rawE
        rw [← e, if_pos ⟨by omega, hc⟩, trm_same (by omega) (clo_nb h3.2.2)]
        rfl
/-- where the sentences begin -/
def sBg (b : Nat → Int) (N : Nat) : Nat → Nat
  | 0 => fnb b N 0
  | k + 1 => fnb b N (rawE b N (sBg b N k))
def sEn (b : Nat → Int) (N k : Nat) : Nat := sTr b N (sBg b N k)
def Sn (b : Nat → Int) (N : Nat) : Nat := cn (fun k => decide (sBg b N k < N)) 14
theorem sBg_le (b : Nat → Int) (N : Nat) : ∀ k, sBg b N k ≤ N
  | 0 => sk_le (Nat.zero_le _)
  | k + 1 => sk_le (rawE_le (b := b) (sBg_le b N k)).2
theorem rawE_gt {b : Nat → Int} {N i : Nat} (h : i < N) (hb : blk (b i) = false) : i < rawE b N i := by
  have h1 := sk_ge (evt b N) N i
  unfold rawE
  split
  · rename_i hc
    have := sk_ge (clp b) N (sk (evt b N) N i + 1)
    unfold skc
    omega
  · rename_i hc
    rcases Nat.eq_or_lt_of_le h1 with e | e
    · exfalso
      have h2 := sk_not (p := evt b N) (N := N) (i := i) (by omega)
      rw [← e] at h2 hc
      have hcl : cls b N i = false := by
        cases hh : cls b N i
        · rfl
        · exact absurd ⟨h, hh⟩ hc
      unfold evt at h2
      rw [hcl] at h2
      have h3 : gap b N i = true := by simpa using h2
      unfold gap at h3
      have h4 := of_decide_eq_true (Bool.and_eq_true_iff.mp h3).1
      have h5 := of_decide_eq_false hb
      omega
    · exact e
theorem sBg_nb {b : Nat → Int} {N k : Nat} (h : sBg b N k < N) : blk (b (sBg b N k)) = false := by
  cases k with
  | zero => exact sk_not (p := bkp b) h
  | succ k => exact sk_not (p := bkp b) h
theorem sEn_fnb (b : Nat → Int) (N k : Nat) : fnb b N (sEn b N k) = sBg b N (k + 1) := by
  have h1 := rawE_le (b := b) (sBg_le b N k)
  exact sk_eq (trm_le _ _ _) h1.2 (fun j h1 h2 => trm_bk b _ _ j h1 h2)
theorem sEn_b {b : Nat → Int} {N k : Nat} (h : sBg b N k < N) : sBg b N k < sEn b N k ∧ sEn b N k ≤ N ∧ sEn b N k ≤ rawE b N (sBg b N k) ∧ rawE b N (sBg b N k) ≤ sBg b N (k + 1) := by
  have h1 := rawE_le (b := b) (sBg_le b N k)
  have h2 := rawE_gt h (sBg_nb h)
  have h3 := trm_le b (sBg b N k) (rawE b N (sBg b N k))
  have h4 := trm_ge b (sBg b N k) (rawE b N (sBg b N k)) h1.1
  have h6 : rawE b N (sBg b N k) ≤ sBg b N (k + 1) := sk_ge _ _ _
  refine ⟨?_, by unfold sEn sTr; omega, by unfold sEn sTr; omega, h6⟩
  unfold sEn sTr
  rcases Nat.eq_or_lt_of_le h4 with e | e
  · have := trm_bk b (sBg b N k) (rawE b N (sBg b N k)) (sBg b N k) (by omega) h2
    rw [sBg_nb h] at this; cases this
  · exact e
theorem Sn_le (b : Nat → Int) (N : Nat) : Sn b N ≤ 14 := cn_le _ _
theorem sBg_mono {b : Nat → Int} {N k : Nat} (h : sBg b N k < N) : ∀ j, j ≤ k → sBg b N j < N := by
  induction k with
  | zero => intro j hj; rw [Nat.le_zero.mp hj]; exact h
  | succ k ih =>
    intro j hj
    rcases Nat.eq_or_lt_of_le hj with e | e
    · rw [e]; exact h
    · refine ih ?_ j (by omega)
      rcases Nat.lt_or_ge (sBg b N k) N with e | e
      · exact e
      · have h1 := (rawE_le (b := b) (sBg_le b N k)).1
        have h2 : rawE b N (sBg b N k) ≤ sBg b N (k + 1) := sk_ge _ _ _
        omega
theorem cn_all {p : Nat → Bool} : ∀ {n : Nat}, (∀ i, i < n → p i = true) → cn p n = n
  | 0, _ => rfl
  | n + 1, h => by rw [cn_t (h n (by omega)), cn_all (fun i hi => h i (by omega))]
theorem Sn_lt {b : Nat → Int} {N k : Nat} (hk : k < Sn b N) : sBg b N k < N := by
  rcases Nat.lt_or_ge (sBg b N k) N with e | e
  · exact e
  · exfalso
    have h0 := Sn_le b N
    have h1 : cn (fun k => decide (sBg b N k < N)) 14 = cn (fun k => decide (sBg b N k < N)) k := by
      refine cn_same (by omega) (fun j h1 h2 => decide_eq_false fun hj => ?_)
      have := sBg_mono hj k h1
      omega
    have h2 := cn_le (fun k => decide (sBg b N k < N)) k
    unfold Sn at hk
    omega
theorem Sn_ge {b : Nat → Int} {N k : Nat} (hk : k < 14) (h : sBg b N k < N) : k < Sn b N := by
  have h1 : cn (fun k => decide (sBg b N k < N)) (k + 1) = k + 1 := cn_all (fun i hi => decide_eq_true (sBg_mono h i (by omega)))
  have h2 := cn_mono (fun k => decide (sBg b N k < N)) (show k + 1 ≤ 14 by omega)
  unfold Sn
  omega
/-- no sentence begins or ends within a sign -/
theorem sec_ge {b : Nat → Int} {N i : Nat} (h : sec b N i = true) : 128 ≤ b i ∧ 192 ≤ b (i - 1) ∧ 1 ≤ i ∧ i < N := by
  have := of_decide_eq_true h
  omega
theorem sBg_sec (b : Nat → Int) (N k : Nat) : sec b N (sBg b N k) = false := by
  have hf : ∀ i, sec b N i = false → sec b N (fnb b N i) = false := by
    intro i hi
    cases e : sec b N (fnb b N i)
    · rfl
    · exfalso
      have h1 := sk_ge (bkp b) N i
      rcases Nat.eq_or_lt_of_le h1 with e1 | e1
      · unfold fnb at e; rw [← e1, hi] at e; cases e
      · have h2 := of_decide_eq_true (sk_all (p := bkp b) (N := N) (i := i) (j := fnb b N i - 1) (by unfold fnb; omega) (by unfold fnb; omega))
        have h3 := sec_ge e
        omega
  cases k with
  | zero => exact hf 0 (sec_0 b N)
  | succ k =>
    refine hf _ ?_
    have hle := sBg_le b N k
    cases e : sec b N (rawE b N (sBg b N k))
    · rfl
    · exfalso
      have h3 := sec_ge e
      have hr : rawE b N (sBg b N k) < N := h3.2.2.2
      by_cases hc : sk (evt b N) N (sBg b N k) < N ∧ cls b N (sk (evt b N) N (sBg b N k)) = true
      · have h4 := cls_nb hc.1 hc.2
        have h5 := of_decide_eq_true h4.2.2
        unfold rawE at h3
        rw [if_pos hc] at h3
        omega
      · unfold rawE at h3 hr
        rw [if_neg hc] at h3 hr
        have h2 := sk_not (p := evt b N) (N := N) (i := sBg b N k) hr
        have hcl : cls b N (sk (evt b N) N (sBg b N k)) = false := by
          cases hh : cls b N (sk (evt b N) N (sBg b N k))
          · rfl
          · exact absurd ⟨hr, hh⟩ hc
        unfold evt at h2
        rw [show sk (fun j => !(cls b N j || gap b N j)) N (sBg b N k) = sk (evt b N) N (sBg b N k) from rfl] at h2
        rw [hcl] at h2
        have h6 : gap b N (sk (evt b N) N (sBg b N k)) = true := by simpa using h2
        unfold gap at h6
        have h4 := of_decide_eq_true (Bool.and_eq_true_iff.mp h6).1
        omega
theorem sEn_sec {b : Nat → Int} {N k : Nat} (h : sBg b N k < N) : sec b N (sEn b N k) = false := by
  have h1 := sEn_b h
  cases e : sec b N (sEn b N k)
  · rfl
  · exfalso
    have h3 := sec_ge e
    rcases Nat.eq_or_lt_of_le (trm_le b (sBg b N k) (rawE b N (sBg b N k))) with e1 | e1
    · have h5 : sEn b N k = rawE b N (sBg b N k) := e1
      rw [h5] at h3
      by_cases hc : sk (evt b N) N (sBg b N k) < N ∧ cls b N (sk (evt b N) N (sBg b N k)) = true
      · have h4 := cls_nb hc.1 hc.2
        have h5 := of_decide_eq_true h4.2.2
        unfold rawE at h3
        rw [if_pos hc] at h3
        omega
      · unfold rawE at h3
        rw [if_neg hc] at h3
        have hr := h3.2.2.2
        have h2 := sk_not (p := evt b N) (N := N) (i := sBg b N k) hr
        have hcl : cls b N (sk (evt b N) N (sBg b N k)) = false := by
          cases hh : cls b N (sk (evt b N) N (sBg b N k))
          · rfl
          · exact absurd ⟨hr, hh⟩ hc
        unfold evt at h2
        rw [show sk (fun j => !(cls b N j || gap b N j)) N (sBg b N k) = sk (evt b N) N (sBg b N k) from rfl] at h2
        rw [hcl] at h2
        have h6 : gap b N (sk (evt b N) N (sBg b N k)) = true := by simpa using h2
        unfold gap at h6
        have h4 := of_decide_eq_true (Bool.and_eq_true_iff.mp h6).1
        omega
    · have h2 := of_decide_eq_true (trm_bk b (sBg b N k) (rawE b N (sBg b N k)) (sEn b N k) (Nat.le_refl _) e1)
      omega
def SnA (b : Nat → Int) (N : Nat) (sb se ss : Nat → Int) : Prop := ∀ k, k < Sn b N → sb k = sBg b N k ∧ se k = sEn b N k ∧ ss k = (sgn b N (sEn b N k) : Int) - sgn b N (sBg b N k)
theorem b_findSentences {b la sa sb se ss : Nat → Int} {N : Nat} {z : Int} {Q : (Nat → Int) → (Nat → Int) → (Nat → Int) → Int → Prop} (hN : N ≤ 600) (hl : LtA b N la) (hs : SgA b N sa) (hq : ∀ sb' se' ss', SnA b N sb' se' ss' → Q sb' se' ss' (Sn b N)) : wp_Page_findSentences b la sa sb se ss N z Q := by
  unfold wp_Page_findSentences
  refine ⟨fun sb se ss n x5 x6 => ∃ k i : Nat, x6 = k ∧ n = k ∧ x5 = i ∧ i ≤ N ∧ fnb b N i = sBg b N k ∧ k ≤ 14 ∧ (∀ j, j < k → sBg b N j < N) ∧ ∀ j, j < k → sb j = sBg b N j ∧ se j = sEn b N j ∧ ss j = (sgn b N (sEn b N j) : Int) - sgn b N (sBg b N j), fun _ _ _ _ _ x => 14 - x.toNat, ⟨0, 0, rfl, rfl, rfl, Nat.zero_le _, rfl, Nat.zero_le _, fun j h => by omega, fun j h => by omega⟩, ?_⟩
  rintro sb se ss n x5 x6 ⟨k, i, rfl, rfl, rfl, hi, hf, hk, hlt, ha⟩
  have hS : k ≤ Sn b N := by
    rcases Nat.eq_zero_or_pos k with e | e
    · omega
    · have := Sn_ge (b := b) (N := N) (k := k - 1) (by omega) (hlt _ (by omega))
      omega
  refine ⟨fun h => ?_, fun h => b_fnb hN hi ⟨fun h2 => ?_, fun h2 => ?_⟩⟩
  · have e : Sn b N = k := by have := Sn_le b N; omega
    have := hq sb se ss (by rw [SnA, e]; exact ha)
    rw [e] at this
    exact this
  · rw [hf] at h2 ⊢
    have hle := sBg_le b N k
    have hb : sBg b N k < N := by omega
    have h4 := sEn_b hb
    refine b_eos hN hl hs hb ?_
    have e1 := hs.at (i := sEn b N k) h4.2.1 (sEn_sec hb)
    have e2 := hs.at (i := sBg b N k) hle (sBg_sec b N k)
    have g1 := cn_le (nsc b N) (sEn b N k)
    have g2 := cn_le (nsc b N) (sBg b N k)
    have g1' : sgn b N (sEn b N k) ≤ sEn b N k := g1
    have g2' : sgn b N (sBg b N k) ≤ sBg b N k := g2
    rw [show sTr b N (sBg b N k) = sEn b N k from rfl]
    have t1 : Int.toNat ((sEn b N k : Nat) : Int) = sEn b N k := Int.toNat_natCast _
    have t2 : Int.toNat ((sBg b N k : Nat) : Int) = sBg b N k := Int.toNat_natCast _
    rw [t1, t2, e1, e2]
    refine ⟨⟨by omega, by omega⟩, ⟨by omega, by omega⟩, ⟨by omega, by omega⟩, ⟨by omega, by omega⟩, ⟨by omega, by omega⟩, ⟨by omega, by omega⟩, ⟨by omega, by omega⟩, ⟨by omega, by omega⟩, ⟨k + 1, sEn b N k, by omega, by omega, rfl, by omega, sEn_fnb b N k, by omega, ?_, ?_⟩, by dsimp only; omega⟩
    · intro j hj
      by_cases e : j = k
      · rw [e]; exact hb
      · exact hlt j (by omega)
    · intro j hj
      by_cases e : j = k
      · subst e
        rw [uI_e rfl, uI_e rfl, uI_e rfl]
        exact ⟨rfl, rfl, rfl⟩
      · rw [uI_n (by omega) (by omega), uI_n (by omega) (by omega), uI_n (by omega) (by omega)]
        exact ha j (by omega)
  · have e : Sn b N = k := by
      rcases Nat.lt_or_ge k (Sn b N) with e | e
      · have := Sn_lt e
        omega
      · omega
    have := hq sb se ss (by rw [SnA, e]; exact ha)
    rw [e] at this
    exact this
