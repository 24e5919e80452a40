/-! B17: the reference's steps and greedy set; the best set -/
theorem b_MSteps {b : Nat → Int} {N I : Nat} {wt tc : Nat → Nat} {R : Nat → Nat → Bool} {so0 lk fr to hwa mw mi mf ml im wo ln9 ins tk sp : Nat → Int} {al ak z : Int} {li mo bu : Nat} {Q : Int → (Nat → Int) → (Nat → Int) → (Nat → Int) → (Nat → Int) → (Nat → Int) → Int → Int → Int → Prop} (hB : MBs b N I wt tc R so0 lk fr to hwa mw mi mf ml im) (hal : al = 0 ∨ (al = 1 ∧ StA (Sn b N) I wt (taN b N I R) (leN b N) wo ln9)) (hak : ak = 0 ∨ (ak = 1 ∧ TkA (Sn b N) (tkl b N li) tk)) (hmo : mo ≤ 6)
    (hq : ∀ wo' ln' ins' tk' sp', StA (Sn b N) I wt (taN b N I R) (leN b N) wo' ln' → TkA (Sn b N) (tkl b N li) tk' → (∀ k, k < gK (nX (Sn b N) I wt (leN b N) (taN b N I R) (tkl b N li) mo bu) → sp' k = oI (nX (Sn b N) I wt (leN b N) (taN b N I R) (tkl b N li) mo bu (gst (nX (Sn b N) I wt (leN b N) (taN b N I R) (tkl b N li) mo bu) k))) → Q (gst (nX (Sn b N) I wt (leN b N) (taN b N I R) (tkl b N li) mo bu) (gK (nX (Sn b N) I wt (leN b N) (taN b N I R) (tkl b N li) mo bu)) : Nat) wo' ln' ins' tk' sp' 1 1 (gK (nX (Sn b N) I wt (leN b N) (taN b N I R) (tkl b N li) mo bu) : Nat)) : wp_M_laysSteps so0 lk fr to hwa mw mi mf wo ln9 ins tk sp (Wn b N) (Sn b N) I (M0 (Wn b N) I R) al ak bu mo li z Q := by
  have h14 := Sn_le b N
  have hP := p14 h14
  unfold wp_M_laysSteps
  refine b_MLike hB hal hak fun wo' ln' ins' tk' hst htk => ?_
  have hq := fun sp' h => hq wo' ln' ins' tk' sp' hst htk h
  have hnone := gK_none (S := Sn b N) (I := I) (wt := wt) (le := leN b N) (ta := taN b N I R) (tk := tkl b N li) (mo := mo) (bu := bu) h14 hmo
  have hn0 : ∀ (x : Nat) (P : Int → Prop), x < 2 ^ Sn b N → P (oI (nX (Sn b N) I wt (leN b N) (taN b N I R) (tkl b N li) mo bu x)) → wp_M_nextStep fr to wo' ln' tk' (Sn b N) bu mo x P := fun x P hx hp => b_MnextStep hB.2.1 hB.1 hst htk hx hp
  have hlt := fun k => gst_lt (S := Sn b N) (I := I) (wt := wt) (le := leN b N) (ta := taN b N I R) (tk := tkl b N li) (mo := mo) (bu := bu) k
  have hsp9 : ∀ x p, nX (Sn b N) I wt (leN b N) (taN b N I R) (tkl b N li) mo bu x = some p → p < Sn b N := fun x p h => (nxs_sp h).1
  generalize nX (Sn b N) I wt (leN b N) (taN b N I R) (tkl b N li) mo bu = nx at *
  have hK6 := gK_le nx
  refine hn0 0 _ (Nat.two_pow_pos _) ?_
  refine ⟨fun sp c x10 x11 => ∃ k : Nat, c = k ∧ k ≤ gK nx ∧ x10 = (gst nx k : Nat) ∧ x11 = oI (nx (gst nx k)) ∧ sk (gsk nx) 6 k = gK nx ∧ ∀ j, j < k → sp j = oI (nx (gst nx j)), fun _ c _ _ => 7 - c.toNat, ⟨0, rfl, Nat.zero_le _, rfl, rfl, rfl, fun j h => by omega⟩, ?_⟩
  rintro sp c x10 x11 ⟨k, rfl, hk, rfl, rfl, hsk, hsp⟩
  have hlk := hlt k
  refine ⟨fun h => ?_, fun h => ?_⟩
  · cases hn : nx (gst nx k) with
    | none =>
      have ek : gK nx = k := by rw [← hsk]; exact sk_stop (show gsk nx k = false by unfold gsk; rw [hn]; rfl)
      have := hq sp (by rw [ek]; exact hsp)
      rw [ek] at this
      exact this
    | some p =>
      rw [hn] at h
      have h : (p : Int) = -1 := h
      omega
  · cases hn : nx (gst nx k) with
    | none => rw [hn] at h; exact absurd rfl h
    | some p =>
      have hp := hsp9 _ _ hn
      have hne : k ≠ gK nx := fun e => by rw [e, hnone] at hn; cases hn
      rw [show oI (some p) = (p : Int) from rfl, b_orb (by omega) (by omega)]
      refine ⟨⟨by omega, by omega⟩, ⟨by omega, by omega⟩, hn0 _ _ (by rw [← gst_n hn]; exact hlt (k + 1)) ⟨⟨k + 1, by omega, by omega, by rw [gst_n hn], by rw [gst_n hn], ?_, fun j hj => ?_⟩, by (try dsimp only); omega⟩⟩
      · rw [← hsk, sk_step (i := k) (by omega)]
        unfold gsk; rw [hn]; rfl
      · by_cases e : j = k
        · rw [uI_e (by omega), e, hn]; rfl
        · rw [uI_n (by omega) (by omega)]; exact hsp j (by omega)
theorem b_MGreedy {b : Nat → Int} {N I : Nat} {wt tc : Nat → Nat} {R : Nat → Nat → Bool} {so0 lk fr to hwa mw mi mf ml im wo ln9 ins tk sp : Nat → Int} {al ak z : Int} {li mo bu : Nat} {Q : Int → (Nat → Int) → (Nat → Int) → (Nat → Int) → (Nat → Int) → (Nat → Int) → Int → Int → Int → Prop} (hB : MBs b N I wt tc R so0 lk fr to hwa mw mi mf ml im) (hal : al = 0 ∨ (al = 1 ∧ StA (Sn b N) I wt (taN b N I R) (leN b N) wo ln9)) (hak : ak = 0 ∨ (ak = 1 ∧ TkA (Sn b N) (tkl b N li) tk)) (hmo : mo ≤ 6)
    (hq : ∀ wo' ln' ins' tk' sp' z', StA (Sn b N) I wt (taN b N I R) (leN b N) wo' ln' → TkA (Sn b N) (tkl b N li) tk' → Q (grd (Sn b N) I wt (leN b N) (taN b N I R) (tkl b N li) mo bu : Nat) wo' ln' ins' tk' sp' 1 1 z') : wp_M_greedy so0 lk fr to hwa mw mi mf wo ln9 ins tk sp (Wn b N) (Sn b N) I (M0 (Wn b N) I R) al ak bu mo li z Q := by
  have h14 := Sn_le b N
  have hP := p14 h14
  unfold wp_M_greedy
  refine b_MSteps hB hal hak hmo fun wo' ln' ins' tk' sp' hst htk _ => ?_
  have hlt := gst_lt (S := Sn b N) (I := I) (wt := wt) (le := leN b N) (ta := taN b N I R) (tk := tkl b N li) (mo := mo) (bu := bu) (gK (nX (Sn b N) I wt (leN b N) (taN b N I R) (tkl b N li) mo bu))
  have hq2 : ∀ z', Q (gfo (wZ (Sn b N) I wt (taN b N I R)) (may (Sn b N) (leN b N) (tkl b N li) mo bu) (gst (nX (Sn b N) I wt (leN b N) (taN b N I R) (tkl b N li) mo bu) (gK (nX (Sn b N) I wt (leN b N) (taN b N I R) (tkl b N li) mo bu))) (Sn b N) : Nat) wo' ln' ins' tk' sp' 1 1 z' := fun z' => hq wo' ln' ins' tk' sp' z' hst htk
  generalize gst (nX (Sn b N) I wt (leN b N) (taN b N I R) (tkl b N li) mo bu) (gK (nX (Sn b N) I wt (leN b N) (taN b N I R) (tkl b N li) mo bu)) = set0 at *
  generalize hwf : wZ (Sn b N) I wt (taN b N I R) = wf at *
  generalize hmy : may (Sn b N) (leN b N) (tkl b N li) mo bu = my at *
  have hmay : ∀ (x : Nat) (P : Int → Prop), x < 2 ^ Sn b N → P (bI (my x)) → wp_M_may ln' tk' (Sn b N) bu mo x P := fun x P hx hp => b_Mmay h14 (hst _ hx).2 htk (by omega) (by rw [hmy]; exact hp)
  have hwo : ∀ x, x < 2 ^ Sn b N → wo' x = wf x := fun x hx => by rw [(hst _ hx).1, hwf]
  have p2 : ∀ n, n < Sn b N → 2 ^ n < 2 ^ Sn b N := fun n hn => Nat.pow_lt_pow_right (by omega) hn
  refine ⟨fun x10 x11 => ∃ n : Nat, x11 = n ∧ n ≤ Sn b N ∧ ((x10 = -1 ∧ gfo wf my set0 n = set0 ∧ ∀ s, s < n → my (2 ^ s) = false) ∨ ∃ p : Nat, x10 = p ∧ p < n ∧ my (2 ^ p) = true ∧ gfo wf my set0 n = if wf set0 < wf (2 ^ p) then 2 ^ p else set0), fun _ x11 => Sn b N - x11.toNat, ⟨0, rfl, by omega, .inl ⟨rfl, rfl, fun s h => by omega⟩⟩, ?_⟩
  rintro x10 x11 ⟨n, rfl, hn, hx⟩
  have e := gfo_s wf my set0 n
  refine ⟨fun h => ?_, fun h => ?_⟩
  · rw [show n = Sn b N by omega] at hx
    rcases hx with ⟨rfl, h1, _⟩ | ⟨p, rfl, h1, h2, h3⟩
    · rw [h1] at hq2
      exact ⟨fun _ => hq2 _, fun h2 => absurd rfl h2⟩
    · refine ⟨fun h4 => by omega, fun _ => ?_⟩
      rw [b_shl1 (by omega)]
      simp only [Int.toNat_natCast]
      have := p2 p h1
      rw [hwo _ this, hwo _ hlt]
      rw [h3] at hq2
      refine ⟨⟨Int.natCast_nonneg _, by omega⟩, ⟨by omega, by omega⟩, fun h4 => ?_, fun h4 => ?_⟩
      · rw [if_neg (by omega)] at hq2; exact hq2 _
      · rw [if_pos (by omega)] at hq2; exact hq2 _
  · have hpn := p2 n (by omega)
    rw [b_shl1 (by omega)]
    refine hmay _ _ hpn (jn1_i ⟨fun h2 => ⟨⟨by omega, by omega⟩, ⟨n + 1, by omega, by omega, ?_⟩, by (try dsimp only); omega⟩, fun h2 => ?_⟩)
    · have e2 : gfo wf my set0 (n + 1) = gfo wf my set0 n := by rw [e, if_neg (by rw [bI_0 h2]; intro h; cases h.2)]
      rw [e2]
      rcases hx with ⟨rfl, h1, h3⟩ | ⟨p, rfl, h1, h3, h4⟩
      · refine .inl ⟨rfl, h1, fun s hs => ?_⟩
        by_cases es : s = n
        · rw [es]; exact bI_0 h2
        · exact h3 s (by omega)
      · exact .inr ⟨p, rfl, by omega, h3, h4⟩
    · have hm := bI_1 h2
      rcases hx with ⟨rfl, h1, h3⟩ | ⟨p, rfl, h1, h3, h4⟩
      · refine jn0_i ⟨fun _ => ⟨⟨by omega, by omega⟩, ⟨n + 1, by omega, by omega, .inr ⟨n, rfl, by omega, hm, ?_⟩⟩, by (try dsimp only); omega⟩, fun h5 => absurd rfl h5⟩
        rw [e, h1]
        by_cases hc : wf set0 < wf (2 ^ n)
        · rw [if_pos ⟨hc, hm⟩, if_pos hc]
        · rw [if_neg (fun h => hc h.1), if_neg hc]
      · have hpp := p2 p (by omega)
        refine jn0_i ⟨fun h5 => by omega, fun _ => ?_⟩
        rw [b_shl1 (by omega)]
        simp only [Int.toNat_natCast]
        rw [hwo _ hpn, hwo _ hpp]
        refine ⟨⟨Int.natCast_nonneg _, by omega⟩, ⟨Int.natCast_nonneg _, by omega⟩, fun h5 => ⟨⟨by omega, by omega⟩, ⟨n + 1, by omega, by omega, .inr ⟨p, rfl, by omega, h3, ?_⟩⟩, by (try dsimp only); omega⟩, fun h5 => ⟨⟨by omega, by omega⟩, ⟨n + 1, by omega, by omega, .inr ⟨n, rfl, by omega, hm, ?_⟩⟩, by (try dsimp only); omega⟩⟩
        · rw [e, if_neg, h4]
          rw [h4]
          intro h
          have h := h.1
          by_cases hc : wf set0 < wf (2 ^ p)
          · rw [if_pos hc] at h; omega
          · rw [if_neg hc] at h; omega
        · rw [e, h4]
          by_cases hc : wf set0 < wf (2 ^ p)
          · rw [if_pos hc, if_pos ⟨by omega, hm⟩, if_pos (by omega)]
          · rw [if_neg hc]
            by_cases hc2 : wf set0 < wf (2 ^ n)
            · rw [if_pos ⟨hc2, hm⟩, if_pos hc2]
            · rw [if_neg (fun h => hc2 h.1), if_neg hc2]
/-! the best of all -/
def ble (wf lf : Nat → Nat) (x y : Nat) : Prop := wf y < wf x ∨ (wf y = wf x ∧ (lf x < lf y ∨ (lf x = lf y ∧ x ≤ y)))
theorem ble_refl (wf lf : Nat → Nat) (x : Nat) : ble wf lf x x := .inr ⟨rfl, .inr ⟨rfl, Nat.le_refl _⟩⟩
theorem ble_trans {wf lf : Nat → Nat} {x y z : Nat} (h : ble wf lf x y) (g : ble wf lf y z) : ble wf lf x z := by
  unfold ble at *; omega
theorem ble_anti {wf lf : Nat → Nat} {x y : Nat} (h : ble wf lf x y) (g : ble wf lf y x) : x = y := by
  unfold ble at *; omega
theorem ble_total (wf lf : Nat → Nat) (x y : Nat) : ble wf lf x y ∨ ble wf lf y x := by
  unfold ble; omega
def Bst (S : Nat) (wf lf : Nat → Nat) (P : Nat → Prop) (x : Nat) : Prop := x < 2 ^ S ∧ P x ∧ ∀ y, y < 2 ^ S → P y → ble wf lf x y
theorem Bst.uniq {S : Nat} {wf lf : Nat → Nat} {P : Nat → Prop} {x y : Nat} (h : Bst S wf lf P x) (g : Bst S wf lf P y) : x = y := ble_anti (h.2.2 y g.1 g.2.1) (g.2.2 x h.1 h.2.1)
theorem may_0 (S : Nat) (le : Nat → Nat) (tk : Nat → Nat → Bool) (mo bu : Nat) : may S le tk mo bu 0 = true := by
  refine may_iff.mpr ⟨?_, ?_, fun s _ h => ?_⟩
  · rw [show bc 0 = 0 from cn_zero fun i _ => Nat.zero_testBit i]; omega
  · have : lS S le 0 = 0 := sm_zero fun i _ => by rw [Nat.zero_testBit]; rfl
    omega
  · rw [Nat.zero_testBit] at h; cases h
theorem b_Mbest {b : Nat → Int} {N I : Nat} {wt tc : Nat → Nat} {R : Nat → Nat → Bool} {so0 lk fr to hwa mw mi mf ml im wo ln9 ins tk : Nat → Int} {al ak : Int} {li mo bu wi : Nat} {Q : Int → (Nat → Int) → (Nat → Int) → (Nat → Int) → (Nat → Int) → Int → Int → Prop} (hB : MBs b N I wt tc R so0 lk fr to hwa mw mi mf ml im) (hal : al = 0 ∨ (al = 1 ∧ StA (Sn b N) I wt (taN b N I R) (leN b N) wo ln9)) (hak : ak = 0 ∨ (ak = 1 ∧ TkA (Sn b N) (tkl b N li) tk)) (hwi : wi < 16384)
    (hq : ∀ x wo' ln' ins' tk', StA (Sn b N) I wt (taN b N I R) (leN b N) wo' ln' → TkA (Sn b N) (tkl b N li) tk' → Bst (Sn b N) (wZ (Sn b N) I wt (taN b N I R)) (lS (Sn b N) (leN b N)) (fun y => may (Sn b N) (leN b N) (tkl b N li) mo bu y = true ∧ y &&& wi = 0) x → Q (x : Nat) wo' ln' ins' tk' 1 1) : wp_M_bestBut so0 lk fr to hwa mw mi mf wo ln9 ins tk (Wn b N) (Sn b N) I (M0 (Wn b N) I R) al ak bu mo li wi Q := by
  have h14 := Sn_le b N
  have hP := p14 h14
  unfold wp_M_bestBut
  refine b_MLike hB hal hak fun wo' ln' ins' tk' hst htk => ?_
  have hq := fun x h => hq x wo' ln' ins' tk' hst htk h
  rw [b_shl1 (by omega)]
  have p1 := Nat.two_pow_pos (Sn b N)
  refine ⟨fun x7 x8 => ∃ x n : Nat, x7 = x ∧ x8 = n ∧ 1 ≤ n ∧ n ≤ 2 ^ Sn b N ∧ x < n ∧ (may (Sn b N) (leN b N) (tkl b N li) mo bu x = true ∧ x &&& wi = 0) ∧ ∀ y, y < n → (may (Sn b N) (leN b N) (tkl b N li) mo bu y = true ∧ y &&& wi = 0) → ble (wZ (Sn b N) I wt (taN b N I R)) (lS (Sn b N) (leN b N)) x y, fun _ x8 => 2 ^ Sn b N - x8.toNat, ⟨0, 1, rfl, rfl, by omega, p1, by omega, ⟨may_0 _ _ _ _ _, Nat.zero_and _⟩, fun y hy _ => by rw [show y = 0 by omega]; exact ble_refl _ _ _⟩, ?_⟩
  rintro x7 x8 ⟨x, n, rfl, rfl, hn1, hn, hxn, hx, hb⟩
  refine ⟨fun h => hq x ⟨by omega, hx, fun y hy hp => hb y (by omega) hp⟩, fun h => ?_⟩
  have hnl : n < 2 ^ Sn b N := by omega
  have hxl : x < 2 ^ Sn b N := by omega
  rw [b_and (by omega)]
  simp only [Int.toNat_natCast]
  rw [(hst n hnl).1, (hst n hnl).2, (hst x hxl).1, (hst x hxl).2]
  have stay : ((may (Sn b N) (leN b N) (tkl b N li) mo bu n = true ∧ n &&& wi = 0) → ble (wZ (Sn b N) I wt (taN b N I R)) (lS (Sn b N) (leN b N)) x n) → rng ((n : Int) + 1) ∧ (∃ x' n' : Nat, (x : Int) = x' ∧ (n : Int) + 1 = n' ∧ 1 ≤ n' ∧ n' ≤ 2 ^ Sn b N ∧ x' < n' ∧ (may (Sn b N) (leN b N) (tkl b N li) mo bu x' = true ∧ x' &&& wi = 0) ∧ ∀ y, y < n' → (may (Sn b N) (leN b N) (tkl b N li) mo bu y = true ∧ y &&& wi = 0) → ble (wZ (Sn b N) I wt (taN b N I R)) (lS (Sn b N) (leN b N)) x' y) ∧ 2 ^ Sn b N - ((n : Int) + 1).toNat < 2 ^ Sn b N - (n : Int).toNat := by
    intro hc
    refine ⟨⟨by omega, by omega⟩, ⟨x, n + 1, rfl, by omega, by omega, by omega, by omega, hx, fun y hy hp => ?_⟩, by omega⟩
    by_cases e : y = n
    · rw [e] at hp ⊢; exact hc hp
    · exact hb y (by omega) hp
  have yes : (may (Sn b N) (leN b N) (tkl b N li) mo bu n = true ∧ n &&& wi = 0) → ble (wZ (Sn b N) I wt (taN b N I R)) (lS (Sn b N) (leN b N)) n x → rng ((n : Int) + 1) ∧ (∃ x' n' : Nat, (n : Int) = x' ∧ (n : Int) + 1 = n' ∧ 1 ≤ n' ∧ n' ≤ 2 ^ Sn b N ∧ x' < n' ∧ (may (Sn b N) (leN b N) (tkl b N li) mo bu x' = true ∧ x' &&& wi = 0) ∧ ∀ y, y < n' → (may (Sn b N) (leN b N) (tkl b N li) mo bu y = true ∧ y &&& wi = 0) → ble (wZ (Sn b N) I wt (taN b N I R)) (lS (Sn b N) (leN b N)) x' y) ∧ 2 ^ Sn b N - ((n : Int) + 1).toNat < 2 ^ Sn b N - (n : Int).toNat := by
    intro hc hbl
    refine ⟨⟨by omega, by omega⟩, ⟨n, n + 1, rfl, by omega, by omega, by omega, by omega, hc, fun y hy hp => ?_⟩, by omega⟩
    by_cases e : y = n
    · rw [e]; exact ble_refl _ _ _
    · exact ble_trans hbl (hb y (by omega) hp)
  refine jn1_i ⟨fun h2 => stay fun hc => by omega, fun h2 => ⟨⟨by omega, by omega⟩, ⟨by omega, by omega⟩, fun h3 => stay fun _ => .inl (by omega), fun h3 => ⟨⟨by omega, by omega⟩, ⟨by omega, by omega⟩, ?_⟩⟩⟩
  refine ⟨ble (wZ (Sn b N) I wt (taN b N I R)) (lS (Sn b N) (leN b N)) n x, fun hbl => b_Mmay h14 (hst n hnl).2 htk (by omega) ⟨fun h4 => yes ⟨bI_1 h4, by omega⟩ hbl, fun h4 => stay fun hc => ?_⟩, fun h4 => .inl (by omega), fun h4 => ⟨⟨by omega, by omega⟩, ⟨by omega, by omega⟩, fun h5 => stay fun _ => .inr ⟨by omega, ?_⟩, fun h5 => .inr ⟨by omega, .inl (by omega)⟩⟩⟩
  · rw [bI_0 h4] at hc; cases hc.1
  · omega
