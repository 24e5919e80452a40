/-! B22: windows: lengths, what covers a set -/
def WlA (W : Nat) (F T : Nat → Nat) (sa wb we : Nat → Int) : Prop := ∀ w, w < W → (0 ≤ wb w ∧ wb w < 601) ∧ (0 ≤ we w ∧ we w < 601) ∧ sa (wb w).toNat = F w ∧ sa (we w).toNat = T w
def MlA (W : Nat) (F T : Nat → Nat) (wf wt : Nat → Int) : Prop := ∀ w, w < W → wf w = F w ∧ wt w = T w
def FTo (W : Nat) (F T : Nat → Nat) : Prop := W ≤ 100 ∧ (∀ w, w < W → F w < T w ∧ T w ≤ 600) ∧ ∀ v w, v < w → w < W → T v ≤ F w
theorem b_wl {W : Nat} {F T : Nat → Nat} {sa wb we : Nat → Int} {a b : Nat} {Q : Int → Prop} (hF : FTo W F T) (hW : WlA W F T sa wb we) (ha : a < W) (hb : b < W) (hq : Q ((T b : Int) - F a)) : wp_Page_windowLength sa wb we a b Q := by
  obtain ⟨a1, a2, a3, a4⟩ := hW a ha
  obtain ⟨b1, b2, b3, b4⟩ := hW b hb
  have h100 := hF.1
  have f1 := hF.2.1 a ha
  have f2 := hF.2.1 b hb
  unfold wp_Page_windowLength
  simp only [Int.toNat_natCast]
  rw [a3, b4]
  exact ⟨⟨by omega, by omega⟩, b2, ⟨by omega, by omega⟩, a1, ⟨by omega, by omega⟩, hq⟩
theorem b_Mlong {W : Nat} {F T : Nat → Nat} {wf wt : Nat → Int} {a b : Nat} {Q : Int → Prop} (hF : FTo W F T) (hW : MlA W F T wf wt) (ha : a < W) (hb : b < W) (hq : Q ((T b : Int) - F a)) : wp_M_longOf wf wt a b Q := by
  have h100 := hF.1
  have f1 := hF.2.1 a ha
  have f2 := hF.2.1 b hb
  unfold wp_M_longOf
  simp only [Int.toNat_natCast]
  rw [(hW a ha).1, (hW b hb).2]
  exact ⟨⟨by omega, by omega⟩, ⟨by omega, by omega⟩, ⟨by omega, by omega⟩, hq⟩
/-- the items: their lengths, matches within the words -/
def TcA (W I : Nat) (tc : Nat → Nat) (R : Nat → Nat → Bool) (qt : Nat → Int) : Prop := I ≤ 8 ∧ (∀ k, k < I → qt k = tc k ∧ 1 ≤ tc k ∧ tc k ≤ 4) ∧ ∀ k v, k < I → R k v = true → v + tc k ≤ W
def nm (W : Nat) (R : Nat → Nat → Bool) (k a : Nat) : Nat := sk (fun v => !R k v) W a
def ne9 (W : Nat) (tc : Nat → Nat) (R : Nat → Nat → Bool) (k a : Nat) : Nat := if nm W R k a < W then nm W R k a + tc k - 1 else 100
theorem ne_lt {W I : Nat} {tc : Nat → Nat} {R : Nat → Nat → Bool} {qt : Nat → Int} {k a : Nat} (h : TcA W I tc R qt) (hk : k < I) (hn : nm W R k a < W) : R k (nm W R k a) = true ∧ nm W R k a + tc k ≤ W ∧ a ≤ nm W R k a := by
  have h1 := sk_not (p := fun v => !R k v) hn
  have h2 : R k (nm W R k a) = true := by
    cases e : R k (nm W R k a)
    · rw [show sk (fun v => !R k v) W a = nm W R k a from rfl, e] at h1; cases h1
    · rfl
  exact ⟨h2, h.2.2 k _ hk h2, sk_ge _ _ _⟩
theorem ne_ge {W I : Nat} {tc : Nat → Nat} {R : Nat → Nat → Bool} {qt : Nat → Int} {k a : Nat} (h : TcA W I tc R qt) (hW : W ≤ 100) (hk : k < I) (ha : a ≤ W) : a ≤ ne9 W tc R k a ∧ (ne9 W tc R k a < W ∨ ne9 W tc R k a = 100) := by
  unfold ne9
  split
  · rename_i hn
    have := ne_lt h hk hn
    have := (h.2.1 k hk).2
    omega
  · omega
/-- the match that ends first -/
theorem ne_iff {W I : Nat} {tc : Nat → Nat} {R : Nat → Nat → Bool} {qt : Nat → Int} {k a b : Nat} (h : TcA W I tc R qt) (hW : W ≤ 100) (hk : k < I) (hb : b < W) : ne9 W tc R k a ≤ b ↔ ∃ v, a ≤ v ∧ R k v = true ∧ v + tc k ≤ b + 1 := by
  have ht := (h.2.1 k hk).2
  constructor
  · intro h1
    unfold ne9 at h1
    split at h1
    · rename_i hn
      have := ne_lt h hk hn
      exact ⟨_, this.2.2, this.1, by omega⟩
    · omega
  · rintro ⟨v, h1, h2, h3⟩
    have h4 := h.2.2 k v hk h2
    have h5 : nm W R k a ≤ v := by
      rcases Nat.lt_or_ge v (nm W R k a) with e | e
      · have := sk_all (p := fun v => !R k v) h1 e
        rw [h2] at this; cases this
      · exact e
    unfold ne9
    rw [if_pos (by omega)]
    omega
def ew (tc : Nat → Nat) (R : Nat → Nat → Bool) (k a b : Nat) : Bool := decide (a + tc k ≤ b + 1) && R k (b + 1 - tc k)
theorem ew_iff {tc : Nat → Nat} {R : Nat → Nat → Bool} {k a b : Nat} : ew tc R k a b = true ↔ (a + tc k ≤ b + 1 ∧ R k (b + 1 - tc k) = true) := by
  unfold ew
  rw [Bool.and_eq_true, decide_eq_true_iff]
theorem ne_ew {W I : Nat} {tc : Nat → Nat} {R : Nat → Nat → Bool} {qt : Nat → Int} {k a b : Nat} (h : TcA W I tc R qt) (hW : W ≤ 100) (hk : k < I) (hb : b < W) (ha : a ≤ b) : ne9 W tc R k a ≤ b ↔ (ne9 W tc R k a < b ∨ ew tc R k a b = true) := by
  rw [ew_iff]
  constructor
  · intro h1
    rcases Nat.eq_or_lt_of_le h1 with e | e
    · right
      unfold ne9 at e
      split at e
      · rename_i hn
        have h2 := ne_lt h hk hn
        have ht := (h.2.1 k hk).2
        rw [show b + 1 - tc k = nm W R k a by omega]
        exact ⟨by omega, h2.1⟩
      · omega
    · exact .inl e
  · rintro (e | e)
    · omega
    · exact (ne_iff h hW hk hb).mpr ⟨_, by omega, e.2, by omega⟩
theorem nm_step {W : Nat} {R : Nat → Nat → Bool} {k a : Nat} (ha : a < W) : nm W R k a = if R k a then a else nm W R k (a + 1) := by
  unfold nm
  cases e : R k a
  · rw [if_neg Bool.false_ne_true, sk_step ha (by rw [e]; rfl)]
  · rw [if_pos rfl, sk_stop (by rw [e]; rfl)]
def mx (W : Nat) (tc : Nat → Nat) (R : Nat → Nat → Bool) (set a : Nat) : Nat → Nat
  | 0 => 0
  | k + 1 => if set.testBit k then max (mx W tc R set a k) (ne9 W tc R k a) else mx W tc R set a k
theorem mx_s (W : Nat) (tc : Nat → Nat) (R : Nat → Nat → Bool) (set a k : Nat) : mx W tc R set a (k + 1) = if set.testBit k then max (mx W tc R set a k) (ne9 W tc R k a) else mx W tc R set a k := rfl
theorem mx_le {W : Nat} {tc : Nat → Nat} {R : Nat → Nat → Bool} {set a b : Nat} : ∀ n, mx W tc R set a n ≤ b ↔ ∀ k, k < n → set.testBit k = true → ne9 W tc R k a ≤ b
  | 0 => ⟨fun _ k h => (by omega), fun _ => Nat.zero_le _⟩
  | n + 1 => by
    rw [mx_s]
    constructor
    · intro h k hk hs
      by_cases e : k = n
      · subst e
        rw [if_pos hs] at h; omega
      · refine (mx_le n).mp ?_ k (by omega) hs
        split at h <;> omega
    · intro h
      have h1 := (mx_le (b := b) n).mpr fun k hk hs => h k (by omega) hs
      split
      · rename_i hs
        have := h n (by omega) hs
        omega
      · exact h1
def rch (W I : Nat) (tc : Nat → Nat) (R : Nat → Nat → Bool) (set a : Nat) : Nat := mx W tc R set a I
def StI (I set : Nat) : Prop := set < 2 ^ 8 ∧ ∃ k, k < I ∧ set.testBit k = true
theorem rch_b {W I : Nat} {tc : Nat → Nat} {R : Nat → Nat → Bool} {qt : Nat → Int} {set a : Nat} (h : TcA W I tc R qt) (hW : W ≤ 100) (hs : StI I set) (ha : a ≤ W) : a ≤ rch W I tc R set a ∧ (rch W I tc R set a < W ∨ rch W I tc R set a = 100) := by
  have key : ∀ n, n ≤ I → (mx W tc R set a n < W ∨ mx W tc R set a n = 100 ∨ mx W tc R set a n = 0) := by
    intro n
    induction n with
    | zero => intro _; exact .inr (.inr rfl)
    | succ n ih =>
      intro hn
      have h1 := ih (by omega)
      have h2 := (ne_ge (k := n) h hW (by omega) ha).2
      rw [mx_s]
      split <;> omega
  obtain ⟨k, hk, hsk⟩ := hs.2
  have h1 := (mx_le (W := W) (tc := tc) (R := R) (set := set) (a := a) (b := mx W tc R set a I) I).mp (Nat.le_refl _) k hk hsk
  have h2 := ne_ge (k := k) h hW hk ha
  have h3 := key I (Nat.le_refl _)
  unfold rch
  omega
theorem rch_mono {W I : Nat} {tc : Nat → Nat} {R : Nat → Nat → Bool} {qt : Nat → Int} {set a : Nat} (h : TcA W I tc R qt) (hW : W ≤ 100) (hs : StI I set) (ha : a < W) : rch W I tc R set a ≤ rch W I tc R set (a + 1) := by
  have hb := rch_b h hW hs (show a + 1 ≤ W by omega)
  rcases hb.2 with e | e
  · refine (mx_le I).mpr fun k hk hsk => ?_
    have h1 := (mx_le (W := W) (tc := tc) (R := R) (set := set) (a := a + 1) (b := rch W I tc R set (a + 1)) I).mp (Nat.le_refl _) k hk hsk
    obtain ⟨v, g1, g2, g3⟩ := (ne_iff h hW hk e).mp h1
    exact (ne_iff h hW hk e).mpr ⟨v, by omega, g2, g3⟩
  · rw [e]
    have := rch_b h hW hs (show a ≤ W by omega)
    omega
theorem b_fill35 {f : Nat → Int} {z : Int} {Q : (Nat → Int) → Prop} (hq : ∀ f', (∀ i, i < 8 → f' i = z) → Q f') : wp_JA_fill_35 f z Q := by
  unfold wp_JA_fill_35
  refine ⟨fun f x => ∃ i : Nat, x = i ∧ i ≤ 8 ∧ ∀ j, j < i → f j = z, fun _ x => 8 - x.toNat, ⟨0, rfl, by omega, fun j h => by omega⟩, ?_⟩
  rintro f x ⟨i, rfl, hi, h⟩
  refine ⟨fun h2 => hq _ fun j hj => h j (by omega), fun h2 => ⟨⟨by omega, by omega⟩, ⟨by omega, by omega⟩, ⟨i + 1, by omega, by omega, fun j hj => ?_⟩, by (try dsimp only); omega⟩⟩
  by_cases e : j = i
  · rw [uI_e (by omega)]
  · rw [uI_n (by omega) (by omega)]; exact h j (by omega)
theorem b_reach {W I : Nat} {tc : Nat → Nat} {R : Nat → Nat → Bool} {qt bg nx re : Nat → Int} {set : Nat} {Q : (Nat → Int) → (Nat → Int) → Prop} (hW : W ≤ 100) (h : TcA W I tc R qt) (hbg : ∀ v, v < W → bg v = bs (fun k => R k v) I) (hs : StI I set) (hq : ∀ (nx' re' : Nat → Int), (∀ a, a ≤ W → re' a = rch W I tc R set a) → Q nx' re') : wp_Windows_findReach qt bg nx re W I set Q := by
  have hI := h.1
  have hs8 := hs.1
  unfold wp_Windows_findReach
  refine b_fill35 fun nx0 h0 => ⟨⟨by omega, by omega⟩, ⟨by omega, by omega⟩, ?_⟩
  have rW : rch W I tc R set W = 100 := by have := rch_b h hW hs (Nat.le_refl W); omega
  refine ⟨fun nx re x => ∃ a : Nat, x = (a : Int) - 1 ∧ a ≤ W ∧ (∀ k, k < I → nx k = ne9 W tc R k a) ∧ ∀ v, a ≤ v → v ≤ W → re v = rch W I tc R set v, fun _ _ x => (x + 1).toNat, ⟨W, rfl, Nat.le_refl _, fun k hk => ?_, fun v h1 h2 => ?_⟩, ?_⟩
  · rw [h0 k (by omega)]
    unfold ne9 nm
    rw [sk_end (Nat.le_refl W), if_neg (by omega)]
    rfl
  · rw [uI_e (by omega), show v = W by omega, rW]
    rfl
  rintro nx re x ⟨a, rfl, ha, hn, hr⟩
  refine ⟨fun h1 => hq _ _ fun v hv => hr v (by omega) hv, fun h1 => ⟨⟨by omega, by omega⟩, ?_⟩⟩
  obtain ⟨c, rfl⟩ : ∃ c, a = c + 1 := ⟨a - 1, by omega⟩
  rw [show ((c + 1 : Nat) : Int) - 1 = (c : Int) by omega]
  refine ⟨fun nx re x => ∃ k : Nat, x = k ∧ k ≤ I ∧ (∀ j, j < I → nx j = if j < k then ne9 W tc R j c else ne9 W tc R j (c + 1)) ∧ re c = mx W tc R set c k ∧ ∀ v, c + 1 ≤ v → v ≤ W → re v = rch W I tc R set v, fun _ _ x => I - x.toNat, ⟨0, rfl, by omega, fun j hj => ?_, uI_e rfl, fun v h2 h3 => ?_⟩, ?_⟩
  · rw [if_neg (by omega)]; exact hn j hj
  · rw [uI_n (by omega) (by omega)]; exact hr v h2 h3
  rintro nx re x ⟨k, rfl, hk, hn, hc, hr⟩
  refine ⟨fun h2 => ⟨⟨by omega, by omega⟩, ⟨c, by omega, by omega, fun j hj => ?_, fun v h3 h4 => ?_⟩, by (try dsimp only); omega⟩, fun h2 => ⟨⟨by omega, by omega⟩, ?_⟩⟩
  · rw [hn j hj, if_pos (by omega)]
  · by_cases e : v = c
    · rw [e, hc, show k = I by omega]; rfl
    · exact hr v (by omega) h4
  · simp only [Int.toNat_natCast]
    rw [hbg c (by omega)]
    have ht := h.2.1 k (by omega)
    rw [ht.1]
    refine b_Has (bs_31 _ (by omega)) (by omega) ?_
    rw [bs_in (show k < I by omega)]
    have est := nm_step (W := W) (R := R) (k := k) (a := c) (by omega)
    refine ⟨fun nx' => (∀ j, j < I → nx' j = if j < k + 1 then ne9 W tc R j c else ne9 W tc R j (c + 1)), fun nx' hn' => ?_, fun h3 => fun j hj => ?_, fun h3 => ⟨⟨by omega, by omega⟩, ⟨by omega, by omega⟩, ⟨by omega, by omega⟩, ⟨by omega, by omega⟩, fun j hj => ?_⟩⟩
    · have hnk := hn' k (by omega)
      rw [if_pos (by omega)] at hnk
      refine b_Has (by omega) (by omega) (jn1_i ⟨fun h4 => ⟨⟨by omega, by omega⟩, ⟨k + 1, by omega, by omega, hn', ?_, hr⟩, by (try dsimp only); omega⟩, fun h4 => ⟨⟨by omega, by omega⟩, ⟨by omega, by omega⟩, ⟨by omega, by omega⟩, ⟨by omega, by omega⟩, ⟨k + 1, by omega, by omega, hn', ?_, fun v h5 h6 => ?_⟩, by (try dsimp only); omega⟩⟩)
      · rw [mx_s, bI_0 h4, if_neg Bool.false_ne_true]; exact hc
      · rw [uI_e rfl, hc, hnk, mx_s, bI_1 h4, if_pos rfl]; omega
      · rw [uI_n (by omega) (by omega)]; exact hr v h5 h6
    · have h3 := bI_0 h3
      rw [hn j hj]
      by_cases e : j = k
      · subst e
        rw [if_neg (by omega), if_pos (by omega)]
        unfold ne9
        rw [est, h3, if_neg Bool.false_ne_true]
      · by_cases e2 : j < k
        · rw [if_pos e2, if_pos (by omega)]
        · rw [if_neg e2, if_neg (by omega)]
    · have h3 := bI_1 h3
      by_cases e : j = k
      · subst e
        rw [uI_e rfl, if_pos (by omega)]
        unfold ne9
        rw [est, h3, if_pos rfl, if_pos (by omega)]
        omega
      · rw [uI_n (by omega) (by omega), hn j hj]
        by_cases e2 : j < k
        · rw [if_pos e2, if_pos (by omega)]
        · rw [if_neg e2, if_neg (by omega)]
def mnb (W I : Nat) (tc : Nat → Nat) (R : Nat → Nat → Bool) (set a : Nat) : Bool := decide (rch W I tc R set a < rch W I tc R set (a + 1))
theorem b_minF {W I : Nat} {tc : Nat → Nat} {R : Nat → Nat → Bool} {re : Nat → Int} {set a : Nat} {Q : Int → Prop} (hW : W ≤ 100) (hr : ∀ a, a ≤ W → re a = rch W I tc R set a) (ha : a < W) (hq : Q (bI (mnb W I tc R set a))) : wp_Windows_isMinimalFrom re a Q := by
  unfold wp_Windows_isMinimalFrom
  rw [show ((a : Int) + 1).toNat = a + 1 by omega, Int.toNat_natCast, hr a (by omega), hr (a + 1) (by omega)]
  refine ⟨⟨by omega, by omega⟩, ⟨by omega, by omega⟩, ⟨by omega, by omega⟩, fun h => qe hq ?_, fun h => qe hq ?_⟩
  · unfold mnb; rw [decide_eq_false (by omega)]; rfl
  · unfold mnb; rw [decide_eq_true (by omega)]; rfl
def cov (W I : Nat) (tc : Nat → Nat) (R : Nat → Nat → Bool) (set a : Nat) : Int := if rch W I tc R set a < W then (rch W I tc R set a : Int) else -1
theorem ndiff_bs {set I : Nat} {p : Nat → Bool} (hI : I ≤ 8) (hs : set < 2 ^ I) : ndiff set (bs p I) = 0 ↔ ∀ k, k < I → set.testBit k = true → p k = true := by
  have h31 : set < 2 ^ 31 := Nat.lt_of_lt_of_le hs (Nat.pow_le_pow_right (by omega) (by omega))
  constructor
  · intro h k hk hsk
    have h1 := ndiff_bit (b := bs p I) k h31
    rw [h, Nat.zero_testBit, hsk, bs_in hk] at h1
    cases e : p k
    · rw [e] at h1; cases h1
    · rfl
  · intro h
    apply Nat.eq_of_testBit_eq
    intro i
    rw [ndiff_bit i h31, Nat.zero_testBit]
    cases e : set.testBit i
    · rfl
    · have hi := lt_bit hs e
      rw [bs_in hi, h i hi e]; rfl
theorem b_Mcov {W I : Nat} {tc : Nat → Nat} {R : Nat → Nat → Bool} {mi mf ml im mt : Nat → Int} {set a : Nat} {Q : Int → Prop} (hW : W ≤ 100) (h : TcA W I tc R mt) (hM : MmA W I tc R mi mf ml im) (hs : StI I set) (hsI : set < 2 ^ I) (ha : a < W) (hq : Q (cov W I tc R set a)) : wp_M_coveredBy mt im W I set a Q := by
  have hI := h.1
  have hs8 := hs.1
  have hrb := rch_b h hW hs (show a ≤ W by omega)
  unfold wp_M_coveredBy
  refine ⟨fun x1 x2 => ∃ b : Nat, x2 = b ∧ a ≤ b ∧ b ≤ W ∧ b ≤ rch W I tc R set a ∧ x1 = (bs (fun k => decide (ne9 W tc R k a < b)) I : Nat), fun _ x2 => W - x2.toNat, ⟨a, rfl, Nat.le_refl _, by omega, hrb.1, ?_⟩, ?_⟩
  · have h0 : ∀ n, n ≤ I → bs (fun k => decide (ne9 W tc R k a < a)) n = 0 := by
      intro n
      induction n with
      | zero => intro _; rfl
      | succ n ih =>
        intro hn
        have := (ne_ge (k := n) h hW (by omega) (show a ≤ W by omega)).1
        rw [bs_f (decide_eq_false (by omega)), ih (by omega)]
    rw [h0 I (Nat.le_refl _)]; rfl
  rintro x1 x2 ⟨b, rfl, hb1, hb2, hb3, rfl⟩
  refine ⟨fun h1 => qe hq ?_, fun h1 => ?_⟩
  · unfold cov; rw [if_neg (by omega)]
  · refine ⟨fun x3 x4 => ∃ k : Nat, x4 = k ∧ k ≤ I ∧ x3 = (bs (fun j => decide (ne9 W tc R j a < b ∨ (j < k ∧ ne9 W tc R j a ≤ b))) I : Nat), fun _ x4 => I - x4.toNat, ⟨0, rfl, by omega, ?_⟩, ?_⟩
    · exact congrArg Nat.cast (bs_congr fun j hj => decide_eq_decide.mpr (by omega))
    rintro x3 x4 ⟨k, rfl, hk, rfl⟩
    refine ⟨fun h2 => ?_, fun h2 => b_MendsAt hW hI hM (by omega) (h.2.1 k (by omega)) (by omega) ?_⟩
    · rw [show k = I by omega, b_andn (by omega)]
      have e1 : bs (fun j => decide (ne9 W tc R j a < b ∨ (j < I ∧ ne9 W tc R j a ≤ b))) I = bs (fun j => decide (ne9 W tc R j a ≤ b)) I := bs_congr fun j hj => decide_eq_decide.mpr (by omega)
      rw [e1]
      have e2 : ndiff set (bs (fun j => decide (ne9 W tc R j a ≤ b)) I) = 0 ↔ rch W I tc R set a ≤ b := by
        rw [ndiff_bs hI hsI]
        unfold rch
        rw [mx_le I]
        constructor
        · intro g k hk hsk; exact of_decide_eq_true (g k hk hsk)
        · intro g k hk hsk; exact decide_eq_true (g k hk hsk)
      refine ⟨fun h3 => ⟨⟨by omega, by omega⟩, ⟨b + 1, by omega, by omega, by omega, ?_, ?_⟩, by (try dsimp only); omega⟩, fun h3 => qe hq ?_⟩
      · have : ¬ rch W I tc R set a ≤ b := fun g => h3 (by have := e2.mpr g; omega)
        omega
      · exact congrArg Nat.cast (bs_congr fun j hj => decide_eq_decide.mpr (by omega))
      · have := e2.mp (by omega)
        unfold cov; rw [if_pos (by omega)]; omega
    · have hne := ne_ew (k := k) h hW (by omega) (show b < W by omega) hb1
      have hkk : ∀ c : Bool, c = ew tc R k a b → ∀ z : Int, z = (if c then iShl 1 k else 0) → rng ((k : Int) + 1) ∧ (∃ k' : Nat, (k : Int) + 1 = k' ∧ k' ≤ I ∧ iOr ((bs (fun j => decide (ne9 W tc R j a < b ∨ (j < k ∧ ne9 W tc R j a ≤ b))) I : Nat) : Int) z = (bs (fun j => decide (ne9 W tc R j a < b ∨ (j < k' ∧ ne9 W tc R j a ≤ b))) I : Nat)) ∧ I - ((k : Int) + 1).toNat < I - (k : Int).toNat := by
        rintro c hc z rfl
        refine ⟨⟨by omega, by omega⟩, ⟨k + 1, by omega, by omega, ?_⟩, by omega⟩
        rw [b_or1 (bs_31 _ (by omega)) (by omega)]
        congr 1
        cases c
        · rw [if_neg Bool.false_ne_true, Nat.or_zero]
          refine bs_congr fun j hj => decide_eq_decide.mpr ?_
          by_cases e : j = k
          · subst e
            rw [← hc] at hne
            constructor
            · omega
            · rintro (g | g)
              · exact .inl g
              · rcases hne.mp g.2 with g2 | g2
                · exact .inl g2
                · cases g2
          · omega
        · rw [if_pos rfl]
          symm
          refine bs_upd (by omega) fun j hj => ?_
          rw [Bool.eq_iff_iff, Bool.or_eq_true, decide_eq_true_iff, decide_eq_true_iff, decide_eq_true_iff]
          by_cases e : j = k
          · subst e
            constructor
            · intro _; exact .inr rfl
            · intro _; exact .inr ⟨by omega, hne.mpr (.inr hc.symm)⟩
          · omega
      refine jn1_i ⟨fun h3 => hkk false ?_ 0 rfl, fun h3 => hkk true ?_ _ rfl⟩
      · exact (bI_0 h3).symm
      · exact (bI_1 h3).symm
theorem b_Mmin {W I : Nat} {tc : Nat → Nat} {R : Nat → Nat → Bool} {mi mf ml im mt : Nat → Int} {set a : Nat} {Q : Int → Prop} (hW : W ≤ 100) (h : TcA W I tc R mt) (hM : MmA W I tc R mi mf ml im) (hs : StI I set) (hsI : set < 2 ^ I) (ha : a < W) (hq : Q (bI (mnb W I tc R set a))) : wp_M_isMinimal mt im W I set a (cov W I tc R set a) Q := by
  have hrb := rch_b h hW hs (show a ≤ W by omega)
  have hrc := rch_b h hW hs (show a + 1 ≤ W by omega)
  have hmo := rch_mono h hW hs ha
  have e0 : mnb W I tc R set a = true ↔ rch W I tc R set a < rch W I tc R set (a + 1) := by unfold mnb; rw [decide_eq_true_iff]
  unfold wp_M_isMinimal
  refine ⟨fun h1 => qe hq (bI_not e0 ?_), fun h1 => ⟨⟨by omega, by omega⟩, ?_⟩⟩
  · unfold cov at h1
    split at h1 <;> omega
  · have hlt : rch W I tc R set a < W := by
      unfold cov at h1
      split at h1
      · assumption
      · exact absurd rfl h1
    have hc : cov W I tc R set a = (rch W I tc R set a : Int) := by unfold cov; rw [if_pos hlt]
    refine ⟨rch W I tc R set a < rch W I tc R set (a + 1), fun g => qe hq (bI_yes e0 g), fun h2 => (by omega), fun h2 => ⟨⟨by omega, by omega⟩, ?_⟩⟩
    rw [show (a : Int) + 1 = ((a + 1 : Nat) : Int) by omega]
    refine b_Mcov hW h hM hs hsI (by omega) ⟨fun h3 => qe hq (bI_not e0 ?_), fun h3 => ?_⟩
    · rw [hc] at h3
      unfold cov at h3
      split at h3 <;> omega
    · rw [hc] at h3
      unfold cov at h3
      split at h3 <;> omega
