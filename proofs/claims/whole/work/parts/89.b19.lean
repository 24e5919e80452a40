/-! B19: the best set of the class is that of the reference -/
def fwo (ta : Nat → Nat → Nat) (s : Nat) : Bool := ex (fun k => !decide (ta s k = 0)) 8
theorem fwo_f {ta : Nat → Nat → Nat} {s : Nat} : fwo ta s = false ↔ ∀ k, k < 8 → ta s k = 0 := by
  constructor
  · intro h k hk
    apply Classical.byContradiction
    intro hne
    have : fwo ta s = true := ex_iff.mpr ⟨k, hk, by rw [decide_eq_false hne]; rfl⟩
    rw [h] at this; cases this
  · intro h
    cases e : fwo ta s
    · rfl
    · obtain ⟨k, hk, h2⟩ := ex_iff.mp e
      rw [decide_eq_true (h k hk)] at h2; cases h2
theorem lCmp_0 (x : Int64) : lCmp x 0 = 0 ↔ x = 0 := by
  unfold lCmp lg_cmp
  constructor
  · intro h
    apply Classical.byContradiction
    intro hne
    by_cases h1 : (0 : Int64) < x
    · simp [h1] at h
    · simp [h1, hne] at h
  · intro h
    rw [h]
    decide
theorem b_ofWorth {S : Nat} {ta : Nat → Nat → Nat} {tl : Nat → Int64} {Q : Int → Prop} (hS : S ≤ 14) (hT : TaA S ta tl) (hq : Q (bs (fwo ta) S : Nat)) : wp_Sets_sentencesOfWorth S tl Q := by
  unfold wp_Sets_sentencesOfWorth
  refine ⟨fun x y => ∃ s : Nat, y = s ∧ s ≤ S ∧ x = (bs (fwo ta) s : Nat), fun _ y => S - y.toNat, ⟨0, rfl, by omega, rfl⟩, ?_⟩
  rintro x y ⟨s, rfl, hs, rfl⟩
  refine ⟨fun h => qe hq (by rw [show s = S by omega]), fun h => ⟨⟨by omega, by omega⟩, ?_⟩⟩
  rw [Int.toNat_natCast, lCmp_0, (hT.1 s (by omega)).ne]
  refine jn1_i ⟨fun h2 => ⟨⟨by omega, by omega⟩, ⟨s + 1, by omega, by omega, ?_⟩, by (try dsimp only); omega⟩, fun h2 => ⟨⟨by omega, by omega⟩, ⟨s + 1, by omega, by omega, ?_⟩, by (try dsimp only); omega⟩⟩
  · rw [b_or0 (bs_31 _ (by omega)), bs_f]
    exact fwo_f.mpr h2
  · rw [b_orb (bs_31 _ (by omega)) (by omega), bs_t]
    cases e : fwo ta s
    · exact absurd (fwo_f.mp e) h2
    · rfl
/-- a set without the sentences that have no match -/
theorem cut_w {S I : Nat} {wt : Nat → Nat} {ta : Nat → Nat → Nat} (hI : I ≤ 8) (y : Nat) : wZ S I wt ta (y &&& bs (fwo ta) S) = wZ S I wt ta y := by
  refine wth_congr fun k hk => sm_congr fun s hs => ?_
  rw [Nat.testBit_and, bs_in hs]
  cases e : fwo ta s
  · rw [Bool.and_false, if_neg Bool.false_ne_true]
    have h0 : ta s k = 0 := fwo_f.mp e k (by omega)
    show 0 = if y.testBit s = true then ta s k else 0
    rw [h0]
    split <;> rfl
  · rw [Bool.and_true]
theorem and_sub (x y : Nat) : ∀ i, (x &&& y).testBit i = true → x.testBit i = true := fun i h => by
  rw [Nat.testBit_and, Bool.and_eq_true] at h; exact h.1
theorem may_sub {S : Nat} {le : Nat → Nat} {tk : Nat → Nat → Bool} {mo bu x y : Nat} (h : ∀ i, x.testBit i = true → y.testBit i = true) (hy : may S le tk mo bu y = true) : may S le tk mo bu x = true := by
  have h1 := may_iff.mp hy
  refine may_iff.mpr ⟨Nat.le_trans (cn_imp fun i _ hi => h i hi) h1.1, Nat.le_trans (sS_mono fun i _ hi => h i hi) h1.2.1, fun s hs1 hs2 o ho1 ho2 => h1.2.2 s hs1 (h s hs2) o ho1 (h o ho2)⟩
theorem lS_strict {S : Nat} {le : Nat → Nat} {x y : Nat} (hy : y < 2 ^ S) (h : ∀ i, x.testBit i = true → y.testBit i = true) (hne : y ≠ x) : lS S le x < lS S le y := by
  obtain ⟨i, h1, h2⟩ := ne_bit h hne
  have hi := lt_bit hy h1
  have e : lS S le (x ||| 2 ^ i) = lS S le x + (le i + 4) := sS_or hi h2
  have g : lS S le (x ||| 2 ^ i) ≤ lS S le y := sS_mono fun j _ hj => by
    rw [tb_or1] at hj
    rcases Bool.or_eq_true_iff.mp hj with g | g
    · exact h j g
    · rw [← of_decide_eq_true g]; exact h1
  omega
/-- the best among the sentences with matches is the best of all -/
theorem best_all {S I : Nat} {wt le : Nat → Nat} {ta : Nat → Nat → Nat} {tk : Nat → Nat → Bool} {mo bu en wi x : Nat} (hI : I ≤ 8) (hxl : x < 2 ^ S) (hx : may S le tk mo bu x = true ∧ x &&& wi = 0)
    (h : ∀ y, y < 2 ^ S → may S le tk mo bu y = true → y &&& wi = 0 → (∀ i, y.testBit i = true → (bs (fwo ta) S).testBit i = true) → ble (fun y => min (wZ S I wt ta y) en) (lS S le) x y) : Bst S (fun y => min (wZ S I wt ta y) en) (lS S le) (fun y => may S le tk mo bu y = true ∧ y &&& wi = 0) x := by
  refine ⟨hxl, hx, fun y hy hp => ?_⟩
  have h1 := h (y &&& bs (fwo ta) S) (Nat.lt_of_le_of_lt Nat.and_le_left hy) (may_sub (and_sub y _) hp.1) ?_ ?_
  · have h2 := cut_w (S := S) (wt := wt) (ta := ta) hI y
    unfold ble at h1 ⊢
    dsimp only at h1 ⊢
    rw [h2] at h1
    by_cases e : y = y &&& bs (fwo ta) S
    · rw [← e] at h1; exact h1
    · have h3 := lS_strict (le := le) hy (and_sub y (bs (fwo ta) S)) e
      omega
  · have e : y &&& bs (fwo ta) S &&& wi = (y &&& wi) &&& bs (fwo ta) S := by
      rw [Nat.and_assoc, Nat.and_comm (bs (fwo ta) S) wi, ← Nat.and_assoc]
    rw [e, hp.2, Nat.zero_and]
  · intro i hi
    rw [Nat.testBit_and, Bool.and_eq_true] at hi
    exact hi.2
theorem zero_fam {S : Nat} {le : Nat → Nat} {tk : Nat → Nat → Bool} {mo ro fr y : Nat} (hy : y < 2 ^ S) (hm : may S le tk mo ro y = true) (hf : ∀ i, y.testBit i = true → fr.testBit i = true) (h0 : y ≠ 0) : Fam S le tk mo ro 0 fr 0 y := ⟨hy, h0, fun i hi => (by rw [Nat.zero_testBit] at hi; cases hi), fun i hi _ => ⟨Nat.zero_le _, hf i hi⟩, hm⟩
theorem b_seekTop {S I : Nat} {wt le : Nat → Nat} {ta : Nat → Nat → Nat} {tk : Nat → Nat → Bool} {qw ss tl : Nat → Int} {tal9 : Nat → Int64} {mo ro en wi : Nat} {z1 z2 z3 z4 z5 z6 : Int} {Q : Int → Int → Int → Int → Int → Int → Prop} (hw : QwA I wt qw) (hT : TaA S ta tal9) (hL : LeA S le ss) (hK : TkA S tk tl) (hsy : ∀ s o, tk s o = tk o s) (hir : ∀ s, tk s s = false) (hmo : mo ≤ 6) (hro : ro ≤ 700)
    (hq : ∀ x, Bst S (fun y => min (wZ S I wt ta y) en) (lS S le) (fun y => may S le tk mo ro y = true ∧ y &&& wi = 0) x → Q mo ro en (x : Nat) (min (wZ S I wt ta x) en : Nat) (lS S le x : Nat)) : wp_Search_seekTop ss qw tl S I z1 z2 z3 z4 z5 z6 tal9 ((ndiff (bs (fwo ta) S) wi : Nat) : Int) mo ro en Q := by
  have hS := hL.1
  have hI := hw.1
  have hb31 := bs_31 (fwo ta) (show S ≤ 31 by omega)
  have nd := fun i => ndiff_bit (a := bs (fwo ta) S) (b := wi) i hb31
  have ndl : ndiff (bs (fwo ta) S) wi < 2 ^ 31 := by unfold ndiff; exact and_lt31 hb31
  unfold wp_Search_seekTop
  have w0 : wZ S I wt ta 0 = 0 := by
    refine sm_zero fun k _ => ?_
    have : sS S (fun s => ta s k) 0 = 0 := sm_zero fun i _ => by rw [Nat.zero_testBit]; rfl
    show wt k * tms (sS S (fun s => ta s k) 0) = 0
    rw [this]; rfl
  have l0 : lS S le 0 = 0 := sm_zero fun i _ => by rw [Nat.zero_testBit]; rfl
  have hx0 : Tl 0 (fun k => sS S (fun s => ta s k) 0) := Tl.zero.congr fun k _ => (sm_zero fun i _ => by rw [Nat.zero_testBit]; rfl).symm
  have main := b_extend hw hT hL hK hsy hir hmo hro (en := en) 7 0 (ndiff (bs (fwo ta) S) wi) 0 0 0 (fun a1 a2 a3 => Q mo ro en a1 a2 a3) (by omega) (Nat.two_pow_pos S) ndl (may_0 _ _ _ _ _) (fun i hi => by rw [Nat.zero_testBit] at hi; cases hi) (fun i _ _ s _ hs => by rw [Nat.zero_testBit] at hs; cases hs) hx0 (Nat.two_pow_pos S) (fun t ht hte _ hb => hq t (best_all hI ht ?_ fun y hy1 hy2 hy3 hy4 => ?_))
  · rw [w0, l0, Nat.zero_min] at main
    exact main
  · rcases hte with e | e
    · rw [e]; exact ⟨may_0 _ _ _ _ _, Nat.zero_and _⟩
    · refine ⟨e.2.2.2.2, ?_⟩
      apply Nat.eq_of_testBit_eq
      intro i
      rw [Nat.zero_testBit, Nat.testBit_and]
      cases hi : t.testBit i
      · rfl
      · have := (e.2.2.2.1 i hi (Nat.zero_testBit i)).2
        rw [nd, Bool.and_eq_true] at this
        have h2 := this.2
        cases h3 : wi.testBit i
        · rfl
        · rw [h3] at h2; cases h2
  · by_cases e : y = 0
    · rw [e]
      unfold ble
      dsimp only
      rw [w0, l0, Nat.zero_min]
      rcases Nat.eq_zero_or_pos (min (wZ S I wt ta t) en) with g | g
      · refine .inr ⟨g.symm, ?_⟩
        rcases hte with e2 | e2
        · right; rw [e2, l0]; exact ⟨rfl, Nat.le_refl _⟩
        · exfalso
          rename_i hbt
          unfold ble at hbt
          dsimp only at hbt
          rw [w0, l0, Nat.zero_min] at hbt
          have h4 := lS_strict (le := le) e2.1 (fun i hi => by rw [Nat.zero_testBit] at hi; cases hi) e2.2.1
          omega
      · exact .inl g
    · refine hb y (zero_fam hy1 hy2 (fun i hi => ?_) e)
      rw [nd, hy4 i hi]
      have : (y &&& wi).testBit i = false := by rw [hy3, Nat.zero_testBit]
      rw [Nat.testBit_and, hi, Bool.true_and] at this
      rw [this]; rfl
