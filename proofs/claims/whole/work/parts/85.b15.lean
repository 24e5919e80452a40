/-! B15: the reference's bundle; which sets may be; steps -/
def leN (b : Nat → Int) (N s : Nat) : Nat := sgn b N (sEn b N s) - sgn b N (sBg b N s)
def MBs (b : Nat → Int) (N I : Nat) (wt tc : Nat → Nat) (R : Nat → Nat → Bool) (so0 lk fr to hwa mw mi mf ml im : Nat → Int) : Prop :=
  FtA (Sn b N) (leN b N) fr to ∧ QwA I wt mw ∧ MmA (Wn b N) I tc R mi mf ml im ∧ (∀ k v, k < I → v < Wn b N → R k v = true → so0 v = soN b N v ∧ soN b N v < Sn b N) ∧ AlA b N lk ∧ MhA b N hwa
def taN (b : Nat → Int) (N I : Nat) (R : Nat → Nat → Bool) : Nat → Nat → Nat := tal (Wn b N) I (soN b N) R
theorem b_MLike {b : Nat → Int} {N I : Nat} {wt tc : Nat → Nat} {R : Nat → Nat → Bool} {so0 lk fr to hwa mw mi mf ml im wo ln9 ins tk : Nat → Int} {al ak : Int} {li : Nat} {Q : (Nat → Int) → (Nat → Int) → (Nat → Int) → (Nat → Int) → Int → Int → Prop} (hB : MBs b N I wt tc R so0 lk fr to hwa mw mi mf ml im) (hal : al = 0 ∨ (al = 1 ∧ StA (Sn b N) I wt (taN b N I R) (leN b N) wo ln9)) (hak : ak = 0 ∨ (ak = 1 ∧ TkA (Sn b N) (tkl b N li) tk))
    (hq : ∀ wo' ln' ins' tk', StA (Sn b N) I wt (taN b N I R) (leN b N) wo' ln' → TkA (Sn b N) (tkl b N li) tk' → Q wo' ln' ins' tk' 1 1) : wp_M_laysLike so0 lk fr to hwa mw mi mf wo ln9 ins tk (Wn b N) (Sn b N) I (M0 (Wn b N) I R) al ak li Q := by
  have h100 : Wn b N ≤ 100 := by unfold Wn; omega
  have h14 := Sn_le b N
  obtain ⟨h1, h2, h3, h4, h5, h6⟩ := hB
  unfold wp_M_laysLike
  refine b_Msets h100 h1 h2 h3 h4 hal fun wo' ln' ins' hst => ⟨fun h => ?_, fun h => ?_⟩
  · refine ⟨fun tk x => ∃ s : Nat, x = s ∧ s ≤ Sn b N ∧ ∀ k, k < s → tk k = bs (tkl b N li k) (Sn b N), fun _ x => Sn b N - x.toNat, ⟨0, rfl, by omega, fun k h => by omega⟩, ?_⟩
    rintro tk x ⟨s, rfl, hs, h⟩
    refine ⟨fun h2 => hq _ _ _ _ hst fun k hk => h k (by omega), fun h2 => ⟨⟨by omega, by omega⟩, ?_⟩⟩
    refine ⟨fun tk x => ∃ o : Nat, x = o ∧ o ≤ Sn b N ∧ (∀ k, k < s → tk k = bs (tkl b N li k) (Sn b N)) ∧ tk s = bs (tkl b N li s) o, fun _ x => Sn b N - x.toNat, ⟨0, rfl, by omega, fun k hk => ?_, uI_e rfl⟩, ?_⟩
    · rw [uI_n (by omega) (by omega)]; exact h k hk
    rintro tk x ⟨o, rfl, ho, g1, g2⟩
    refine ⟨fun h3 => ⟨⟨by omega, by omega⟩, ⟨s + 1, by omega, by omega, fun k hk => ?_⟩, by (try dsimp only); omega⟩, fun h3 => ?_⟩
    · by_cases e : k = s
      · rw [e, g2, show o = Sn b N by omega]
      · exact g1 k (by omega)
    · have no : tkl b N li s o = false → rng ((o : Int) + 1) ∧ (∃ o' : Nat, (o : Int) + 1 = o' ∧ o' ≤ Sn b N ∧ (∀ k, k < s → tk k = bs (tkl b N li k) (Sn b N)) ∧ tk s = bs (tkl b N li s) o') ∧ Sn b N - ((o : Int) + 1).toNat < Sn b N - (o : Int).toNat := fun e => ⟨⟨by omega, by omega⟩, ⟨o + 1, by omega, by omega, g1, by rw [bs_f e]; exact g2⟩, by omega⟩
      refine jn1_i ⟨fun h4 => no (decide_eq_false (by omega)), fun h4 => b_Mcommon h5 h6 (by omega) (by omega) ⟨fun h5 => no (decide_eq_false (by omega)), fun h5 => ⟨⟨by omega, by omega⟩, ⟨by omega, by omega⟩, ⟨by omega, by omega⟩, ⟨o + 1, by omega, by omega, fun k hk => ?_, ?_⟩, by (try dsimp only); omega⟩⟩⟩
      · rw [uI_n (by omega) (by omega)]; exact g1 k hk
      · rw [uI_e rfl, Int.toNat_natCast, g2, b_orb (bs_31 _ (by omega)) (by omega), bs_t (decide_eq_true (by omega))]
  · rcases hak with h7 | ⟨h7, h8⟩
    · exact absurd h7 h
    · rw [h7]; exact hq _ _ _ _ hst h8
theorem b_Munlike {S : Nat} {tk : Nat → Nat → Bool} {tl : Nat → Int} {set : Nat} {Q : Int → Prop} (hS : S ≤ 14) (hT : TkA S tk tl) (hs : set < 2 ^ 31) (hq : Q (bI (ap S tk set))) : wp_M_areUnlike tl S set Q := by
  unfold wp_M_areUnlike
  refine ⟨fun y => ∃ j : Nat, y = j ∧ j ≤ S ∧ ∀ s, s < j → set.testBit s = true → ∀ o, o < S → set.testBit o = true → tk s o = false, fun y => S - y.toNat, ⟨0, rfl, by omega, fun s h => by omega⟩, ?_⟩
  rintro y ⟨j, rfl, hj, h⟩
  refine ⟨fun h2 => qe hq (bI_yes ap_iff fun s hs => h s (by omega)), fun h2 => b_Mholds hs (by omega) (jn0_i ⟨fun h3 => ⟨⟨by omega, by omega⟩, ⟨j + 1, by omega, by omega, fun s hs2 hb => ?_⟩, by (try dsimp only); omega⟩, fun h3 => ⟨⟨by omega, by omega⟩, ?_⟩⟩)⟩
  · by_cases e : s = j
    · rw [e, bI_0 h3] at hb; cases hb
    · exact h s (by omega) hb
  · rw [Int.toNat_natCast, hT j (by omega), b_and (bs_31 _ (by omega))]
    refine ⟨fun h4 => ⟨⟨by omega, by omega⟩, ⟨j + 1, by omega, by omega, fun s hs2 hb o ho ho2 => ?_⟩, by (try dsimp only); omega⟩, fun h4 => qe hq (bI_not ap_iff fun hh => h4 ?_)⟩
    · by_cases e : s = j
      · subst e
        have h5 := and_bs.mp (show bs (tk s) S &&& set = 0 by omega) o ho
        cases h6 : tk s o
        · rfl
        · rw [h5 h6] at ho2; cases ho2
      · exact h s (by omega) hb o ho ho2
    · have : bs (tk j) S &&& set = 0 := and_bs.mpr fun o ho h6 => by
        cases h7 : set.testBit o
        · rfl
        · rw [hh j (by omega) (bI_1 h3) o ho h7] at h6; cases h6
      omega
theorem b_MmayBe {S : Nat} {le : Nat → Nat} {tk : Nat → Nat → Bool} {ln9 tl : Nat → Int} {mo bu set : Nat} {Q : Int → Prop} (hS : S ≤ 14) (hl : ln9 set = lS S le set) (hT : TkA S tk tl) (hs : set < 16384) (hq : Q (bI (may S le tk mo bu set))) : wp_M_mayBe ln9 tl S mo set bu Q := by
  unfold wp_M_mayBe
  rw [Int.toNat_natCast, hl]
  refine ⟨⟨by omega, by omega⟩, fun h => qe hq ?_, fun h => b_Mbits (by omega) ⟨fun h2 => qe hq ?_, fun h2 => b_Munlike hS hT (by omega) ⟨fun h3 => qe hq ?_, fun h3 => qe hq ?_⟩⟩⟩
  · exact bI_not may_iff fun hh => by omega
  · exact bI_not may_iff fun hh => by omega
  · refine bI_not may_iff fun hh => ?_
    have := ap_iff.mpr hh.2.2
    rw [bI_0 h3] at this
    cases this
  · exact bI_yes may_iff ⟨by omega, by omega, ap_iff.mp (bI_1 h3)⟩
theorem b_Mmay {S : Nat} {le : Nat → Nat} {tk : Nat → Nat → Bool} {ln9 tl : Nat → Int} {mo bu set : Nat} {Q : Int → Prop} (hS : S ≤ 14) (hl : ln9 set = lS S le set) (hT : TkA S tk tl) (hs : set < 16384) (hq : Q (bI (may S le tk mo bu set))) : wp_M_may ln9 tl S bu mo set Q := by
  unfold wp_M_may
  exact b_MmayBe hS hl hT hs ⟨bI_b _, hq⟩
/-! a larger set is worth as much or more -/
theorem sS_mono {S : Nat} {f : Nat → Nat} {x y : Nat} (h : ∀ i, i < S → x.testBit i = true → y.testBit i = true) : sS S f x ≤ sS S f y := by
  refine sm_le fun i hi => ?_
  cases e : x.testBit i
  · rw [if_neg Bool.false_ne_true]; omega
  · rw [h i hi e]; exact Nat.le_refl _
theorem wZ_mono {S I : Nat} {wt : Nat → Nat} {ta : Nat → Nat → Nat} {x y : Nat} (h : ∀ i, i < S → x.testBit i = true → y.testBit i = true) : wZ S I wt ta x ≤ wZ S I wt ta y :=
  sm_le fun k _ => Nat.mul_le_mul_left _ (tms_mono (sS_mono h))
theorem or_sub (x s : Nat) : ∀ i, x.testBit i = true → (x ||| 2 ^ s).testBit i = true := fun i h => by rw [tb_or1, h]; rfl
theorem or_same {x s : Nat} (h : x.testBit s = true) : x ||| 2 ^ s = x := by
  apply Nat.eq_of_testBit_eq
  intro i
  rw [tb_or1]
  by_cases e : s = i
  · rw [← e, h]; rfl
  · rw [decide_eq_false e, Bool.or_false]
/-! steps -/
def oI (o : Option Nat) : Int := match o with
  | none => -1
  | some p => (p : Int)
def bet (g lg o lo : Nat) : Bool := decide (o * lg < g * lo ∨ (g * lo = o * lg ∧ o < g))
def btr (wf le : Nat → Nat) (set s : Nat) (q : Option Nat) : Bool := match q with
  | none => true
  | some p => bet (wf (set ||| 2 ^ s) - wf set) (le s + 4) (wf (set ||| 2 ^ p) - wf set) (le p + 4)
def nxs (wf le : Nat → Nat) (my : Nat → Bool) (set : Nat) : Nat → Option Nat
  | 0 => none
  | s + 1 => if set.testBit s = false ∧ wf set < wf (set ||| 2 ^ s) ∧ my (set ||| 2 ^ s) = true ∧ btr wf le set s (nxs wf le my set s) = true then some s else nxs wf le my set s
theorem nxs_s (wf le : Nat → Nat) (my : Nat → Bool) (set s : Nat) : nxs wf le my set (s + 1) = if set.testBit s = false ∧ wf set < wf (set ||| 2 ^ s) ∧ my (set ||| 2 ^ s) = true ∧ btr wf le set s (nxs wf le my set s) = true then some s else nxs wf le my set s := rfl
theorem nxs_sp {wf le : Nat → Nat} {my : Nat → Bool} {set p : Nat} : ∀ {n : Nat}, nxs wf le my set n = some p → p < n ∧ set.testBit p = false ∧ my (set ||| 2 ^ p) = true
  | 0, h => by cases h
  | n + 1, h => by
    rw [nxs_s] at h
    split at h
    · rename_i hc
      cases h
      exact ⟨by omega, hc.1, hc.2.2.1⟩
    · have := nxs_sp h
      exact ⟨by omega, this.2⟩
theorem b_better {g lg o lo : Nat} {Q : Int → Prop} (h1 : g ≤ 1008) (h2 : o ≤ 1008) (h3 : lg ≤ 604) (h4 : lo ≤ 604) (hq : Q (bI (bet g lg o lo))) : wp_Sets_isBetterStep g lg o lo Q := by
  have m1 : g * lo ≤ 1008 * 604 := Nat.mul_le_mul h1 h4
  have m2 : o * lg ≤ 1008 * 604 := Nat.mul_le_mul h2 h3
  unfold wp_Sets_isBetterStep
  rw [← Int.natCast_mul, ← Int.natCast_mul]
  have hi : bet g lg o lo = true ↔ (o * lg < g * lo ∨ (g * lo = o * lg ∧ o < g)) := by unfold bet; rw [decide_eq_true_iff]
  refine ⟨⟨by omega, by omega⟩, ⟨by omega, by omega⟩, o * lg < g * lo ∨ (g * lo = o * lg ∧ o < g), fun h => qe hq (bI_yes hi h), fun h => .inl (by omega), fun h => ⟨fun h5 => qe hq (bI_not hi (by omega)), fun h5 => ⟨fun h6 => qe hq (bI_not hi (by omega)), fun h6 => .inr (by omega)⟩⟩⟩
theorem b_nextStep {S I : Nat} {wt le : Nat → Nat} {ta : Nat → Nat → Nat} {tk : Nat → Nat → Bool} {qw ss tl : Nat → Int} {tal9 : Nat → Int64} {mo bu set : Nat} {Q : Int → Prop} (hw : QwA I wt qw) (hT : TaA S ta tal9) (hL : LeA S le ss) (hK : TkA S tk tl) (hs : set < 2 ^ 14) (hq : Q (oI (nxs (wZ S I wt ta) le (may S le tk mo bu) set S))) : wp_Sets_nextStep ss qw tl S I bu mo tal9 set Q := by
  have hS := hL.1
  have wb := fun x => wZ_le (S := S) (ta := ta) hw x
  unfold wp_Sets_nextStep
  refine b_worthSet hS hw hT (by omega) ?_
  have w0 := wb set
  refine ⟨fun x2 x3 x4 => ∃ n : Nat, x4 = n ∧ n ≤ S ∧ x2 = oI (nxs (wZ S I wt ta) le (may S le tk mo bu) set n) ∧ (∀ p, nxs (wZ S I wt ta) le (may S le tk mo bu) set n = some p → x3 = ((wZ S I wt ta (set ||| 2 ^ p) - wZ S I wt ta set : Nat) : Int)), fun _ _ x4 => S - x4.toNat, ⟨0, rfl, by omega, rfl, fun p h => (by cases h)⟩, ?_⟩
  rintro x2 x3 x4 ⟨n, rfl, hn, rfl, hx3⟩
  refine ⟨fun h => qe hq (by rw [show n = S by omega]), fun h => ?_⟩
  have ho := or_31 hs (show n < 14 by omega)
  rw [b_orb (by omega) (by omega)]
  have hmono := wZ_mono (S := S) (I := I) (wt := wt) (ta := ta) (fun i _ => or_sub set n i)
  have w1 := wb (set ||| 2 ^ n)
  refine b_worthSet hS hw hT (by omega) ⟨⟨by omega, by omega⟩, ?_⟩
  rw [show ((wZ S I wt ta (set ||| 2 ^ n) : Nat) : Int) - ((wZ S I wt ta set : Nat) : Int) = ((wZ S I wt ta (set ||| 2 ^ n) - wZ S I wt ta set : Nat) : Int) by omega]
  have stay : ∀ y3 : Int, y3 = x3 → ¬ (set.testBit n = false ∧ wZ S I wt ta set < wZ S I wt ta (set ||| 2 ^ n) ∧ may S le tk mo bu (set ||| 2 ^ n) = true ∧ btr (wZ S I wt ta) le set n (nxs (wZ S I wt ta) le (may S le tk mo bu) set n) = true) → rng ((n : Int) + 1) ∧ (∃ n' : Nat, (n : Int) + 1 = n' ∧ n' ≤ S ∧ oI (nxs (wZ S I wt ta) le (may S le tk mo bu) set n) = oI (nxs (wZ S I wt ta) le (may S le tk mo bu) set n') ∧ (∀ p, nxs (wZ S I wt ta) le (may S le tk mo bu) set n' = some p → x3 = ((wZ S I wt ta (set ||| 2 ^ p) - wZ S I wt ta set : Nat) : Int))) ∧ S - ((n : Int) + 1).toNat < S - (n : Int).toNat := by
    intro y3 _ hc
    have e : nxs (wZ S I wt ta) le (may S le tk mo bu) set (n + 1) = nxs (wZ S I wt ta) le (may S le tk mo bu) set n := by rw [nxs_s, if_neg hc]
    exact ⟨⟨by omega, by omega⟩, ⟨n + 1, by omega, by omega, by rw [e], fun p hp => hx3 p (by rw [← e]; exact hp)⟩, by omega⟩
  have hgz : set.testBit n = true → wZ S I wt ta (set ||| 2 ^ n) - wZ S I wt ta set = 0 := fun h2 => by rw [or_same h2]; omega
  refine ⟨fun y => y = bI (btr (wZ S I wt ta) le set n (nxs (wZ S I wt ta) le (may S le tk mo bu) set n)), ?_, ?_⟩
  · rintro y rfl
    refine jn2_i ⟨fun h2 => stay _ rfl fun hc => by omega, fun h2 => ⟨fun h3 => stay _ rfl fun hc => ?_, fun h3 => b_mayBe hL hK (by omega) ⟨fun h4 => stay _ rfl fun hc => ?_, fun h4 => ?_⟩⟩⟩
    · rw [bI_0 h3] at hc; cases hc.2.2.2
    · rw [bI_0 h4] at hc; cases hc.2.2.1
    · have e : nxs (wZ S I wt ta) le (may S le tk mo bu) set (n + 1) = some n := by
        rw [nxs_s, if_pos]
        refine ⟨?_, by omega, bI_1 h4, bI_1 h3⟩
        cases e9 : set.testBit n
        · rfl
        · have := hgz e9; omega
      exact ⟨⟨by omega, by omega⟩, ⟨n + 1, by omega, by omega, by rw [e]; rfl, fun p hp => by rw [e] at hp; cases hp; rfl⟩, by (try dsimp only); omega⟩
  · have key : ∀ J2 : Int → Prop, J2 (bI (btr (wZ S I wt ta) le set n (nxs (wZ S I wt ta) le (may S le tk mo bu) set n))) → jn0 (fun J4 => (oI (nxs (wZ S I wt ta) le (may S le tk mo bu) set n) = -1 → J4) ∧ (¬ oI (nxs (wZ S I wt ta) le (may S le tk mo bu) set n) = -1 → wp_Page_lengthOf ss n (fun r10 => wp_Page_lengthOf ss (oI (nxs (wZ S I wt ta) le (may S le tk mo bu) set n)) (fun r11 => wp_Sets_isBetterStep ((wZ S I wt ta (set ||| 2 ^ n) - wZ S I wt ta set : Nat) : Int) r10 x3 r11 (fun r12 => (r12 = 0 → J2 0) ∧ (¬ r12 = 0 → J4)))))) (J2 1) := by
      intro J2 hJ
      cases hp : nxs (wZ S I wt ta) le (may S le tk mo bu) set n with
      | none =>
        rw [hp] at hJ
        exact jn0_i ⟨fun _ => hJ, fun h2 => absurd rfl h2⟩
      | some p =>
        have hpl := (nxs_sp hp).1
        have w2 := wb (set ||| 2 ^ p)
        have l1 := (hL.2 n (by omega)).2
        have l2 := (hL.2 p (by omega)).2
        rw [hp] at hJ
        rw [hx3 p hp]
        refine jn0_i ⟨fun h2 => ?_, fun h2 => b_lenOf hL (by omega) (b_lenOf (s := p) hL (by omega) (b_better (by omega) (by omega) (by omega) (by omega) ⟨fun h3 => ?_, fun h3 => ?_⟩))⟩
        · have h2 : (p : Int) = -1 := h2
          omega
        · have hb : btr (wZ S I wt ta) le set n (some p) = false := bI_0 h3
          rw [hb] at hJ; exact hJ
        · have hb : btr (wZ S I wt ta) le set n (some p) = true := bI_1 h3
          rw [hb] at hJ; exact hJ
    exact key (fun y => y = bI (btr (wZ S I wt ta) le set n (nxs (wZ S I wt ta) le (may S le tk mo bu) set n))) rfl
