/-! B13: sets of sentences, as the class weighs them -/
def sS (S : Nat) (f : Nat → Nat) (set : Nat) : Nat := sm (fun s => if set.testBit s then f s else 0) S
def wZ (S I : Nat) (wt : Nat → Nat) (ta : Nat → Nat → Nat) (set : Nat) : Nat := wth I wt (fun k => sS S (fun s => ta s k) set)
def lS (S : Nat) (le : Nat → Nat) (set : Nat) : Nat := sS S (fun s => le s + 4) set
def ap (S : Nat) (tk : Nat → Nat → Bool) (set : Nat) : Bool := decide (∀ s, s < S → set.testBit s = true → ∀ o, o < S → set.testBit o = true → tk s o = false)
def may (S : Nat) (le : Nat → Nat) (tk : Nat → Nat → Bool) (mo bu set : Nat) : Bool := decide (bc set ≤ mo) && decide (lS S le set ≤ bu) && ap S tk set
theorem ap_iff {S : Nat} {tk : Nat → Nat → Bool} {set : Nat} : ap S tk set = true ↔ ∀ s, s < S → set.testBit s = true → ∀ o, o < S → set.testBit o = true → tk s o = false := by
  unfold ap
  rw [decide_eq_true_iff]
theorem may_iff {S : Nat} {le : Nat → Nat} {tk : Nat → Nat → Bool} {mo bu set : Nat} : may S le tk mo bu set = true ↔ (bc set ≤ mo ∧ lS S le set ≤ bu ∧ ∀ s, s < S → set.testBit s = true → ∀ o, o < S → set.testBit o = true → tk s o = false) := by
  unfold may
  rw [Bool.and_eq_true, Bool.and_eq_true, decide_eq_true_iff, decide_eq_true_iff, ap_iff, and_assoc]
def TaA (S : Nat) (ta : Nat → Nat → Nat) (tl : Nat → Int64) : Prop := (∀ s, s < S → Tl (tl s) (ta s)) ∧ ∀ k, k < 8 → sm (fun s => ta s k) S ≤ 255
def LeA (S : Nat) (le : Nat → Nat) (ss : Nat → Int) : Prop := S ≤ 14 ∧ ∀ s, s < S → ss s = le s ∧ le s ≤ 600
def TkA (S : Nat) (tk : Nat → Nat → Bool) (tl : Nat → Int) : Prop := ∀ s, s < S → tl s = bs (tk s) S
theorem sS_le (S : Nat) (f : Nat → Nat) (set : Nat) : sS S f set ≤ sm f S := sm_le fun i _ => by split <;> omega
theorem lS_le {S : Nat} {le : Nat → Nat} {ss : Nat → Int} (h : LeA S le ss) (set : Nat) : lS S le set ≤ 14 * 604 := by
  refine Nat.le_trans (sm_bd (c := 604) fun i hi => ?_) (Nat.mul_le_mul_right 604 h.1)
  have := (h.2 i hi).2
  show (if set.testBit i then le i + 4 else 0) ≤ 604
  split <;> omega
theorem wZ_le {S I : Nat} {wt : Nat → Nat} {qw : Nat → Int} {ta : Nat → Nat → Nat} (h : QwA I wt qw) (set : Nat) : wZ S I wt ta set ≤ 1008 := by
  have h1 := wth_le (d := fun k => sS S (fun s => ta s k) set) h
  have h2 := h.1
  unfold wZ
  omega
theorem b_tallyOf {S : Nat} {ta : Nat → Nat → Nat} {tl : Nat → Int64} {set : Nat} {Q : Int64 → Prop} (hS : S ≤ 14) (hT : TaA S ta tl) (hs : set < 2 ^ 31) (hq : ∀ x, Tl x (fun k => sS S (fun s => ta s k) set) → Q x) : wp_Matches_tallyOf S tl set Q := by
  unfold wp_Matches_tallyOf
  refine ⟨fun x y => ∃ j : Nat, y = j ∧ j ≤ S ∧ Tl x (fun k => sS j (fun s => ta s k) set), fun _ y => S - y.toNat, ⟨0, rfl, by omega, Tl.zero⟩, ?_⟩
  rintro x y ⟨j, rfl, hj, hx⟩
  refine ⟨fun h => hq _ ?_, fun h => b_Has hs (by omega) (jn1_i ⟨fun h2 => ⟨⟨by omega, by omega⟩, ⟨j + 1, by omega, by omega, ?_⟩, by (try dsimp only); omega⟩, fun h2 => ⟨⟨by omega, by omega⟩, ⟨by omega, by omega⟩, ⟨j + 1, by omega, by omega, ?_⟩, by (try dsimp only); omega⟩⟩)⟩
  · rw [show j = S by omega] at hx; exact hx
  · refine (Tl.add hx Tl.zero fun k hk => ?_).congr fun k hk => ?_
    · have := hx.1 k hk; dsimp only at this ⊢; omega
    · unfold sS; rw [sm_s, bI_0 h2, if_neg Bool.false_ne_true]
  · rw [Int.toNat_natCast]
    refine (Tl.add hx (hT.1 j (by omega)) fun k hk => ?_).congr fun k hk => ?_
    · have h3 := hT.2 k hk
      have h4 := sm_mono (f := fun s => ta s k) (show j + 1 ≤ S by omega)
      have h5 := sS_le j (fun s => ta s k) set
      rw [sm_s] at h4
      omega
    · unfold sS; rw [sm_s, bI_1 h2, if_pos rfl]
theorem b_worthSet {S I : Nat} {wt : Nat → Nat} {ta : Nat → Nat → Nat} {qw : Nat → Int} {tl : Nat → Int64} {set : Nat} {Q : Int → Prop} (hS : S ≤ 14) (hw : QwA I wt qw) (hT : TaA S ta tl) (hs : set < 2 ^ 31) (hq : Q (wZ S I wt ta set)) : wp_Sets_worthOfSet qw S I tl set Q := b_tallyOf hS hT hs fun _ hx => b_worthOf hw hx hq
theorem b_lenOf {S : Nat} {le : Nat → Nat} {ss : Nat → Int} {s : Nat} {Q : Int → Prop} (h : LeA S le ss) (hs : s < S) (hq : Q ((le s + 4 : Nat) : Int)) : wp_Page_lengthOf ss s Q := by
  have h1 := h.2 s hs
  have h2 := h.1
  unfold wp_Page_lengthOf
  rw [Int.toNat_natCast, h1.1]
  exact ⟨⟨by omega, by omega⟩, ⟨by omega, by omega⟩, hq⟩
theorem b_lenSet {S : Nat} {le : Nat → Nat} {ss : Nat → Int} {set : Nat} {Q : Int → Prop} (h : LeA S le ss) (hs : set < 2 ^ 31) (hq : Q (lS S le set)) : wp_Sets_lengthOfSet ss S set Q := by
  have hS := h.1
  unfold wp_Sets_lengthOfSet
  refine ⟨fun x y => ∃ j : Nat, y = j ∧ j ≤ S ∧ x = (lS j le set : Nat), fun _ y => S - y.toNat, ⟨0, rfl, by omega, rfl⟩, ?_⟩
  rintro x y ⟨j, rfl, hj, rfl⟩
  have hb := lS_le (S := j) (le := le) (ss := ss) ⟨by omega, fun s hs => h.2 s (by omega)⟩ set
  have e : lS (j + 1) le set = lS j le set + (if set.testBit j then le j + 4 else 0) := rfl
  refine ⟨fun h2 => qe hq (by rw [show j = S by omega]), fun h2 => b_Has hs (by omega) (jn1_i ⟨fun h3 => ⟨⟨by omega, by omega⟩, ⟨by omega, by omega⟩, ⟨j + 1, by omega, by omega, ?_⟩, by (try dsimp only); omega⟩, fun h3 => b_lenOf h (by omega) ?_⟩)⟩
  · rw [e, bI_0 h3, if_neg Bool.false_ne_true]; omega
  · have h4 := (h.2 j (by omega)).2
    refine ⟨⟨by omega, by omega⟩, ⟨by omega, by omega⟩, ⟨j + 1, by omega, by omega, ?_⟩, by (try dsimp only); omega⟩
    rw [e, bI_1 h3, if_pos rfl]; omega
theorem and_bs {p : Nat → Bool} {n x : Nat} : bs p n &&& x = 0 ↔ ∀ i, i < n → p i = true → x.testBit i = false := by
  constructor
  · intro h i hi hp
    have : (bs p n &&& x).testBit i = false := by rw [h, Nat.zero_testBit]
    rw [Nat.testBit_and, bs_in hi, hp, Bool.true_and] at this
    exact this
  · intro h
    apply Nat.eq_of_testBit_eq
    intro i
    rw [Nat.zero_testBit, Nat.testBit_and, bs_bit]
    by_cases hi : i < n
    · rw [decide_eq_true hi, Bool.true_and]
      cases hp : p i
      · rfl
      · rw [h i hi hp]; rfl
    · rw [decide_eq_false hi]; rfl
theorem b_apart {S : Nat} {tk : Nat → Nat → Bool} {tl : Nat → Int} {set : Nat} {Q : Int → Prop} (hS : S ≤ 14) (hT : TkA S tk tl) (hs : set < 2 ^ 31) (hq : Q (bI (ap S tk set))) : wp_Search_areApart tl S set Q := by
  unfold wp_Search_areApart
  refine ⟨fun y => ∃ j : Nat, y = j ∧ j ≤ S ∧ ∀ s, s < j → set.testBit s = true → ∀ o, o < S → set.testBit o = true → tk s o = false, fun y => S - y.toNat, ⟨0, rfl, by omega, fun s h => by omega⟩, ?_⟩
  rintro y ⟨j, rfl, hj, h⟩
  refine ⟨fun h2 => qe hq (bI_yes ap_iff fun s hs => h s (by omega)), fun h2 => b_Has hs (by omega) (jn0_i ⟨fun h3 => ⟨⟨by omega, by omega⟩, ⟨j + 1, by omega, by omega, fun s hs2 hb => ?_⟩, by (try dsimp only); omega⟩, fun h3 => ⟨⟨by omega, by omega⟩, ?_⟩⟩)⟩
  · by_cases e : s = j
    · rw [e, bI_0 h3] at hb; cases hb
    · exact h s (by omega) hb
  · rw [Int.toNat_natCast, hT j (by omega), b_and (bs_31 _ (by omega))]
    refine ⟨fun h4 => ⟨⟨by omega, by omega⟩, ⟨j + 1, by omega, by omega, fun s hs2 hb o ho ho2 => ?_⟩, by (try dsimp only); omega⟩, fun h4 => qe hq (bI_not ap_iff fun hh => h4 ?_)⟩
    · by_cases e : s = j
      · subst e
        have h5 := and_bs.mp (show bs (tk s) S &&& set = 0 by omega) o ho
        cases h6 : tk s o
        · rfl
        · rw [h5 h6] at ho2; cases ho2
      · exact h s (by omega) hb o ho ho2
    · have : bs (tk j) S &&& set = 0 := and_bs.mpr fun o ho h6 => by
        cases h7 : set.testBit o
        · rfl
        · rw [hh j (by omega) (bI_1 h3) o ho h7] at h6; cases h6
      omega
theorem b_mayBe {S : Nat} {le : Nat → Nat} {tk : Nat → Nat → Bool} {ss tl : Nat → Int} {mo bu set : Nat} {Q : Int → Prop} (hL : LeA S le ss) (hT : TkA S tk tl) (hs : set < 2 ^ 30) (hq : Q (bI (may S le tk mo bu set))) : wp_Sets_mayBe ss tl S bu mo set Q := by
  unfold wp_Sets_mayBe
  refine b_bits hs ⟨fun h => qe hq ?_, fun h => b_lenSet hL (by omega) ⟨fun h2 => qe hq ?_, fun h2 => b_apart hL.1 hT (by omega) ⟨fun h3 => qe hq ?_, fun h3 => qe hq ?_⟩⟩⟩
  · exact bI_not may_iff fun hh => by omega
  · exact bI_not may_iff fun hh => by omega
  · refine bI_not may_iff fun hh => ?_
    have := ap_iff.mpr hh.2.2
    rw [bI_0 h3] at this
    cases this
  · exact bI_yes may_iff ⟨by omega, by omega, ap_iff.mp (bI_1 h3)⟩
theorem or_31 {a k : Nat} (ha : a < 2 ^ 14) (hk : k < 14) : a ||| 2 ^ k < 2 ^ 14 := Nat.or_lt_two_pow ha (Nat.pow_lt_pow_right (by omega) hk)
theorem b_mayJoin {S : Nat} {le : Nat → Nat} {tk : Nat → Nat → Bool} {ss tl : Nat → Int} {mo bu set s : Nat} {Q : Int → Prop} (hL : LeA S le ss) (hT : TkA S tk tl) (hs : set < 2 ^ 14) (hk : s < 14) (hq : Q (bI (!set.testBit s && may S le tk mo bu (set ||| 2 ^ s)))) : wp_Sets_mayJoin ss tl S bu mo set s Q := by
  have h1 := or_31 hs hk
  unfold wp_Sets_mayJoin
  refine b_Has (by omega) (by omega) ⟨fun h => qe hq ?_, fun h => ?_⟩
  · rw [bI_1 h]; rfl
  · rw [b_orb (by omega) (by omega)]
    rw [bI_0 h] at hq
    refine b_mayBe hL hT (by omega) ⟨fun h2 => qe hq ?_, fun h2 => qe hq ?_⟩
    · rw [bI_0 h2]; rfl
    · rw [bI_1 h2]; rfl
theorem b_gain {S I : Nat} {wt : Nat → Nat} {ta : Nat → Nat → Nat} {qw : Nat → Int} {tl : Nat → Int64} {set s : Nat} {Q : Int → Prop} (hS : S ≤ 14) (hw : QwA I wt qw) (hT : TaA S ta tl) (hs : set < 2 ^ 14) (hk : s < 14) (hq : Q ((wZ S I wt ta (set ||| 2 ^ s) : Int) - wZ S I wt ta set)) : wp_Sets_gain qw S I tl set s Q := by
  have h1 := or_31 hs hk
  have w1 := wZ_le (S := S) (ta := ta) hw (set ||| 2 ^ s)
  have w2 := wZ_le (S := S) (ta := ta) hw set
  unfold wp_Sets_gain
  rw [b_orb (by omega) (by omega)]
  exact b_worthSet hS hw hT (by omega) (b_worthSet hS hw hT (by omega) ⟨⟨by omega, by omega⟩, hq⟩)
/-! how much two sentences have in common -/
theorem cn_split (p : Nat → Bool) (m : Nat) : ∀ n, cn p (m + n) = cn p m + cn (fun i => p (i + m)) n
  | 0 => rfl
  | n + 1 => by
    rw [← Nat.add_assoc, cn_s, cn_split p m n, cn_s, Nat.add_comm n m]
    omega
theorem lko_idem {b : Nat → Int} {N w : Nat} : lko b N (lko b N w) = lko b N w := by
  have h1 := lko_le b N (lko b N w)
  have h2 := lko_alk b N w
  have h3 := lko_alk b N (lko b N w)
  rcases Nat.eq_or_lt_of_le h1 with e | e
  · exact e
  · exfalso
    have h4 : alk b N (lko b N (lko b N w)) w = true := alk_trans h3 h2
    have h5 : (lkf b N w (lko b N (lko b N w))) = true := sk_all (p := lkf b N w) (N := w) (i := 0) (Nat.zero_le _) e
    unfold lkf at h5
    rw [h4] at h5
    cases h5
theorem hw_like {b : Nat → Int} {N k i : Nat} (h : hw b N k i = true) : i < Wn b N ∧ lko b N i = i := by
  obtain ⟨v, hv, h2⟩ := ex_iff.mp h
  rw [Bool.and_eq_true, decide_eq_true_iff, decide_eq_true_iff] at h2
  have h3 := lko_le b N v
  refine ⟨by omega, ?_⟩
  rw [← h2.2]
  exact lko_idem
theorem hw_out {b : Nat → Int} {N k i : Nat} (h : Wn b N ≤ i) : hw b N k i = false := by
  cases e : hw b N k i
  · rfl
  · have := (hw_like e).1; omega
def uw (b : Nat → Int) (N k : Nat) : Nat := cn (hw b N k) (Wn b N)
theorem cn_128 {p : Nat → Bool} {W : Nat} (hW : W ≤ 100) (h : ∀ i, W ≤ i → p i = false) : cn p 64 + cn (fun i => p (i + 64)) 64 = cn p W := by
  rw [← cn_split p 64 64]
  exact cn_same (by omega) fun k h1 _ => h k h1
theorem td_n (a b : Nat) : Int.tdiv (a : Int) (b : Int) = ((a / b : Nat) : Int) := rfl
theorem b_unlike {b ws sf sw : Nat → Int} {lo hi : Nat → Int64} {N k : Nat} {Q : Int → Prop} (hP : PlA b N ws sf sw lo hi) (hk : k < Sn b N) (hq : Q (uw b N k)) : wp_Page_unlikeWords lo hi k Q := by
  have h14 := Sn_le b N
  have h100 : Wn b N ≤ 100 := by unfold Wn; omega
  have h1 := (hP.2 k hk).2.2
  have e := cn_128 (p := hw b N k) h100 (fun i hi => hw_out hi)
  have e1 : cn (lb (lo k)) 64 = cn (hw b N k) 64 := cn_congr fun i hi => (h1 i hi).1
  have e2 : cn (lb (hi k)) 64 = cn (fun i => hw b N k (i + 64)) 64 := cn_congr fun i hi => (h1 i hi).2
  have c1 := cn_le (hw b N k) (Wn b N)
  unfold wp_Page_unlikeWords
  rw [Int.toNat_natCast]
  refine ⟨⟨by omega, by omega⟩, b_lbits ⟨⟨by omega, by omega⟩, b_lbits ⟨⟨by omega, by omega⟩, qe hq ?_⟩⟩⟩
  unfold uw
  omega
def cmo (b : Nat → Int) (N s o : Nat) : Nat := if s = o then 100 else if cn (fun w => hw b N s w || hw b N o w) (Wn b N) = 0 then 0 else cn (fun w => hw b N s w && hw b N o w) (Wn b N) * 100 / cn (fun w => hw b N s w || hw b N o w) (Wn b N)
theorem cmo_symm (b : Nat → Int) (N s o : Nat) : cmo b N s o = cmo b N o s := by
  unfold cmo
  rw [show (fun w => hw b N s w || hw b N o w) = (fun w => hw b N o w || hw b N s w) from funext fun w => Bool.or_comm _ _, show (fun w => hw b N s w && hw b N o w) = (fun w => hw b N o w && hw b N s w) from funext fun w => Bool.and_comm _ _]
  by_cases e : s = o
  · rw [if_pos e, if_pos e.symm]
  · rw [if_neg e, if_neg (show ¬ o = s from fun h => e h.symm)]
theorem b_common {b ws sf sw : Nat → Int} {lo hi : Nat → Int64} {N s o : Nat} {Q : Int → Prop} (hP : PlA b N ws sf sw lo hi) (hs : s < Sn b N) (ho : o < Sn b N) (hq : Q (cmo b N s o)) : wp_Page_inCommon lo hi s o Q := by
  have h14 := Sn_le b N
  have h100 : Wn b N ≤ 100 := by unfold Wn; omega
  have h1 := (hP.2 s hs).2.2
  have h2 := (hP.2 o ho).2.2
  have ev : cn (fun w => hw b N s w && hw b N o w) 64 + cn (fun i => hw b N s (i + 64) && hw b N o (i + 64)) 64 = cn (fun w => hw b N s w && hw b N o w) (Wn b N) := cn_128 (p := fun w => hw b N s w && hw b N o w) h100 (fun i hi => by rw [hw_out hi]; rfl)
  have e1 : cn (lb (lo s &&& lo o)) 64 = cn (fun w => hw b N s w && hw b N o w) 64 := cn_congr fun i hi => by rw [lb_and, (h1 i hi).1, (h2 i hi).1]
  have e2 : cn (lb (hi s &&& hi o)) 64 = cn (fun i => hw b N s (i + 64) && hw b N o (i + 64)) 64 := cn_congr fun i hi => by rw [lb_and, (h1 i hi).2, (h2 i hi).2]
  have c1 := cn_le (hw b N s) (Wn b N)
  have c2 := cn_le (hw b N o) (Wn b N)
  have c3 := cn_le (fun w => hw b N s w && hw b N o w) (Wn b N)
  have c4 := cn_le (fun w => hw b N s w || hw b N o w) (Wn b N)
  have e3 := cn_or_and (hw b N s) (hw b N o) (Wn b N)
  unfold wp_Page_inCommon
  simp only [Int.toNat_natCast]
  refine ⟨fun h => ⟨⟨by omega, by omega⟩, ⟨by omega, by omega⟩, b_lbits ⟨⟨by omega, by omega⟩, ⟨by omega, by omega⟩, b_lbits ⟨⟨by omega, by omega⟩, b_unlike hP hs (b_unlike hP ho ?_)⟩⟩⟩, fun h => qe hq ?_⟩
  · have eb : ((cn (lb (lo s &&& lo o)) 64 : Nat) : Int) + ((cn (lb (hi s &&& hi o)) 64 : Nat) : Int) = ((cn (fun w => hw b N s w && hw b N o w) (Wn b N) : Nat) : Int) := by omega
    have ee : ((uw b N s : Nat) : Int) + ((uw b N o : Nat) : Int) - ((cn (fun w => hw b N s w && hw b N o w) (Wn b N) : Nat) : Int) = ((cn (fun w => hw b N s w || hw b N o w) (Wn b N) : Nat) : Int) := by unfold uw; omega
    rw [eb, ee]
    have hc : cmo b N s o = if cn (fun w => hw b N s w || hw b N o w) (Wn b N) = 0 then 0 else cn (fun w => hw b N s w && hw b N o w) (Wn b N) * 100 / cn (fun w => hw b N s w || hw b N o w) (Wn b N) := by
      unfold cmo; rw [if_neg (by omega)]
    have hu : rng (((uw b N s : Nat) : Int) + ((uw b N o : Nat) : Int)) := by unfold uw; exact ⟨by omega, by omega⟩
    generalize cn (fun w => hw b N s w || hw b N o w) (Wn b N) = any at *
    generalize cn (fun w => hw b N s w && hw b N o w) (Wn b N) = both at *
    refine ⟨hu, ⟨by omega, by omega⟩, fun h2 => ⟨⟨by omega, by omega⟩, ?_⟩, fun h2 => qe hq ?_⟩
    · rw [show (both : Int) * 100 = ((both * 100 : Nat) : Int) by omega, td_n]
      have hd : both * 100 / any ≤ both * 100 := Nat.div_le_self _ _
      rw [if_neg (by omega)] at hc
      generalize both * 100 / any = dv at *
      exact ⟨⟨h2, ⟨by omega, by omega⟩⟩, qe hq (by rw [hc])⟩
    · rw [hc, if_pos (by omega)]; rfl
  · unfold cmo; rw [if_pos (by omega)]; rfl
theorem cmo_le (b : Nat → Int) (N s o : Nat) : cmo b N s o ≤ 100 := by
  unfold cmo
  split
  · exact Nat.le_refl _
  · split
    · omega
    · have h1 : cn (fun w => hw b N s w && hw b N o w) (Wn b N) ≤ cn (fun w => hw b N s w || hw b N o w) (Wn b N) := cn_imp fun i _ h => by
        rw [Bool.and_eq_true] at h
        rw [h.1]; rfl
      exact Nat.div_le_of_le_mul (Nat.mul_le_mul_right 100 h1)
def tkl (b : Nat → Int) (N li s o : Nat) : Bool := decide (o ≠ s ∧ li < cmo b N s o)
theorem b_tooLike {b ws sf sw tk0 : Nat → Int} {lo hi : Nat → Int64} {N li : Nat} {Q : (Nat → Int) → Prop} (hP : PlA b N ws sf sw lo hi) (hq : ∀ tk', TkA (Sn b N) (tkl b N li) tk' → Q tk') : wp_Search_findTooLike tk0 (Sn b N) lo hi li Q := by
  have h14 := Sn_le b N
  unfold wp_Search_findTooLike
  refine ⟨fun tk x => ∃ s : Nat, x = s ∧ s ≤ Sn b N ∧ ∀ k, k < s → tk k = bs (tkl b N li k) (Sn b N), fun _ x => Sn b N - x.toNat, ⟨0, rfl, by omega, fun k h => by omega⟩, ?_⟩
  rintro tk x ⟨s, rfl, hs, h⟩
  refine ⟨fun h2 => hq _ fun k hk => h k (by omega), fun h2 => ⟨⟨by omega, by omega⟩, ?_⟩⟩
  refine ⟨fun tk x => ∃ o : Nat, x = o ∧ o ≤ Sn b N ∧ (∀ k, k < s → tk k = bs (tkl b N li k) (Sn b N)) ∧ tk s = bs (tkl b N li s) o, fun _ x => Sn b N - x.toNat, ⟨0, rfl, by omega, fun k hk => ?_, uI_e rfl⟩, ?_⟩
  · rw [uI_n (by omega) (by omega)]; exact h k hk
  rintro tk x ⟨o, rfl, ho, g1, g2⟩
  refine ⟨fun h3 => ⟨⟨by omega, by omega⟩, ⟨s + 1, by omega, by omega, fun k hk => ?_⟩, by (try dsimp only); omega⟩, fun h3 => ?_⟩
  · by_cases e : k = s
    · rw [e, g2, show o = Sn b N by omega]
    · exact g1 k (by omega)
  · have no : tkl b N li s o = false → rng ((o : Int) + 1) ∧ (∃ o' : Nat, (o : Int) + 1 = o' ∧ o' ≤ Sn b N ∧ (∀ k, k < s → tk k = bs (tkl b N li k) (Sn b N)) ∧ tk s = bs (tkl b N li s) o') ∧ Sn b N - ((o : Int) + 1).toNat < Sn b N - (o : Int).toNat := fun e => ⟨⟨by omega, by omega⟩, ⟨o + 1, by omega, by omega, g1, by rw [bs_f e]; exact g2⟩, by omega⟩
    refine jn1_i ⟨fun h4 => no (decide_eq_false (by omega)), fun h4 => b_common hP (by omega) (by omega) ⟨fun h5 => no (decide_eq_false (by omega)), fun h5 => ⟨⟨by omega, by omega⟩, ⟨by omega, by omega⟩, ⟨by omega, by omega⟩, ⟨o + 1, by omega, by omega, fun k hk => ?_, ?_⟩, by (try dsimp only); omega⟩⟩⟩
    · rw [uI_n (by omega) (by omega)]; exact g1 k hk
    · rw [uI_e rfl, Int.toNat_natCast, g2, b_orb (bs_31 _ (by omega)) (by omega), bs_t (decide_eq_true (by omega))]
def echo (b : Nat → Int) (N s : Nat) : Nat → Int × Nat
  | 0 => (-1, 0)
  | o + 1 => if o ≠ s ∧ (echo b N s o).2 < cmo b N s o then ((o : Int), cmo b N s o) else echo b N s o
theorem echo_b (b : Nat → Int) (N s : Nat) : ∀ o, (echo b N s o).2 ≤ 100
  | 0 => by show 0 ≤ 100; omega
  | o + 1 => by
    unfold echo
    split
    · exact cmo_le _ _ _ _
    · exact echo_b b N s o
theorem b_echo {b ws sf sw : Nat → Int} {lo hi : Nat → Int64} {N s : Nat} {Q : Int → Prop} (hP : PlA b N ws sf sw lo hi) (hs : s < Sn b N) (hq : Q (echo b N s (Sn b N)).1) : wp_Page_echo (Sn b N) lo hi s Q := by
  have h14 := Sn_le b N
  unfold wp_Page_echo
  refine ⟨fun x y z => ∃ o : Nat, z = o ∧ o ≤ Sn b N ∧ x = (echo b N s o).1 ∧ y = (echo b N s o).2, fun _ _ z => Sn b N - z.toNat, ⟨0, rfl, by omega, rfl, rfl⟩, ?_⟩
  rintro x y z ⟨o, rfl, ho, rfl, rfl⟩
  have hb := echo_b b N s o
  refine ⟨fun h => qe hq (by rw [show o = Sn b N by omega]), fun h => ?_⟩
  have hc := cmo_le b N s o
  have es : echo b N s (o + 1) = if o ≠ s ∧ (echo b N s o).2 < cmo b N s o then ((o : Int), cmo b N s o) else echo b N s o := rfl
  refine jn2_i ⟨fun h2 => ⟨⟨by omega, by omega⟩, ⟨o + 1, by omega, by omega, ?_, ?_⟩, by (try dsimp only); omega⟩, fun h2 => b_common hP hs (by omega) ⟨fun h3 => ⟨⟨by omega, by omega⟩, ⟨o + 1, by omega, by omega, ?_, ?_⟩, by (try dsimp only); omega⟩, fun h3 => b_common hP hs (by omega) ⟨⟨by omega, by omega⟩, ⟨o + 1, by omega, by omega, ?_, ?_⟩, by (try dsimp only); omega⟩⟩⟩
  · rw [es, if_neg (by omega)]
  · rw [es, if_neg (by omega)]
  · rw [es, if_neg (by omega)]
  · rw [es, if_neg (by omega)]
  · rw [es, if_pos (by omega)]
  · rw [es, if_pos (by omega)]
theorem b_unlikeAll {b al : Nat → Int} {N : Nat} {Q : Int → Prop} (hA : AlA b N al) (hq : Q (cn (fun w => decide (lko b N w = w)) (Wn b N) : Nat)) : wp_Page_unlikeOfAll al (Wn b N) Q := by
  have h100 : Wn b N ≤ 100 := by unfold Wn; omega
  unfold wp_Page_unlikeOfAll
  refine ⟨fun x y => ∃ w : Nat, y = w ∧ w ≤ Wn b N ∧ x = (cn (fun w => decide (lko b N w = w)) w : Nat), fun _ y => Wn b N - y.toNat, ⟨0, rfl, by omega, rfl⟩, ?_⟩
  rintro x y ⟨w, rfl, hw, rfl⟩
  have hc := cn_le (fun w => decide (lko b N w = w)) w
  refine ⟨fun h => qe hq (by rw [show w = Wn b N by omega]), fun h => ?_⟩
  rw [Int.toNat_natCast, hA w (by omega)]
  refine ⟨⟨by omega, by omega⟩, jn1_i ⟨fun h2 => ⟨⟨by omega, by omega⟩, ⟨w + 1, by omega, by omega, ?_⟩, by (try dsimp only); omega⟩, fun h2 => ⟨⟨by omega, by omega⟩, ⟨by omega, by omega⟩, ⟨w + 1, by omega, by omega, ?_⟩, by (try dsimp only); omega⟩⟩⟩
  · rw [cn_f (decide_eq_false (by omega))]
  · rw [cn_t (decide_eq_true (by omega))]; omega
