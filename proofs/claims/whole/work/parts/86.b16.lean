/-! B16: the steps, the greedy set -/
theorem b_MnextStep {S I : Nat} {wt le : Nat → Nat} {ta : Nat → Nat → Nat} {tk : Nat → Nat → Bool} {qw fr to wo ln9 tl : Nat → Int} {mo bu set : Nat} {Q : Int → Prop} (hw : QwA I wt qw) (hF : FtA S le fr to) (hSt : StA S I wt ta le wo ln9) (hK : TkA S tk tl) (hs : set < 2 ^ S) (hq : Q (oI (nxs (wZ S I wt ta) le (may S le tk mo bu) set S))) : wp_M_nextStep fr to wo ln9 tl S bu mo set Q := by
  have hS := hF.1
  have hP := p14 hS
  have wb := fun x => wZ_le (S := S) (ta := ta) hw x
  unfold wp_M_nextStep
  refine ⟨fun x1 x2 => ∃ n : Nat, x2 = n ∧ n ≤ S ∧ x1 = oI (nxs (wZ S I wt ta) le (may S le tk mo bu) set n), fun _ x2 => S - x2.toNat, ⟨0, rfl, by omega, rfl⟩, ?_⟩
  rintro x1 x2 ⟨n, rfl, hn, rfl⟩
  refine ⟨fun h => qe hq (by rw [show n = S by omega]), fun h => b_Mholds (by omega) (by omega) ?_⟩
  have ho2 : ∀ p, p < S → set ||| 2 ^ p < 2 ^ S := fun p hp => Nat.or_lt_two_pow hs (Nat.pow_lt_pow_right (by omega) hp)
  have ho := ho2 n (by omega)
  have orb : ∀ p, p < S → iOr (set : Int) (iShl 1 (p : Int)) = ((set ||| 2 ^ p : Nat) : Int) := fun p hp => b_orb (by omega) (by omega)
  rw [orb n (by omega)]
  simp only [Int.toNat_natCast]
  rw [(hSt _ ho).1, (hSt _ hs).1]
  have hmono := wZ_mono (S := S) (I := I) (wt := wt) (ta := ta) (fun i _ => or_sub set n i)
  have w0 := wb set
  have w1 := wb (set ||| 2 ^ n)
  have stay : ¬ (set.testBit n = false ∧ wZ S I wt ta set < wZ S I wt ta (set ||| 2 ^ n) ∧ may S le tk mo bu (set ||| 2 ^ n) = true ∧ btr (wZ S I wt ta) le set n (nxs (wZ S I wt ta) le (may S le tk mo bu) set n) = true) → rng ((n : Int) + 1) ∧ (∃ n' : Nat, (n : Int) + 1 = n' ∧ n' ≤ S ∧ oI (nxs (wZ S I wt ta) le (may S le tk mo bu) set n) = oI (nxs (wZ S I wt ta) le (may S le tk mo bu) set n')) ∧ S - ((n : Int) + 1).toNat < S - (n : Int).toNat := by
    intro hc
    have e : nxs (wZ S I wt ta) le (may S le tk mo bu) set (n + 1) = nxs (wZ S I wt ta) le (may S le tk mo bu) set n := by rw [nxs_s, if_neg hc]
    exact ⟨⟨by omega, by omega⟩, ⟨n + 1, by omega, by omega, by rw [e]⟩, by omega⟩
  refine jn1_i ⟨fun h2 => stay fun hc => ?_, fun h2 => b_Mmay hS (hSt _ ho).2 hK (by omega) ⟨fun h3 => ?_, fun h3 => stay fun hc => ?_⟩⟩
  · rw [bI_1 h2] at hc; cases hc.1
  · have f1 := hF.2 n (by omega)
    rw [show ((wZ S I wt ta (set ||| 2 ^ n) : Nat) : Int) - ((wZ S I wt ta set : Nat) : Int) = ((wZ S I wt ta (set ||| 2 ^ n) - wZ S I wt ta set : Nat) : Int) by omega, f1.1, show (le n : Int) + 4 = ((le n + 4 : Nat) : Int) by omega]
    refine ⟨⟨by omega, by omega⟩, ⟨by omega, by omega⟩, ⟨by omega, by omega⟩, ⟨by omega, by omega⟩, ⟨by omega, by omega⟩, ⟨by omega, by omega⟩, ⟨by omega, by omega⟩, fun h4 => ?_, fun h4 => stay fun hc => by omega⟩
    have yes : btr (wZ S I wt ta) le set n (nxs (wZ S I wt ta) le (may S le tk mo bu) set n) = true → rng ((n : Int) + 1) ∧ (∃ n' : Nat, (n : Int) + 1 = n' ∧ n' ≤ S ∧ (n : Int) = oI (nxs (wZ S I wt ta) le (may S le tk mo bu) set n')) ∧ S - ((n : Int) + 1).toNat < S - (n : Int).toNat := by
      intro hc
      have e : nxs (wZ S I wt ta) le (may S le tk mo bu) set (n + 1) = some n := by
        rw [nxs_s, if_pos ⟨bI_0 h2, by omega, bI_1 h3, hc⟩]
      exact ⟨⟨by omega, by omega⟩, ⟨n + 1, by omega, by omega, by rw [e]; rfl⟩, by omega⟩
    cases hp : nxs (wZ S I wt ta) le (may S le tk mo bu) set n with
    | none =>
      rw [hp] at yes
      exact jn0_i ⟨fun _ => yes rfl, fun h5 => absurd rfl h5⟩
    | some p =>
      have hpl := (nxs_sp hp).1
      rw [hp] at yes stay
      have hop := ho2 p (by omega)
      have w2 := wb (set ||| 2 ^ p)
      have hmp := wZ_mono (S := S) (I := I) (wt := wt) (ta := ta) (fun i _ => or_sub set p i)
      have f2 := hF.2 p (by omega)
      have m1 : (wZ S I wt ta (set ||| 2 ^ n) - wZ S I wt ta set) * (le p + 4) ≤ 1008 * 604 := Nat.mul_le_mul (by omega) (by omega)
      have m2 : (wZ S I wt ta (set ||| 2 ^ p) - wZ S I wt ta set) * (le n + 4) ≤ 1008 * 604 := Nat.mul_le_mul (by omega) (by omega)
      show jn0 (fun J3 => ((p : Int) = -1 → J3) ∧ (¬ (p : Int) = -1 → _)) _
      show jn0 _ _
      rw [show oI (some p) = (p : Int) from rfl] at *
      rw [orb p (by omega)]
      simp only [Int.toNat_natCast]
      rw [(hSt _ hop).1, show ((wZ S I wt ta (set ||| 2 ^ p) : Nat) : Int) - ((wZ S I wt ta set : Nat) : Int) = ((wZ S I wt ta (set ||| 2 ^ p) - wZ S I wt ta set : Nat) : Int) by omega, f2.1, show (le p : Int) + 4 = ((le p + 4 : Nat) : Int) by omega, ← Int.natCast_mul, ← Int.natCast_mul]
      have hi : btr (wZ S I wt ta) le set n (some p) = true ↔ ((wZ S I wt ta (set ||| 2 ^ p) - wZ S I wt ta set) * (le n + 4) < (wZ S I wt ta (set ||| 2 ^ n) - wZ S I wt ta set) * (le p + 4) ∨ ((wZ S I wt ta (set ||| 2 ^ n) - wZ S I wt ta set) * (le p + 4) = (wZ S I wt ta (set ||| 2 ^ p) - wZ S I wt ta set) * (le n + 4) ∧ wZ S I wt ta (set ||| 2 ^ p) - wZ S I wt ta set < wZ S I wt ta (set ||| 2 ^ n) - wZ S I wt ta set)) := by
        show bet _ _ _ _ = true ↔ _
        unfold bet; rw [decide_eq_true_iff]
      refine jn0_i ⟨fun h5 => by omega, fun h5 => ⟨⟨by omega, by omega⟩, ⟨by omega, by omega⟩, ⟨by omega, by omega⟩, ⟨by omega, by omega⟩, ⟨by omega, by omega⟩, ⟨by omega, by omega⟩, ⟨by omega, by omega⟩, ⟨by omega, by omega⟩, ⟨by omega, by omega⟩, ⟨by omega, by omega⟩, fun h6 => stay fun hc => ?_, fun h6 => ⟨fun h7 => yes (hi.mpr ?_), fun h7 => ⟨fun h8 => yes (hi.mpr ?_), fun h8 => stay fun hc => ?_⟩⟩⟩⟩
      · have := hi.mp hc.2.2.2; omega
      · omega
      · omega
      · have := hi.mp hc.2.2.2; omega
  · rw [bI_0 h3] at hc; cases hc.2.2.1
/-- the sets of the steps -/
def gst (nx : Nat → Option Nat) : Nat → Nat
  | 0 => 0
  | k + 1 => match nx (gst nx k) with
    | none => gst nx k
    | some p => gst nx k ||| 2 ^ p
def gsk (nx : Nat → Option Nat) (k : Nat) : Bool := (nx (gst nx k)).isSome
def gK (nx : Nat → Option Nat) : Nat := sk (gsk nx) 6 0
theorem gst_n {nx : Nat → Option Nat} {k : Nat} {p : Nat} (h : nx (gst nx k) = some p) : gst nx (k + 1) = gst nx k ||| 2 ^ p := by
  show (match nx (gst nx k) with
    | none => gst nx k
    | some p => gst nx k ||| 2 ^ p) = _
  rw [h]
theorem bc_or {x p : Nat} (h : x.testBit p = false) (hp : p < 31) : bc (x ||| 2 ^ p) = bc x + 1 := by
  refine cn_upd (w := p) h ?_ hp fun i _ hi => ?_
  · rw [tb_or1]; simp
  · rw [tb_or1, decide_eq_false (fun e => hi e.symm), Bool.or_false]
def nX (S I : Nat) (wt le : Nat → Nat) (ta : Nat → Nat → Nat) (tk : Nat → Nat → Bool) (mo bu : Nat) : Nat → Option Nat := fun set => nxs (wZ S I wt ta) le (may S le tk mo bu) set S
theorem gst_lt {S I : Nat} {wt le : Nat → Nat} {ta : Nat → Nat → Nat} {tk : Nat → Nat → Bool} {mo bu : Nat} : ∀ k, gst (nX S I wt le ta tk mo bu) k < 2 ^ S
  | 0 => Nat.two_pow_pos S
  | k + 1 => by
    have ih := gst_lt (S := S) (I := I) (wt := wt) (le := le) (ta := ta) (tk := tk) (mo := mo) (bu := bu) k
    cases h : nX S I wt le ta tk mo bu (gst (nX S I wt le ta tk mo bu) k) with
    | none =>
      show (match nX S I wt le ta tk mo bu (gst (nX S I wt le ta tk mo bu) k) with
        | none => gst (nX S I wt le ta tk mo bu) k
        | some p => gst (nX S I wt le ta tk mo bu) k ||| 2 ^ p) < _
      rw [h]; exact ih
    | some p =>
      rw [gst_n h]
      exact Nat.or_lt_two_pow ih (Nat.pow_lt_pow_right (by omega) (nxs_sp h).1)
theorem gst_bc {S I : Nat} {wt le : Nat → Nat} {ta : Nat → Nat → Nat} {tk : Nat → Nat → Bool} {mo bu : Nat} (hS : S ≤ 14) : ∀ k, (∀ j, j < k → gsk (nX S I wt le ta tk mo bu) j = true) → bc (gst (nX S I wt le ta tk mo bu) k) = k
  | 0, _ => cn_zero fun i _ => Nat.zero_testBit i
  | k + 1, h => by
    have ih := gst_bc hS k (fun j hj => h j (by omega))
    have hk := h k (by omega)
    cases hn : nX S I wt le ta tk mo bu (gst (nX S I wt le ta tk mo bu) k) with
    | none => unfold gsk at hk; rw [hn] at hk; cases hk
    | some p =>
      have hsp := nxs_sp hn
      rw [gst_n hn, bc_or hsp.2.1 (by omega), ih]
theorem gK_le (nx : Nat → Option Nat) : gK nx ≤ 6 := sk_le (Nat.zero_le _)
theorem gK_none {S I : Nat} {wt le : Nat → Nat} {ta : Nat → Nat → Nat} {tk : Nat → Nat → Bool} {mo bu : Nat} (hS : S ≤ 14) (hm : mo ≤ 6) : nX S I wt le ta tk mo bu (gst (nX S I wt le ta tk mo bu) (gK (nX S I wt le ta tk mo bu))) = none := by
  have hle := gK_le (nX S I wt le ta tk mo bu)
  cases hn : nX S I wt le ta tk mo bu (gst (nX S I wt le ta tk mo bu) (gK (nX S I wt le ta tk mo bu))) with
  | none => rfl
  | some p =>
    exfalso
    rcases Nat.lt_or_ge (gK (nX S I wt le ta tk mo bu)) 6 with e | e
    · have h1 : gsk (nX S I wt le ta tk mo bu) (gK (nX S I wt le ta tk mo bu)) = false := sk_not (p := gsk (nX S I wt le ta tk mo bu)) e
      unfold gsk at h1
      rw [hn] at h1
      cases h1
    · have hsp := nxs_sp hn
      have h1 := gst_bc (I := I) (wt := wt) (le := le) (ta := ta) (tk := tk) (mo := mo) (bu := bu) hS (gK (nX S I wt le ta tk mo bu)) fun j hj => sk_all (p := gsk (nX S I wt le ta tk mo bu)) (N := 6) (i := 0) (Nat.zero_le _) hj
      have h2 := bc_or hsp.2.1 (show p < 31 by omega)
      have h3 := (may_iff.mp hsp.2.2).1
      omega
theorem b_steps {S I : Nat} {wt le : Nat → Nat} {ta : Nat → Nat → Nat} {tk : Nat → Nat → Bool} {qw ss tl sp : Nat → Int} {tal9 : Nat → Int64} {z : Int} {mo bu : Nat} {Q : Int → (Nat → Int) → Int → Prop} (hw : QwA I wt qw) (hT : TaA S ta tal9) (hL : LeA S le ss) (hK : TkA S tk tl)
    (hq : ∀ sp', (∀ k, k < gK (nX S I wt le ta tk mo bu) → sp' k = oI (nX S I wt le ta tk mo bu (gst (nX S I wt le ta tk mo bu) k))) → Q (gst (nX S I wt le ta tk mo bu) (gK (nX S I wt le ta tk mo bu)) : Nat) sp' (gK (nX S I wt le ta tk mo bu) : Nat)) : wp_Sets_makeSteps ss qw sp tl S I bu mo z tal9 Q := by
  have hS := hL.1
  have hP := p14 hS
  unfold wp_Sets_makeSteps
  refine ⟨fun sp c x3 x4 => ∃ k : Nat, x4 = k ∧ c = k ∧ k ≤ 6 ∧ x3 = (gst (nX S I wt le ta tk mo bu) k : Nat) ∧ sk (gsk (nX S I wt le ta tk mo bu)) 6 k = gK (nX S I wt le ta tk mo bu) ∧ ∀ j, j < k → sp j = oI (nX S I wt le ta tk mo bu (gst (nX S I wt le ta tk mo bu) j)), fun _ _ _ x4 => 6 - x4.toNat, ⟨0, rfl, rfl, by omega, rfl, rfl, fun j h => by omega⟩, ?_⟩
  rintro sp c x3 x4 ⟨k, rfl, rfl, hk, rfl, hsk, hsp⟩
  have hlt := gst_lt (S := S) (I := I) (wt := wt) (le := le) (ta := ta) (tk := tk) (mo := mo) (bu := bu) k
  refine ⟨fun h => ?_, fun h => b_nextStep hw hT hL hK (by omega) ⟨fun h2 => ?_, fun h2 => ?_⟩⟩
  · rw [sk_end (by omega)] at hsk
    have := hq sp (by rw [← hsk]; exact hsp)
    rw [← hsk] at this
    exact this
  · cases hn : nX S I wt le ta tk mo bu (gst (nX S I wt le ta tk mo bu) k) with
    | none =>
      exfalso
      have hn2 : nxs (wZ S I wt ta) le (may S le tk mo bu) (gst (nX S I wt le ta tk mo bu) k) S = none := hn
      exact h2 (by rw [hn2]; rfl)
    | some p =>
      have hn2 : nxs (wZ S I wt ta) le (may S le tk mo bu) (gst (nX S I wt le ta tk mo bu) k) S = some p := hn
      have hpl := (nxs_sp hn).1
      rw [hn2]
      rw [show oI (some p) = (p : Int) from rfl, b_orb (by omega) (by omega)]
      refine ⟨⟨by omega, by omega⟩, ⟨by omega, by omega⟩, ⟨by omega, by omega⟩, ⟨k + 1, by omega, by omega, by omega, by rw [gst_n hn], ?_, fun j hj => ?_⟩, by (try dsimp only); omega⟩
      · rw [← hsk, sk_step (i := k) (by omega)]
        unfold gsk; rw [hn]; rfl
      · by_cases e : j = k
        · rw [uI_e (by omega), e, hn]; rfl
        · rw [uI_n (by omega) (by omega)]; exact hsp j (by omega)
  · cases hn : nX S I wt le ta tk mo bu (gst (nX S I wt le ta tk mo bu) k) with
    | none =>
      rw [sk_stop (show gsk (nX S I wt le ta tk mo bu) k = false by unfold gsk; rw [hn]; rfl)] at hsk
      have := hq sp (by rw [← hsk]; exact hsp)
      rw [← hsk] at this
      exact this
    | some p =>
      have hn2 : nxs (wZ S I wt ta) le (may S le tk mo bu) (gst (nX S I wt le ta tk mo bu) k) S = some p := hn
      rw [hn2] at h2
      have h2 : (p : Int) = -1 := h2
      omega
/-- the greedy set -/
def gfo (wf : Nat → Nat) (my : Nat → Bool) (set0 : Nat) : Nat → Nat
  | 0 => set0
  | s + 1 => if wf (gfo wf my set0 s) < wf (2 ^ s) ∧ my (2 ^ s) = true then 2 ^ s else gfo wf my set0 s
theorem gfo_s (wf : Nat → Nat) (my : Nat → Bool) (set0 s : Nat) : gfo wf my set0 (s + 1) = if wf (gfo wf my set0 s) < wf (2 ^ s) ∧ my (2 ^ s) = true then 2 ^ s else gfo wf my set0 s := rfl
theorem gfo_lt {wf : Nat → Nat} {my : Nat → Bool} {set0 S : Nat} (h : set0 < 2 ^ S) : ∀ s, s ≤ S → gfo wf my set0 s < 2 ^ S
  | 0, _ => h
  | s + 1, hs => by
    rw [gfo_s]
    split
    · exact Nat.pow_lt_pow_right (by omega) (by omega)
    · exact gfo_lt h s (by omega)
def grd (S I : Nat) (wt le : Nat → Nat) (ta : Nat → Nat → Nat) (tk : Nat → Nat → Bool) (mo bu : Nat) : Nat := gfo (wZ S I wt ta) (may S le tk mo bu) (gst (nX S I wt le ta tk mo bu) (gK (nX S I wt le ta tk mo bu))) S
theorem grd_lt {S I : Nat} {wt le : Nat → Nat} {ta : Nat → Nat → Nat} {tk : Nat → Nat → Bool} {mo bu : Nat} : grd S I wt le ta tk mo bu < 2 ^ S := gfo_lt (gst_lt _) S (Nat.le_refl _)
theorem b_greedy {S I : Nat} {wt le : Nat → Nat} {ta : Nat → Nat → Nat} {tk : Nat → Nat → Bool} {qw ss tl sp : Nat → Int} {tal9 : Nat → Int64} {z : Int} {mo bu : Nat} {Q : Int → (Nat → Int) → Int → Prop} (hw : QwA I wt qw) (hT : TaA S ta tal9) (hL : LeA S le ss) (hK : TkA S tk tl)
    (hq : ∀ sp', Q (grd S I wt le ta tk mo bu : Nat) sp' (gK (nX S I wt le ta tk mo bu) : Nat)) : wp_Sets_greedySet ss qw sp tl S I bu mo z tal9 Q := by
  have hS := hL.1
  have hP := p14 hS
  unfold wp_Sets_greedySet
  refine b_steps hw hT hL hK fun sp' hsp => ?_
  have hlt := gst_lt (S := S) (I := I) (wt := wt) (le := le) (ta := ta) (tk := tk) (mo := mo) (bu := bu) (gK (nX S I wt le ta tk mo bu))
  have hq2 : Q (gfo (wZ S I wt ta) (may S le tk mo bu) (gst (nX S I wt le ta tk mo bu) (gK (nX S I wt le ta tk mo bu))) S : Nat) sp' (gK (nX S I wt le ta tk mo bu) : Nat) := hq sp'
  generalize gst (nX S I wt le ta tk mo bu) (gK (nX S I wt le ta tk mo bu)) = set0 at *
  refine b_worthSet hS hw hT (by omega) ?_
  refine ⟨fun x5 x6 x7 => ∃ n : Nat, x7 = n ∧ n ≤ S ∧ x5 = (gfo (wZ S I wt ta) (may S le tk mo bu) set0 n : Nat) ∧ x6 = (wZ S I wt ta (gfo (wZ S I wt ta) (may S le tk mo bu) set0 n) : Nat), fun _ _ x7 => S - x7.toNat, ⟨0, rfl, by omega, rfl, rfl⟩, ?_⟩
  rintro x5 x6 x7 ⟨n, rfl, hn, rfl, rfl⟩
  have hgl := gfo_lt (wf := wZ S I wt ta) (my := may S le tk mo bu) hlt n hn
  have e := gfo_s (wZ S I wt ta) (may S le tk mo bu) set0 n
  refine ⟨fun h => ?_, fun h => ?_⟩
  · rw [show n = S by omega]; exact hq2
  · have hp2 : 2 ^ n < 2 ^ S := Nat.pow_lt_pow_right (by omega) (by omega)
    rw [b_shl1 (by omega)]
    refine b_worthSet hS hw hT (by omega) (jn2_i ⟨fun h2 => ⟨⟨by omega, by omega⟩, ⟨n + 1, by omega, by omega, ?_, ?_⟩, by (try dsimp only); omega⟩, fun h2 => b_mayBe hL hK (by omega) ⟨fun h3 => ⟨⟨by omega, by omega⟩, ⟨n + 1, by omega, by omega, ?_, ?_⟩, by (try dsimp only); omega⟩, fun h3 => b_worthSet hS hw hT (by omega) ⟨⟨by omega, by omega⟩, ⟨n + 1, by omega, by omega, ?_, ?_⟩, by (try dsimp only); omega⟩⟩⟩)
    · rw [e, if_neg (by omega)]
    · rw [e, if_neg (by omega)]
    · rw [e, if_neg (by rw [bI_0 h3]; intro h; cases h.2)]
    · rw [e, if_neg (by rw [bI_0 h3]; intro h; cases h.2)]
    · rw [e, if_pos ⟨by omega, bI_1 h3⟩]
    · rw [e, if_pos ⟨by omega, bI_1 h3⟩]
