/-! B14: sets as the reference lays them -/
theorem cn_nt (p P : Nat → Bool) (L : Nat) : ∀ n, n ≤ L → cn (fun m => P (nt p L m)) (cn p n) = cn (fun q => p q && P q) n
  | 0, _ => rfl
  | n + 1, h => by
    cases hp : p n
    · rw [cn_f hp, cn_nt p P L n (by omega)]
      refine (cn_f ?_).symm
      rw [hp]; rfl
    · rw [cn_t hp]
      show cn (fun m => P (nt p L m)) (cn p n) + (if P (nt p L (cn p n)) then 1 else 0) = cn (fun q => p q && P q) n + (if (p n && P n) then 1 else 0)
      rw [cn_nt p P L n (by omega), nt_cn hp (by omega), hp, Bool.true_and]
theorem cn_item {I k : Nat} {R : Nat → Nat → Bool} (X : Nat → Bool) (hk : k < I) (hI : I ≤ 8) : ∀ W, cn (fun q => mpq I R q && (decide (q % 8 = k) && X (q / 8))) (8 * W) = cn (fun v => X v && R k v) W
  | 0 => rfl
  | W + 1 => by
    have h1 : cn (fun q => mpq I R q && (decide (q % 8 = k) && X (q / 8))) (8 * W + k) = cn (fun q => mpq I R q && (decide (q % 8 = k) && X (q / 8))) (8 * W) := cn_same (by omega) fun q h1 h2 => by
      rw [decide_eq_false (by omega), Bool.false_and, Bool.and_false]
    have h2 : cn (fun q => mpq I R q && (decide (q % 8 = k) && X (q / 8))) (8 * (W + 1)) = cn (fun q => mpq I R q && (decide (q % 8 = k) && X (q / 8))) (8 * W + k + 1) := cn_same (by omega) fun q h1 h2 => by
      rw [decide_eq_false (by omega), Bool.false_and, Bool.and_false]
    rw [h2, cn_s, h1, cn_item X hk hI W, cn_s, mpq_at (by omega), show (8 * W + k) % 8 = k by omega, show (8 * W + k) / 8 = W by omega, decide_eq_true hk, decide_eq_true (show k = k from rfl), Bool.true_and, Bool.true_and, Bool.and_comm]
def M0 (W I : Nat) (R : Nat → Nat → Bool) : Nat := cn (mpq I R) (8 * W)
def mIt (W I : Nat) (R : Nat → Nat → Bool) (m : Nat) : Nat := nt (mpq I R) (8 * W) m % 8
def mFi (W I : Nat) (R : Nat → Nat → Bool) (m : Nat) : Nat := nt (mpq I R) (8 * W) m / 8
theorem m_in {W I : Nat} {R : Nat → Nat → Bool} {m : Nat} (h : m < M0 W I R) : mIt W I R m < I ∧ mFi W I R m < W ∧ R (mIt W I R m) (mFi W I R m) = true := by
  have g := nt_spec h
  have g2 := g.2.1
  unfold mpq at g2
  rw [Bool.and_eq_true, decide_eq_true_iff] at g2
  exact ⟨g2.1, by unfold mFi; omega, g2.2⟩
theorem m_cnt {W I k : Nat} {R : Nat → Nat → Bool} (X : Nat → Bool) (hk : k < I) (hI : I ≤ 8) : cn (fun m => decide (mIt W I R m = k) && X (mFi W I R m)) (M0 W I R) = cn (fun v => X v && R k v) W := by
  rw [← cn_item X hk hI W]
  exact cn_nt (mpq I R) (fun q => decide (q % 8 = k) && X (q / 8)) (8 * W) (8 * W) (Nat.le_refl _)
theorem m_ex {W I k v : Nat} {R : Nat → Nat → Bool} (hk : k < I) (hI : I ≤ 8) (hv : v < W) (h : R k v = true) : ∃ m, m < M0 W I R ∧ mIt W I R m = k ∧ mFi W I R m = v := by
  have hp : mpq I R (8 * v + k) = true := by rw [mpq_at (by omega), decide_eq_true hk, h]; rfl
  refine ⟨cn (mpq I R) (8 * v + k), cn_lt hp (by omega), ?_, ?_⟩
  · unfold mIt; rw [nt_cn hp (by omega)]; omega
  · unfold mFi; rw [nt_cn hp (by omega)]; omega
theorem M0_le (W I : Nat) (R : Nat → Nat → Bool) : M0 W I R ≤ 8 * W := cn_le _ _
/-- matches by sentence and item -/
def tal (W I : Nat) (sq : Nat → Nat) (R : Nat → Nat → Bool) (s k : Nat) : Nat := if k < I then tlR W sq R s k else 0
theorem tl_sum (W : Nat) (sq : Nat → Nat) (R : Nat → Nat → Bool) (k : Nat) : ∀ n, sm (fun s => tlR W sq R s k) n = cn (fun v => decide (sq v < n) && R k v) W
  | 0 => by
    symm
    exact cn_zero fun v _ => by rw [decide_eq_false (by omega), Bool.false_and]
  | n + 1 => by
    rw [sm_s, tl_sum W sq R k n]
    have h := cn_or_and (fun v => decide (sq v < n) && R k v) (fun v => decide (sq v = n) && R k v) W
    have e0 : cn (fun v => (decide (sq v < n) && R k v) && (decide (sq v = n) && R k v)) W = 0 := cn_zero fun v _ => by
      by_cases e : sq v = n
      · rw [decide_eq_false (show ¬ sq v < n by omega)]; rfl
      · rw [decide_eq_false e, Bool.false_and, Bool.and_false]
    have e1 : cn (fun v => (decide (sq v < n) && R k v) || (decide (sq v = n) && R k v)) W = cn (fun v => decide (sq v < n + 1) && R k v) W := cn_congr fun v _ => by
      cases R k v
      · rw [Bool.and_false, Bool.and_false, Bool.and_false]; rfl
      · rw [Bool.and_true, Bool.and_true, Bool.and_true, Bool.eq_iff_iff, Bool.or_eq_true, decide_eq_true_iff, decide_eq_true_iff, decide_eq_true_iff]
        omega
    unfold tlR
    omega
theorem TaA.of {W S I : Nat} {sq tc : Nat → Nat} {R : Nat → Nat → Bool} {bg en to : Nat → Int} {tl : Nat → Int64} (hW : W ≤ 100) (h : MtI W S I sq tc R bg en to tl) : TaA S (tal W I sq R) tl := by
  refine ⟨h.2, fun k hk => ?_⟩
  by_cases e : k < I
  · have h1 : sm (fun s => tal W I sq R s k) S = sm (fun s => tlR W sq R s k) S := sm_congr fun s _ => if_pos e
    rw [h1, tl_sum]
    have := cn_le (fun v => decide (sq v < S) && R k v) W
    omega
  · rw [sm_zero (f := fun s => tal W I sq R s k) fun s _ => if_neg e]; omega
theorem b_MworthOf {I : Nat} {wt : Nat → Nat} {mw : Nat → Int} {k n : Nat} {Q : Int → Prop} (hw : QwA I wt mw) (hk : k < I) (hq : Q ((wt k * tms n : Nat) : Int)) : wp_M_worthOf mw k n Q := by
  have h1 := hw.2 k hk
  have h2 := hw.1
  unfold wp_M_worthOf
  rw [Int.toNat_natCast, h1.1]
  refine ⟨fun h => ⟨⟨by omega, by omega⟩, ⟨fun y => y = tms n, ?_, fun h2 => ⟨fun h3 => ?_, fun h3 => ?_⟩, fun h2 => ?_⟩⟩, fun h => ?_⟩
  · rintro y rfl
    have h3 : wt k * tms n ≤ 9 * 14 := Nat.mul_le_mul h1.2.2 (tms_le n)
    rw [← Int.natCast_mul]
    exact ⟨⟨by omega, by omega⟩, hq⟩
  · show (14 : Int) = (tms n : Nat)
    unfold tms; rw [if_neg (by omega), if_neg (by omega), if_neg (by omega)]; rfl
  · show (13 : Int) = (tms n : Nat)
    unfold tms; rw [if_neg (by omega), if_neg (by omega), if_pos (by omega)]; rfl
  · show (10 : Int) = (tms n : Nat)
    unfold tms; rw [if_neg (by omega), if_pos (by omega)]; rfl
  · have e : tms n = 0 := by unfold tms; rw [if_pos (by omega)]
    rw [e, Nat.mul_zero] at hq
    exact hq
def StA (S I : Nat) (wt : Nat → Nat) (ta : Nat → Nat → Nat) (le : Nat → Nat) (wo ln9 : Nat → Int) : Prop := ∀ set, set < 2 ^ S → wo set = wZ S I wt ta set ∧ ln9 set = lS S le set
def FtA (S : Nat) (le : Nat → Nat) (fr to : Nat → Int) : Prop := S ≤ 14 ∧ ∀ s, s < S → to s - fr s = le s ∧ le s ≤ 600 ∧ 0 ≤ fr s ∧ fr s ≤ 600 ∧ to s ≤ 600
theorem p14 {S : Nat} (h : S ≤ 14) : 2 ^ S ≤ 16384 := Nat.le_trans (Nat.pow_le_pow_right (by omega) h) (by decide)
theorem MmA.it {W I : Nat} {tc : Nat → Nat} {R : Nat → Nat → Bool} {mi mf ml im : Nat → Int} (h : MmA W I tc R mi mf ml im) {m : Nat} (hm : m < M0 W I R) : mi m = (mIt W I R m : Nat) ∧ mf m = (mFi W I R m : Nat) ∧ ml m = (mFi W I R m + tc (mIt W I R m) - 1 : Nat) := h.1 m hm
theorem b_Msets {W S I : Nat} {sq tc : Nat → Nat} {R : Nat → Nat → Bool} {wt le : Nat → Nat} {so0 fr to mw mi mf ml im wo ln9 ins : Nat → Int} {al : Int} {Q : (Nat → Int) → (Nat → Int) → (Nat → Int) → Int → Prop} (hW : W ≤ 100) (hS : FtA S le fr to) (hw : QwA I wt mw) (hM : MmA W I tc R mi mf ml im) (hso : ∀ k v, k < I → v < W → R k v = true → so0 v = sq v ∧ sq v < S) (hal : al = 0 ∨ (al = 1 ∧ StA S I wt (tal W I sq R) le wo ln9))
    (hq : ∀ wo' ln' ins', StA S I wt (tal W I sq R) le wo' ln' → Q wo' ln' ins' 1) : wp_M_laysSets so0 fr to mw mi mf wo ln9 ins S I (M0 W I R) al Q := by
  have hI := hw.1
  have h14 := hS.1
  have hP := p14 h14
  have hM0 := M0_le W I R
  unfold wp_M_laysSets
  refine ⟨fun h => ?_, fun h => ?_⟩
  · refine ⟨fun ins x => ∃ i : Nat, x = i ∧ i ≤ 112 ∧ ∀ j, j < i → ins j = 0, fun _ x => 112 - x.toNat, ⟨0, rfl, by omega, fun j h => by omega⟩, ?_⟩
    rintro ins x ⟨i, rfl, hi, h0⟩
    refine ⟨fun h2 => ?_, fun h2 => ⟨⟨by omega, by omega⟩, ⟨by omega, by omega⟩, ⟨i + 1, by omega, by omega, fun j hj => ?_⟩, by (try dsimp only); omega⟩⟩
    · refine ⟨fun ins x => ∃ m : Nat, x = m ∧ m ≤ M0 W I R ∧ ∀ s k, s < S → k < 8 → ins (8 * s + k) = (cn (fun m => decide (mIt W I R m = k) && decide (sq (mFi W I R m) = s)) m : Nat), fun _ x => M0 W I R - x.toNat, ⟨0, rfl, by omega, fun s k hs hk => h0 _ (by omega)⟩, ?_⟩
      rintro ins x ⟨m, rfl, hm, h1⟩
      refine ⟨fun h3 => ?_, fun h3 => ?_⟩
      · have em : m = M0 W I R := by omega
        subst em
        have h1 : ∀ s k, s < S → k < I → ins (8 * s + k) = (tal W I sq R s k : Nat) := by
          intro s k hs hk
          rw [h1 s k hs (by omega), m_cnt (fun v => decide (sq v = s)) hk hI]
          unfold tal tlR
          rw [if_pos hk]
        rw [b_shl1 (by omega)]
        refine ⟨fun wo ln x => ∃ set : Nat, x = set ∧ set ≤ 2 ^ S ∧ ∀ y, y < set → wo y = wZ S I wt (tal W I sq R) y ∧ ln y = lS S le y, fun _ _ x => 2 ^ S - x.toNat, ⟨0, rfl, Nat.zero_le _, fun y h => by omega⟩, ?_⟩
        rintro wo ln x ⟨set, rfl, hset, hy⟩
        refine ⟨fun h4 => hq _ _ _ fun y hy2 => hy y (by omega), fun h4 => ?_⟩
        refine ⟨fun x8 x9 => ∃ k : Nat, x9 = k ∧ k ≤ I ∧ x8 = (sm (fun k => wt k * tms (sS S (fun s => tal W I sq R s k) set)) k : Nat), fun _ x9 => I - x9.toNat, ⟨0, rfl, by omega, rfl⟩, ?_⟩
        rintro x8 x9 ⟨k, rfl, hk, rfl⟩
        have hwk : sm (fun k => wt k * tms (sS S (fun s => tal W I sq R s k) set)) k ≤ k * 126 := wth_le (I := k) (d := fun k => sS S (fun s => tal W I sq R s k) set) ⟨by omega, fun j hj => hw.2 j (by omega)⟩
        refine ⟨fun h5 => ?_, fun h5 => ?_⟩
        · have ek : k = I := by omega
          subst ek
          refine ⟨fun x10 x11 => ∃ s : Nat, x11 = s ∧ s ≤ S ∧ x10 = (lS s le set : Nat), fun _ x11 => S - x11.toNat, ⟨0, rfl, by omega, rfl⟩, ?_⟩
          rintro x10 x11 ⟨s, rfl, hs, rfl⟩
          have hls := lS_le (S := s) (le := le) (ss := fun j => (le j : Int)) ⟨by omega, fun j hj => ⟨rfl, (hS.2 j (by omega)).2.1⟩⟩ set
          have e : lS (s + 1) le set = lS s le set + (if set.testBit s then le s + 4 else 0) := rfl
          refine ⟨fun h6 => ⟨⟨by omega, by omega⟩, ⟨by omega, by omega⟩, ⟨by omega, by omega⟩, ⟨set + 1, by omega, by omega, fun y hy2 => ?_⟩, by (try dsimp only); omega⟩, fun h6 => b_Mholds (by omega) (by omega) (jn1_i ⟨fun h7 => ⟨⟨by omega, by omega⟩, ⟨by omega, by omega⟩, ⟨s + 1, by omega, by omega, ?_⟩, by (try dsimp only); omega⟩, fun h7 => ?_⟩)⟩
          · by_cases ey : y = set
            · rw [ey, uI_e rfl, uI_e rfl, show s = S by omega]
              exact ⟨rfl, rfl⟩
            · rw [uI_n (by omega) (by omega), uI_n (by omega) (by omega)]; exact hy y (by omega)
          · rw [e, bI_0 h7, if_neg Bool.false_ne_true]; omega
          · have h8 := hS.2 s (by omega)
            rw [Int.toNat_natCast]
            rw [h8.1]
            refine ⟨⟨by omega, by omega⟩, ⟨by omega, by omega⟩, ⟨by omega, by omega⟩, ⟨by omega, by omega⟩, ⟨by omega, by omega⟩, ⟨by omega, by omega⟩, ⟨s + 1, by omega, by omega, ?_⟩, by (try dsimp only); omega⟩
            rw [e, bI_1 h7, if_pos rfl]; omega
        · refine ⟨fun x14 x15 => ∃ s : Nat, x15 = s ∧ s ≤ S ∧ x14 = (sS s (fun s => tal W I sq R s k) set : Nat), fun _ x15 => S - x15.toNat, ⟨0, rfl, by omega, rfl⟩, ?_⟩
          rintro x14 x15 ⟨s, rfl, hs, rfl⟩
          have e : sS (s + 1) (fun s => tal W I sq R s k) set = sS s (fun s => tal W I sq R s k) set + (if set.testBit s then tal W I sq R s k else 0) := rfl
          have b1 : sS s (fun s => tal W I sq R s k) set ≤ s * 100 := sm_bd fun j hj => by
            have h9 : tlR W sq R j k ≤ W := cn_le _ _
            have h8 : tal W I sq R j k ≤ 100 := by unfold tal; split <;> omega
            show (if set.testBit j then tal W I sq R j k else 0) ≤ 100
            split <;> omega
          refine ⟨fun h6 => b_MworthOf hw (by omega) ?_, fun h6 => b_Mholds (by omega) (by omega) (jn1_i ⟨fun h7 => ⟨⟨by omega, by omega⟩, ⟨by omega, by omega⟩, ⟨s + 1, by omega, by omega, ?_⟩, by (try dsimp only); omega⟩, fun h7 => ?_⟩)⟩
          · have es : s = S := by omega
            subst es
            have h4 : wt k * tms (sS s (fun s => tal W I sq R s k) set) ≤ 9 * 14 := Nat.mul_le_mul (hw.2 k (by omega)).2.2 (tms_le _)
            refine ⟨⟨by omega, by omega⟩, ⟨by omega, by omega⟩, ⟨k + 1, by omega, by omega, ?_⟩, by (try dsimp only); omega⟩
            rw [sm_s]; omega
          · rw [e, bI_0 h7, if_neg Bool.false_ne_true]; omega
          · rw [show (8 * (s : Int) + (k : Int)).toNat = 8 * s + k by omega, h1 s k (by omega) (by omega)]
            have : tlR W sq R s k ≤ W := cn_le _ _
            have ht : tal W I sq R s k ≤ 100 := by unfold tal; split <;> omega
            refine ⟨⟨by omega, by omega⟩, ⟨by omega, by omega⟩, ⟨by omega, by omega⟩, ⟨by omega, by omega⟩, ⟨by omega, by omega⟩, ⟨s + 1, by omega, by omega, ?_⟩, by (try dsimp only); omega⟩
            rw [e, bI_1 h7, if_pos rfl]; omega
      · have hm2 : m < M0 W I R := by omega
        have g1 := hM.it hm2
        have g2 := m_in hm2
        have g3 := hso _ _ g2.1 g2.2.1 g2.2.2
        simp only [Int.toNat_natCast]
        rw [g1.1, g1.2.1]
        simp only [Int.toNat_natCast]
        rw [g3.1]
        have hc : ∀ s k, cn (fun m => decide (mIt W I R m = k) && decide (sq (mFi W I R m) = s)) m ≤ m := fun s k => cn_le _ _
        have hc2 := hc (sq (mFi W I R m)) (mIt W I R m)
        rw [show (8 * ((sq (mFi W I R m) : Nat) : Int) + ((mIt W I R m : Nat) : Int)) = ((8 * sq (mFi W I R m) + mIt W I R m : Nat) : Int) by omega]
        simp only [Int.toNat_natCast]
        rw [h1 _ _ g3.2 (by omega)]
        refine ⟨⟨by omega, by omega⟩, ⟨by omega, by omega⟩, ⟨by omega, by omega⟩, ⟨by omega, by omega⟩, ⟨by omega, by omega⟩, ⟨by omega, by omega⟩, ⟨by omega, by omega⟩, ⟨by omega, by omega⟩, ⟨by omega, by omega⟩, ⟨m + 1, by omega, by omega, fun s k hs hk => ?_⟩, by (try dsimp only); omega⟩
        by_cases e : s = sq (mFi W I R m) ∧ k = mIt W I R m
        · rw [e.1, e.2, uI_e rfl, cn_t]
          · omega
          · rw [decide_eq_true rfl, decide_eq_true rfl]; rfl
        · rw [uI_n (by omega) (by omega), h1 s k hs hk, cn_f]
          rw [Bool.and_eq_false_iff, decide_eq_false_iff_not, decide_eq_false_iff_not]
          omega
    · by_cases e : j = i
      · rw [uI_e (by omega)]
      · rw [uI_n (by omega) (by omega)]; exact h0 j (by omega)
  · rcases hal with h2 | ⟨h2, h3⟩
    · exact absurd h2 h
    · rw [h2]; exact hq _ _ _ h3
/-! how much two sentences have in common -/
theorem b_MhasLike {b hwa : Nat → Int} {N s w : Nat} {Q : Int → Prop} (hH : MhA b N hwa) (hs : s < Sn b N) (hw9 : w < 100) (hq : Q (bI (hw b N s w))) : wp_M_hasLike hwa s w Q := by
  have h14 := Sn_le b N
  unfold wp_M_hasLike
  rw [show (100 * (s : Int) + (w : Int)).toNat = 100 * s + w by omega, hH s w hs hw9]
  exact ⟨⟨by omega, by omega⟩, ⟨by omega, by omega⟩, ⟨by omega, by omega⟩, bI_b _, hq⟩
theorem b_Mcommon {b lk hwa : Nat → Int} {N s o : Nat} {Q : Int → Prop} (hA : AlA b N lk) (hH : MhA b N hwa) (hs : s < Sn b N) (ho : o < Sn b N) (hq : Q (cmo b N s o)) : wp_M_commonOf lk hwa (Wn b N) s o Q := by
  have h100 : Wn b N ≤ 100 := by unfold Wn; omega
  unfold wp_M_commonOf
  refine ⟨fun h => ?_, fun h => qe hq ?_⟩
  · refine ⟨fun x y z => ∃ w : Nat, z = w ∧ w ≤ Wn b N ∧ x = (cn (fun w => hw b N s w && hw b N o w) w : Nat) ∧ y = (cn (fun w => hw b N s w || hw b N o w) w : Nat), fun _ _ z => Wn b N - z.toNat, ⟨0, rfl, by omega, rfl, rfl⟩, ?_⟩
    rintro x y z ⟨w, rfl, hw9, rfl, rfl⟩
    have c3 := cn_le (fun w => hw b N s w && hw b N o w) w
    have c4 := cn_le (fun w => hw b N s w || hw b N o w) w
    refine ⟨fun h2 => ?_, fun h2 => ⟨⟨by omega, by omega⟩, ?_⟩⟩
    · have ew : w = Wn b N := by omega
      subst ew
      have hc : cmo b N s o = if cn (fun w => hw b N s w || hw b N o w) (Wn b N) = 0 then 0 else cn (fun w => hw b N s w && hw b N o w) (Wn b N) * 100 / cn (fun w => hw b N s w || hw b N o w) (Wn b N) := by
        unfold cmo; rw [if_neg (by omega)]
      generalize cn (fun w => hw b N s w || hw b N o w) (Wn b N) = any at *
      generalize cn (fun w => hw b N s w && hw b N o w) (Wn b N) = both at *
      refine ⟨fun h3 => ⟨⟨by omega, by omega⟩, ?_⟩, fun h3 => qe hq ?_⟩
      · rw [show 100 * (both : Int) = ((both * 100 : Nat) : Int) by omega, td_n]
        have hd : both * 100 / any ≤ both * 100 := Nat.div_le_self _ _
        rw [if_neg (by omega)] at hc
        generalize both * 100 / any = dv at *
        exact ⟨⟨h3, ⟨by omega, by omega⟩⟩, qe hq (by rw [hc])⟩
      · rw [hc, if_pos (by omega)]; rfl
    · rw [Int.toNat_natCast, hA w (by omega)]
      have es := cn_s (fun w => hw b N s w && hw b N o w) w
      have eo := cn_s (fun w => hw b N s w || hw b N o w) w
      refine jn2_i ⟨fun h3 => b_MhasLike hH hs (by omega) (b_MhasLike hH ho (by omega) ?_), fun h3 => ⟨⟨by omega, by omega⟩, ⟨w + 1, by omega, by omega, ?_, ?_⟩, by (try dsimp only); omega⟩⟩
      · refine ⟨fun y => y = (if (hw b N s w && hw b N o w) then 1 else 0 : Nat), ?_, jn0_i ⟨fun h4 => ?_, fun h4 => ⟨fun h5 => ?_, fun h5 => ?_⟩⟩⟩
        · rintro _ rfl
          refine ⟨⟨by split <;> omega, by split <;> omega⟩, fun y => y = (if (hw b N s w || hw b N o w) then 1 else 0 : Nat), ?_, jn0_i ⟨fun h4 => ?_, fun h4 => ⟨fun h5 => ?_, fun h5 => ?_⟩⟩⟩
          · rintro _ rfl
            exact ⟨⟨by split <;> omega, by split <;> omega⟩, ⟨by omega, by omega⟩, ⟨w + 1, by omega, by omega, by rw [es]; rfl, by rw [eo]; rfl⟩, by (try dsimp only); omega⟩
          · show (1 : Int) = _
            rw [bI_1 h4]; rfl
          · show (0 : Int) = _
            rw [bI_0 h4, bI_0 h5]; rfl
          · show (1 : Int) = _
            rw [bI_1 h5, Bool.or_true]; rfl
        · show (0 : Int) = _
          rw [bI_0 h4]; rfl
        · show (0 : Int) = _
          rw [bI_0 h5, Bool.and_false]; rfl
        · show (1 : Int) = _
          rw [bI_1 h4, bI_1 h5]; rfl
      · have e1 : hw b N s w = false := by
          cases e : hw b N s w
          · rfl
          · have := (hw_like e).2; omega
        rw [cn_f]
        rw [e1]; rfl
      · have e1 : hw b N s w = false := by
          cases e : hw b N s w
          · rfl
          · have := (hw_like e).2; omega
        have e2 : hw b N o w = false := by
          cases e : hw b N o w
          · rfl
          · have := (hw_like e).2; omega
        rw [cn_f]
        rw [e1, e2]; rfl
  · unfold cmo; rw [if_pos (by omega)]; rfl
