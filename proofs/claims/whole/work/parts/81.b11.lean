/-! B11: matches as the class finds them -/
def ib (z : Int) (i : Nat) : Bool := (Int32.ofInt z).toBitVec.getLsbD i
theorem ib_or (a b : Int) (i : Nat) : ib (iOr a b) i = (ib a i || ib b i) := by
  unfold ib iOr
  rw [Int32.ofInt_toInt, Int32.toBitVec_or, BitVec.getLsbD_or]
theorem ib_0 (i : Nat) : ib 0 i = false := by
  unfold ib
  show (0#32).getLsbD i = false
  simp
theorem ib_shl : ∀ k : Nat, k < 32 → (Int32.ofInt (iShl 1 (k : Int))).toBitVec = BitVec.twoPow 32 k := by decide +kernel
theorem ib_1 {k : Nat} (hk : k < 32) (i : Nat) : ib (iShl 1 k) i = decide (i = k) := by
  unfold ib
  rw [ib_shl k hk, BitVec.getLsbD_twoPow]
  by_cases e : i = k
  · subst e; simp [hk]
  · have e2 : ¬ k = i := fun h => e h.symm
    simp [e, e2]
theorem ib_has (a : Int) {k : Nat} (hk : k < 32) : iAnd (iUshr a k) 1 = bI (ib a k) := by
  unfold iAnd iUshr
  rw [Int32.ofInt_toInt, ofI_n]
  have e : (((Int32.ofInt a).toUInt32 >>> ((nI k).toUInt32 &&& Int32.toUInt32 31)).toInt32 &&& Int32.ofInt 1) = nI (if ib a k then 1 else 0) := by
    apply Int32.toBitVec_inj.1
    apply BitVec.eq_of_toNat_eq
    rw [Int32.toBitVec_and, BitVec.toNat_and, pk_ushr _ (nI k) k (n_su k hk), show (Int32.ofInt 1).toBitVec.toNat = 1 from rfl, b_bit, nI_bv, BitVec.toNat_ofNat]
    unfold ib
    rw [BitVec.testBit_toNat]
    split <;> rfl
  rw [e]
  cases ib a k
  · exact nI_toInt (n := 0) (by omega)
  · exact nI_toInt (n := 1) (by omega)
theorem b_HasI {a : Int} {k : Nat} {Q : Int → Prop} (hk : k < 32) (hq : Q (bI (ib a k))) : wp_Picker_has a k Q := by
  unfold wp_Picker_has
  rw [ib_has a hk]
  cases e : ib a k <;> rw [e] at hq
  · exact ⟨fun _ => hq, fun h => absurd rfl h⟩
  · exact ⟨fun h => absurd h (by decide), fun _ => hq⟩
/-- a term fits a word -/
def fit (b : Nat → Int) (N : Nat) (tz : Nat → Nat) (lt : Nat → Int) (st : Nat → Bool) (r w : Nat) : Bool :=
  decide (tz r ≤ wEn b N w - wBg b N w) && (decide (wEn b N w - wBg b N w ≤ tz r) || st r) && decide (∀ i, i < tz r → smv (b (wBg b N w + i)) = lt (12 * r + i))
theorem fit_iff {b : Nat → Int} {N : Nat} {tz : Nat → Nat} {lt : Nat → Int} {st : Nat → Bool} {r w : Nat} : fit b N tz lt st r w = true ↔ (tz r ≤ wEn b N w - wBg b N w ∧ (wEn b N w - wBg b N w ≤ tz r ∨ st r = true) ∧ ∀ i, i < tz r → smv (b (wBg b N w + i)) = lt (12 * r + i)) := by
  unfold fit
  rw [Bool.and_eq_true, Bool.and_eq_true, Bool.or_eq_true, decide_eq_true_iff, decide_eq_true_iff, decide_eq_true_iff, and_assoc]
theorem bI_not {b : Bool} {P : Prop} (h : b = true ↔ P) (n : ¬ P) : bI b = 0 := by
  cases b
  · rfl
  · exact absurd (h.mp rfl) n
theorem bI_yes {b : Bool} {P : Prop} (h : b = true ↔ P) (n : P) : bI b = 1 := by rw [h.mpr n]; rfl
theorem b_termFits {b wb we qz ql : Nat → Int} {N : Nat} {qs : Int} {tz : Nat → Nat} {lt : Nat → Int} {st : Nat → Bool} {k t w : Nat} {Q : Int → Prop} (hB : Byt b N) (hW : WdA b N wb we) (hw : w < Wn b N) (hr : 4 * k + t < 32) (hz : qz (4 * k + t) = tz (4 * k + t)) (hz2 : tz (4 * k + t) ≤ 12) (hs : ib qs (4 * k + t) = st (4 * k + t)) (hl : ∀ i, i < tz (4 * k + t) → ql (12 * (4 * k + t) + i) = lt (12 * (4 * k + t) + i)) (hq : Q (bI (fit b N tz lt st (4 * k + t) w))) : wp_Matches_termFits b wb we qz ql N qs k t w Q := by
  have hN := hB.1
  have v1 := wd_lt hw
  have v2 := hW w hw
  have v3 := wd_e hw
  unfold wp_Matches_termFits
  rw [show (k : Int) * 4 + (t : Int) = ((4 * k + t : Nat) : Int) by omega]
  simp only [Int.toNat_natCast]
  rw [v2.1, v2.2, hz]
  have hk4 : rng ((k : Int) * 4) := ⟨by omega, by omega⟩
  generalize 4 * k + t = r at *
  refine ⟨hk4, ⟨by omega, by omega⟩, ⟨by omega, by omega⟩, ⟨by omega, by omega⟩, ⟨by omega, by omega⟩, ⟨by omega, by omega⟩, fun h => qe hq ?_, fun h => ?_⟩
  · exact bI_not fit_iff fun hh => by omega
  · refine ⟨wEn b N w - wBg b N w ≤ tz r ∨ st r = true, fun hc => ?_, fun h2 => .inl (by omega), fun h2 => b_HasI hr ⟨fun h3 => ?_, fun h3 => qe hq ?_⟩⟩
    · refine ⟨fun x => ∃ i : Nat, x = i ∧ ∀ j, j < i → smv (b (wBg b N w + j)) = lt (12 * r + j), fun x => tz r - x.toNat, ⟨0, rfl, fun j hj => by omega⟩, ?_⟩
      rintro x ⟨i, rfl, hi⟩
      refine ⟨fun h2 => qe hq ?_, fun h2 => ⟨⟨by omega, by omega⟩, b_at hN (b_small (hB.at _) ⟨⟨by omega, by omega⟩, ⟨by omega, by omega⟩, ⟨by omega, by omega⟩, ?_⟩)⟩⟩
      · exact bI_yes fit_iff ⟨by omega, hc, fun j hj => hi j (by omega)⟩
      · rw [show ((wBg b N w : Nat) : Int) + (i : Int) = ((wBg b N w + i : Nat) : Int) by omega, atv_n (by omega), show ((r : Int) * 12 + (i : Int)).toNat = 12 * r + i by omega, hl i (by omega)]
        refine ⟨fun h3 => ⟨⟨by omega, by omega⟩, ⟨i + 1, by omega, fun j hj => ?_⟩, by dsimp only; omega⟩, fun h3 => qe hq ?_⟩
        · by_cases e : j = i
          · rw [e]; exact h3
          · exact hi j (by omega)
        · exact bI_not fit_iff fun hh => h3 (hh.2.2 i (by omega))
    · rw [hs] at h3; exact .inr (bI_1 h3)
    · rw [hs] at h3
      refine bI_not fit_iff fun hh => ?_
      rw [bI_0 h3] at hh
      rcases hh.2.1 with g | g
      · omega
      · cases g
/-- what is sought, as the class keeps it -/
def QyA (I : Nat) (wt tc tz : Nat → Nat) (lt : Nat → Int) (st sf : Nat → Bool) (qw qt qz ql : Nat → Int) (qs qf : Int) : Prop :=
  I ≤ 8 ∧ ∀ k, k < I → (qw k = wt k ∧ 1 ≤ wt k ∧ wt k ≤ 9) ∧ (qt k = tc k ∧ 1 ≤ tc k ∧ tc k ≤ 4) ∧ ib qf k = sf k ∧ ∀ t, t < tc k → (qz (4 * k + t) = tz (4 * k + t) ∧ 1 ≤ tz (4 * k + t) ∧ tz (4 * k + t) ≤ 12) ∧ ib qs (4 * k + t) = st (4 * k + t) ∧ ∀ i, i < tz (4 * k + t) → ql (12 * (4 * k + t) + i) = lt (12 * (4 * k + t) + i) ∧ 97 ≤ lt (12 * (4 * k + t) + i) ∧ lt (12 * (4 * k + t) + i) ≤ 122
/-- an item matches from a word on -/
def mch (b : Nat → Int) (N : Nat) (tc tz : Nat → Nat) (lt : Nat → Int) (st : Nat → Bool) (k w : Nat) : Bool :=
  decide (w < Wn b N ∧ soN b N w < Sn b N ∧ w + tc k ≤ fW b N (soN b N w + 1) ∧ ∀ t, t < tc k → fit b N tz lt st (4 * k + t) (w + t) = true)
theorem mch_iff {b : Nat → Int} {N : Nat} {tc tz : Nat → Nat} {lt : Nat → Int} {st : Nat → Bool} {k w : Nat} : mch b N tc tz lt st k w = true ↔ (w < Wn b N ∧ soN b N w < Sn b N ∧ w + tc k ≤ fW b N (soN b N w + 1) ∧ ∀ t, t < tc k → fit b N tz lt st (4 * k + t) (w + t) = true) := by
  unfold mch
  rw [decide_eq_true_iff]
theorem b_last {b ws sf sw : Nat → Int} {lo hi : Nat → Int64} {N k : Nat} {Q : Int → Prop} (hP : PlA b N ws sf sw lo hi) (hk : k < Sn b N) (hq : Q (if fW b N k < fW b N (k + 1) then (fW b N (k + 1) : Int) - 1 else -1)) : wp_Page_lastWordOf sf sw k Q := by
  have h14 := Sn_le b N
  have h100 : Wn b N ≤ 100 := by unfold Wn; omega
  have h1 := hP.2 k hk
  have h2 := fW_le b N (k + 1)
  have h3 := fW_mono (b := b) (N := N) (show k ≤ k + 1 by omega)
  unfold wp_Page_lastWordOf
  rw [Int.toNat_natCast, h1.1, h1.2.1]
  refine ⟨⟨by omega, by omega⟩, fun h => ?_, fun h => ?_⟩
  · rw [if_pos (by omega)] at hq ⊢
    exact ⟨⟨by omega, by omega⟩, ⟨by omega, by omega⟩, ⟨by omega, by omega⟩, ⟨by omega, by omega⟩, qe hq (by omega)⟩
  · rw [if_neg (by omega)] at hq
    exact hq
theorem b_matchesFrom {b wb we ws sf sw qw qt qz ql : Nat → Int} {lo hi : Nat → Int64} {N : Nat} {qs qf : Int} {I : Nat} {wt tc tz : Nat → Nat} {lt : Nat → Int} {st so9 : Nat → Bool} {w k : Nat} {Q : Int → Prop} (hB : Byt b N) (hW : WdA b N wb we) (hP : PlA b N ws sf sw lo hi) (hY : QyA I wt tc tz lt st so9 qw qt qz ql qs qf) (hw : w < Wn b N) (hk : k < I) (hq : Q (bI (mch b N tc tz lt st k w))) : wp_Matches_matchesFrom b wb we ws sf sw qt qz ql N qs w k Q := by
  have hI := hY.1
  obtain ⟨_, ⟨y1, y2, y3⟩, _, y4⟩ := hY.2 k hk
  have h14 := Sn_le b N
  have h100 : Wn b N ≤ 100 := by unfold Wn; omega
  have hws := hP.1 w hw
  unfold wp_Matches_matchesFrom
  simp only [Int.toNat_natCast]
  rw [hws, y1]
  refine ⟨⟨by omega, by omega⟩, ⟨by omega, by omega⟩, fun h => qe hq ?_, fun h => ?_⟩
  · refine bI_not mch_iff fun hh => ?_
    unfold so at h
    rw [if_pos hh.2.1] at h
    omega
  · have hS : soN b N w < Sn b N := by
      rcases Nat.lt_or_ge (soN b N w) (Sn b N) with e | e
      · exact e
      · exfalso; apply h; unfold so; rw [if_neg (by omega)]
    have hso : so b N w = (soN b N w : Int) := by unfold so; rw [if_pos hS]
    have hf1 : w < fW b N (soN b N w + 1) := (fW_iff hw).mpr (by omega)
    have hf2 : ¬ w < fW b N (soN b N w) := fun hh => by have := (fW_iff hw).mp hh; omega
    have hfl := fW_le b N (soN b N w + 1)
    rw [hso]
    refine ⟨⟨by omega, by omega⟩, ⟨by omega, by omega⟩, b_last hP hS ?_⟩
    rw [if_pos (by omega)]
    refine ⟨fun h2 => ?_, fun h2 => qe hq ?_⟩
    · refine ⟨fun x => ∃ t : Nat, x = t ∧ ∀ j, j < t → fit b N tz lt st (4 * k + j) (w + j) = true, fun x => tc k - x.toNat, ⟨0, rfl, fun j hj => by omega⟩, ?_⟩
      rintro x ⟨t, rfl, ht⟩
      refine ⟨fun h3 => qe hq ?_, fun h3 => ⟨⟨by omega, by omega⟩, ?_⟩⟩
      · exact bI_yes mch_iff ⟨hw, hS, by omega, fun j hj => ht j (by omega)⟩
      · obtain ⟨z1, z2, z3⟩ := y4 t (by omega)
        rw [show (w : Int) + (t : Int) = ((w + t : Nat) : Int) by omega]
        refine b_termFits hB hW (by omega) (by omega) z1.1 z1.2.2 z2 (fun i hi => (z3 i hi).1) ⟨fun h4 => ⟨⟨by omega, by omega⟩, ⟨t + 1, by omega, fun j hj => ?_⟩, by dsimp only; omega⟩, fun h4 => qe hq ?_⟩
        · by_cases e : j = t
          · rw [e]; exact bI_1 h4
          · exact ht j (by omega)
        · refine bI_not mch_iff fun hh => ?_
          have := hh.2.2.2 t (by omega)
          rw [bI_0 h4] at this
          cases this
    · exact bI_not mch_iff fun hh => by omega
/-! the rows of bits over the words -/
def enR (tc : Nat → Nat) (R : Nat → Nat → Bool) (k v : Nat) : Bool := decide (tc k ≤ v + 1) && R k (v + 1 - tc k)
def tcR (tc : Nat → Nat) (R : Nat → Nat → Bool) (k v : Nat) : Bool := ex (fun u => R k u && decide (v < u + tc k)) (v + 1)
def tlR (W : Nat) (sq : Nat → Nat) (R : Nat → Nat → Bool) (s k : Nat) : Nat := cn (fun v => decide (sq v = s) && R k v) W
def MtI (W S I : Nat) (sq tc : Nat → Nat) (R : Nat → Nat → Bool) (bg en to : Nat → Int) (tl : Nat → Int64) : Prop :=
  (∀ v, v < W → bg v = bs (fun k => R k v) I ∧ en v = bs (fun k => enR tc R k v) I ∧ to v = bs (fun k => tcR tc R k v) I) ∧ ∀ s, s < S → Tl (tl s) (fun k => if k < I then tlR W sq R s k else 0)
def addR (R : Nat → Nat → Bool) (k w : Nat) : Nat → Nat → Bool := fun j v => R j v || (decide (j = k) && decide (v = w))
theorem bs_upd {p q : Nat → Bool} {n k : Nat} (hk : k < n) (h : ∀ j, j < n → q j = (p j || decide (j = k))) : bs q n = bs p n ||| 2 ^ k := by
  symm
  refine bs_ext (Nat.or_lt_two_pow (bs_lt p n) (Nat.pow_lt_pow_right (by omega) hk)) fun i hi => ?_
  rw [tb_or1, bs_in hi, h i hi]
  congr 1
  exact decide_eq_decide.mpr ⟨Eq.symm, Eq.symm⟩
theorem cn_upd {p q : Nat → Bool} {w : Nat} (hp : p w = false) (hq : q w = true) : ∀ {n : Nat}, w < n → (∀ i, i < n → i ≠ w → q i = p i) → cn q n = cn p n + 1
  | 0, h, _ => by omega
  | n + 1, h, he => by
    by_cases e : w = n
    · subst e
      rw [cn_t hq, cn_f hp, cn_congr (fun i hi => he i (by omega) (by omega))]
    · rw [cn_s, cn_s, cn_upd hp hq (by omega) (fun i hi => he i (by omega)), he n (by omega) (fun h => e h.symm)]
      omega
theorem enR_add (tc : Nat → Nat) (R : Nat → Nat → Bool) (k w j v : Nat) : enR tc (addR R k w) j v = (enR tc R j v || (decide (j = k) && decide (v + 1 = w + tc k))) := by
  unfold enR addR
  by_cases e : j = k
  · subst e
    by_cases h : tc j ≤ v + 1
    · rw [decide_eq_true h, decide_eq_true (show j = j from rfl), Bool.true_and, Bool.true_and, Bool.true_and, Bool.true_and]
      congr 1
      exact decide_eq_decide.mpr (by omega)
    · rw [decide_eq_false h, decide_eq_false (show ¬ v + 1 = w + tc j by omega)]
      simp
  · rw [decide_eq_false e]
    simp
theorem tcR_add (tc : Nat → Nat) (R : Nat → Nat → Bool) (k w j v : Nat) : tcR tc (addR R k w) j v = (tcR tc R j v || (decide (j = k) && decide (w ≤ v ∧ v < w + tc k))) := by
  rw [Bool.eq_iff_iff, Bool.or_eq_true, Bool.and_eq_true, decide_eq_true_iff, decide_eq_true_iff]
  unfold tcR addR
  rw [ex_iff, ex_iff]
  constructor
  · rintro ⟨u, hu, h⟩
    rw [Bool.and_eq_true, Bool.or_eq_true, Bool.and_eq_true, decide_eq_true_iff, decide_eq_true_iff, decide_eq_true_iff] at h
    rcases h.1 with g | g
    · exact .inl ⟨u, hu, by rw [g, decide_eq_true h.2]; rfl⟩
    · refine .inr ⟨g.1, ?_⟩
      have h2 := h.2
      rw [g.1] at h2
      omega
  · rintro (⟨u, hu, h⟩ | ⟨h1, h2⟩)
    · rw [Bool.and_eq_true] at h
      exact ⟨u, hu, by rw [h.1, h.2]; rfl⟩
    · refine ⟨w, by omega, ?_⟩
      rw [decide_eq_true h1, decide_eq_true (show w = w from rfl), decide_eq_true (show v < w + tc j by rw [h1]; omega)]
      simp
theorem b_oneOf {k : Nat} {Q : Int64 → Prop} (hk : k < 8) (hq : Q (lShl 1 ((k : Int) * 8))) : wp_Query_oneOf k Q := ⟨⟨by omega, by omega⟩, hq⟩
theorem b_mtAdd {W S I : Nat} {sq tc : Nat → Nat} {R : Nat → Nat → Bool} {ws qt bg en to : Nat → Int} {tl : Nat → Int64} {tot w k : Nat} {Q : (Nat → Int) → (Nat → Int) → (Nat → Int) → Int → (Nat → Int64) → Prop} (hW : W ≤ 100) (hS : S ≤ 14) (hI : I ≤ 8) (hk : k < I) (ht : qt k = tc k ∧ 1 ≤ tc k) (hw : w + tc k ≤ W) (hws : ws w = sq w) (hsq : sq w < S) (hR : R k w = false) (htot : tot ≤ 1000) (hM : MtI W S I sq tc R bg en to tl)
    (hq : ∀ bg' en' to' tl', MtI W S I sq tc (addR R k w) bg' en' to' tl' → Q bg' en' to' ((tot + 1 : Nat) : Int) tl') : wp_Matches_add ws qt bg en to tot tl w k Q := by
  unfold wp_Matches_add
  simp only [Int.toNat_natCast]
  rw [ht.1, hws]
  have hlast : (w : Int) + (tc k : Int) - 1 = ((w + tc k - 1 : Nat) : Int) := by omega
  rw [hlast]
  simp only [Int.toNat_natCast]
  refine ⟨⟨by omega, by omega⟩, ⟨by omega, by omega⟩, ⟨by omega, by omega⟩, ⟨by omega, by omega⟩, ⟨by omega, by omega⟩, ⟨by omega, by omega⟩, ⟨by omega, by omega⟩, ⟨by omega, by omega⟩, ?_⟩
  refine ⟨fun to' x => ∃ i : Nat, x = i ∧ w ≤ i ∧ i ≤ w + tc k ∧ (∀ v, v < W → (w ≤ v ∧ v < i) → to' v = bs (fun j => tcR tc (addR R k w) j v) I) ∧ (∀ v, v < W → ¬ (w ≤ v ∧ v < i) → to' v = to v), fun _ x => w + tc k - x.toNat, ⟨w, rfl, Nat.le_refl _, by omega, fun v _ h => by omega, fun v _ _ => rfl⟩, ?_⟩
  rintro to' x ⟨i, rfl, hi1, hi2, h1, h2⟩
  refine ⟨fun h => ⟨⟨by omega, by omega⟩, ⟨by omega, by omega⟩, b_oneOf (by omega) ⟨⟨by omega, by omega⟩, ?_⟩⟩, fun h => ⟨⟨by omega, by omega⟩, ⟨by omega, by omega⟩, ⟨by omega, by omega⟩, ⟨i + 1, by omega, by omega, by omega, fun v hv hi => ?_, fun v hv hi => ?_⟩, by dsimp only; omega⟩⟩
  · rw [show (tot : Int) + 1 = ((tot + 1 : Nat) : Int) by omega]
    refine hq _ _ _ _ ⟨fun v hv => ⟨?_, ?_, ?_⟩, fun s hs => ?_⟩
    · by_cases e : v = w
      · subst e
        rw [uI_e rfl, (hM.1 v hv).1, b_orb (bs_31 _ (by omega)) (by omega)]
        rw [bs_upd hk (p := fun j => R j v) (q := fun j => addR R k v j v)]
        intro j hj
        unfold addR
        rw [decide_eq_true (show v = v from rfl), Bool.and_true]
      · rw [uI_n (by omega) (by omega), (hM.1 v hv).1]
        congr 1
        refine bs_congr fun j hj => ?_
        unfold addR
        rw [decide_eq_false e, Bool.and_false, Bool.or_false]
    · by_cases e : v = w + tc k - 1
      · rw [uI_e (by omega), ← e, (hM.1 v hv).2.1, b_orb (bs_31 _ (by omega)) (by omega)]
        rw [bs_upd hk (p := fun j => enR tc R j v) (q := fun j => enR tc (addR R k w) j v)]
        intro j hj
        rw [enR_add, decide_eq_true (show v + 1 = w + tc k by omega), Bool.and_true]
      · rw [uI_n (by omega) (by omega), (hM.1 v hv).2.1]
        congr 1
        refine bs_congr fun j hj => ?_
        rw [enR_add, decide_eq_false (show ¬ v + 1 = w + tc k by omega), Bool.and_false, Bool.or_false]
    · by_cases e : w ≤ v ∧ v < i
      · exact h1 v hv e
      · rw [h2 v hv e, (hM.1 v hv).2.2]
        congr 1
        refine bs_congr fun j hj => ?_
        rw [tcR_add, decide_eq_false (show ¬ (w ≤ v ∧ v < w + tc k) by omega), Bool.and_false, Bool.or_false]
    · by_cases e : s = sq w
      · subst e
        rw [uL_e rfl]
        have hb : ∀ j, tlR W sq R (sq w) j ≤ W := fun j => cn_le _ _
        refine (Tl.add (hM.2 _ hs) (Tl.one (k := k) (by omega)) fun j hj => ?_).congr fun j hj => ?_
        · have := hb j
          split <;> split <;> omega
        · by_cases ej : j = k
          · subst ej
            rw [if_pos hk, if_pos hk, if_pos rfl]
            symm
            refine cn_upd (w := w) ?_ ?_ (by omega) fun v hv hne => ?_
            · rw [hR, Bool.and_false]
            · unfold addR; simp
            · unfold addR; rw [decide_eq_false hne, Bool.and_false, Bool.or_false]
          · rw [if_neg ej, Nat.add_zero]
            by_cases eI : j < I
            · rw [if_pos eI, if_pos eI]
              refine cn_congr fun v hv => ?_
              unfold addR; rw [decide_eq_false ej, Bool.false_and, Bool.or_false]
            · rw [if_neg eI, if_neg eI]
      · rw [uL_n (by omega) (by omega)]
        refine (hM.2 s hs).congr fun j hj => ?_
        by_cases eI : j < I
        · rw [if_pos eI, if_pos eI]
          refine cn_congr fun v hv => ?_
          unfold addR
          by_cases ev : v = w
          · rw [ev, decide_eq_false (show ¬ sq w = s from fun h => e h.symm), Bool.false_and, Bool.false_and]
          · rw [decide_eq_false ev, Bool.and_false, Bool.or_false]
        · rw [if_neg eI, if_neg eI]
  · by_cases e : v = i
    · subst e
      rw [uI_e rfl, Int.toNat_natCast, h2 v hv (by omega), (hM.1 v hv).2.2, b_orb (bs_31 _ (by omega)) (by omega)]
      rw [bs_upd hk (p := fun j => tcR tc R j v) (q := fun j => tcR tc (addR R k w) j v)]
      intro j hj
      rw [tcR_add, decide_eq_true (show w ≤ v ∧ v < w + tc k by omega), Bool.and_true]
    · rw [uI_n (by omega) (by omega)]; exact h1 v hv (by omega)
  · rw [uI_n (by omega) (by omega)]; exact h2 v hv (by omega)
/-! the matches in their order -/
def mpq (I : Nat) (R : Nat → Nat → Bool) (q : Nat) : Bool := decide (q % 8 < I) && R (q % 8) (q / 8)
theorem mpq_at {I : Nat} {R : Nat → Nat → Bool} {w k : Nat} (hk : k < 8) : mpq I R (8 * w + k) = (decide (k < I) && R k w) := by
  unfold mpq
  rw [show (8 * w + k) % 8 = k by omega, show (8 * w + k) / 8 = w by omega]
theorem mpq_end {I : Nat} {R : Nat → Nat → Bool} {w : Nat} (hI : I ≤ 8) : cn (mpq I R) (8 * (w + 1)) = cn (mpq I R) (8 * w + I) := by
  refine cn_same (by omega) fun q h1 h2 => ?_
  unfold mpq
  rw [decide_eq_false (by omega), Bool.false_and]
/-- the matches so far -/
def rsf (R : Nat → Nat → Bool) (q : Nat) : Nat → Nat → Bool := fun k w => R k w && decide (8 * w + k < q)
theorem MtI.congr {W S I : Nat} {sq tc : Nat → Nat} {R R' : Nat → Nat → Bool} {bg en to : Nat → Int} {tl : Nat → Int64} (h : MtI W S I sq tc R bg en to tl) (ht : ∀ k, k < I → 1 ≤ tc k) (he : ∀ k w, k < I → w < W → R k w = R' k w) : MtI W S I sq tc R' bg en to tl := by
  refine ⟨fun v hv => ?_, fun s hs => ?_⟩
  · obtain ⟨h1, h2, h3⟩ := h.1 v hv
    refine ⟨?_, ?_, ?_⟩
    · rw [h1, bs_congr fun j hj => he j v hj hv]
    · rw [h2]
      congr 1
      refine bs_congr fun j hj => ?_
      unfold enR
      have e := ht j hj
      rw [he j _ hj (by omega)]
    · rw [h3]
      congr 1
      refine bs_congr fun j hj => ?_
      rw [Bool.eq_iff_iff]
      unfold tcR
      rw [ex_iff, ex_iff]
      constructor
      · rintro ⟨u, hu, g⟩
        exact ⟨u, hu, by rw [← he j u hj (by omega)]; exact g⟩
      · rintro ⟨u, hu, g⟩
        exact ⟨u, hu, by rw [he j u hj (by omega)]; exact g⟩
  · refine (h.2 s hs).congr fun j hj => ?_
    by_cases eI : j < I
    · rw [if_pos eI, if_pos eI]
      exact cn_congr fun v hv => by rw [he j v eI hv]
    · rw [if_neg eI, if_neg eI]
theorem b_fill30 {f : Nat → Int} {z : Int} {Q : (Nat → Int) → Prop} (hq : ∀ f', (∀ i, i < 100 → f' i = z) → Q f') : wp_JA_fill_30 f z Q := by
  unfold wp_JA_fill_30
  refine ⟨fun f x => ∃ i : Nat, x = i ∧ i ≤ 100 ∧ ∀ j, j < i → f j = z, fun _ x => 100 - x.toNat, ⟨0, rfl, by omega, fun j h => by omega⟩, ?_⟩
  rintro f x ⟨i, rfl, hi, h⟩
  refine ⟨fun h2 => hq _ fun j hj => h j (by omega), fun h2 => ⟨⟨by omega, by omega⟩, ⟨by omega, by omega⟩, ⟨i + 1, by omega, by omega, fun j hj => ?_⟩, by dsimp only; omega⟩⟩
  by_cases e : j = i
  · rw [uI_e (by omega)]
  · rw [uI_n (by omega) (by omega)]; exact h j (by omega)
theorem b_fill33 {f : Nat → Int64} {z : Int64} {Q : (Nat → Int64) → Prop} (hq : ∀ f', (∀ i, i < 14 → f' i = z) → Q f') : wp_JA_fill_33 f z Q := by
  unfold wp_JA_fill_33
  refine ⟨fun f x => ∃ i : Nat, x = i ∧ i ≤ 14 ∧ ∀ j, j < i → f j = z, fun _ x => 14 - x.toNat, ⟨0, rfl, by omega, fun j h => by omega⟩, ?_⟩
  rintro f x ⟨i, rfl, hi, h⟩
  refine ⟨fun h2 => hq _ fun j hj => h j (by omega), fun h2 => ⟨⟨by omega, by omega⟩, ⟨by omega, by omega⟩, ⟨i + 1, by omega, by omega, fun j hj => ?_⟩, by dsimp only; omega⟩⟩
  by_cases e : j = i
  · rw [uL_e (by omega)]
  · rw [uL_n (by omega) (by omega)]; exact h j (by omega)
theorem b_findAll {b wb we ws sf sw qw qt qz ql bg en to : Nat → Int} {lo hi tl : Nat → Int64} {N : Nat} {qs qf z : Int} {I : Nat} {wt tc tz : Nat → Nat} {lt : Nat → Int} {st so9 : Nat → Bool} {Q : (Nat → Int) → (Nat → Int) → (Nat → Int) → Int → (Nat → Int64) → Prop} (hB : Byt b N) (hW : WdA b N wb we) (hP : PlA b N ws sf sw lo hi) (hY : QyA I wt tc tz lt st so9 qw qt qz ql qs qf)
    (hq : ∀ bg' en' to' tl', MtI (Wn b N) (Sn b N) I (soN b N) tc (mch b N tc tz lt st) bg' en' to' tl' → Q bg' en' to' (cn (mpq I (mch b N tc tz lt st)) (8 * Wn b N) : Nat) tl') : wp_Matches_findAll b wb we ws sf sw qt qz ql bg en to N (Wn b N) qs I z tl Q := by
  have hI := hY.1
  have h14 := Sn_le b N
  have h100 : Wn b N ≤ 100 := by unfold Wn; omega
  unfold wp_Matches_findAll
  refine b_fill30 fun bg0 g1 => b_fill30 fun en0 g2 => b_fill30 fun to0 g3 => b_fill33 fun tl0 g4 => ?_
  generalize hR : mch b N tc tz lt st = R at *
  have hmc := fun x => cn_le (mpq I R) x
  have ht9 : ∀ k, k < I → 1 ≤ tc k := fun k hk => (hY.2 k hk).2.1.2.1
  refine ⟨fun bg en to tot tl x => ∃ w : Nat, x = w ∧ w ≤ Wn b N ∧ MtI (Wn b N) (Sn b N) I (soN b N) tc (rsf R (8 * w)) bg en to tl ∧ tot = (cn (mpq I R) (8 * w) : Nat), fun _ _ _ _ _ x => Wn b N - x.toNat, ⟨0, rfl, by omega, ⟨fun v hv => ?_, fun s hs => ?_⟩, rfl⟩, ?_⟩
  · have e0 : ∀ p : Nat → Bool, (∀ j, j < I → p j = false) → (0 : Int) = (bs p I : Nat) := by
      intro p hp
      have : bs p I = bs (fun _ => false) I := bs_congr hp
      rw [this]
      have h0 : ∀ n, bs (fun _ => false) n = 0 := by
        intro n
        induction n with
        | zero => rfl
        | succ n ih => rw [bs_f rfl, ih]
      rw [h0]; rfl
    have hr : ∀ j u, rsf R (8 * 0) j u = false := fun j u => by unfold rsf; rw [decide_eq_false (by omega), Bool.and_false]
    rw [g1 v (by omega), g2 v (by omega), g3 v (by omega)]
    refine ⟨e0 _ fun j _ => hr j v, e0 _ fun j _ => ?_, e0 _ fun j _ => ?_⟩
    · unfold enR; rw [hr, Bool.and_false]
    · cases e : tcR tc (rsf R (8 * 0)) j v
      · rfl
      · obtain ⟨u, _, h2⟩ := ex_iff.mp e
        rw [hr] at h2; cases h2
  · rw [g4 s (by omega)]
    refine Tl.zero.congr fun j _ => ?_
    split
    · symm
      refine cn_zero fun v hv => ?_
      unfold rsf; rw [show decide (8 * v + j < 8 * 0) = false from decide_eq_false (by omega), Bool.and_false, Bool.and_false]
    · rfl
  rintro bg en to tot tl x ⟨w, rfl, hw, hM, rfl⟩
  refine ⟨fun h => ?_, fun h => ?_⟩
  · have ew : w = Wn b N := by omega
    subst ew
    refine hq _ _ _ _ (hM.congr ht9 fun j v hj hv => ?_)
    unfold rsf; rw [decide_eq_true (by omega), Bool.and_true]
  · refine ⟨fun bg en to tot tl x => ∃ k : Nat, x = k ∧ k ≤ I ∧ MtI (Wn b N) (Sn b N) I (soN b N) tc (rsf R (8 * w + k)) bg en to tl ∧ tot = (cn (mpq I R) (8 * w + k) : Nat), fun _ _ _ _ _ x => I - x.toNat, ⟨0, rfl, by omega, hM, rfl⟩, ?_⟩
    rintro bg en to tot tl x ⟨k, rfl, hk, hM, rfl⟩
    refine ⟨fun h2 => ⟨⟨by omega, by omega⟩, ⟨w + 1, by omega, by omega, hM.congr ht9 fun j v hj hv => ?_, ?_⟩, by dsimp only; omega⟩, fun h2 => b_matchesFrom hB hW hP hY (by omega) (by omega) ?_⟩
    · unfold rsf
      congr 1
      exact decide_eq_decide.mpr (by omega)
    · rw [mpq_end hI, show k = I by omega]
    · rw [hR]
      refine jn5_i ⟨fun h3 => ⟨⟨by omega, by omega⟩, ⟨k + 1, by omega, by omega, hM.congr ht9 fun j v hj hv => ?_, ?_⟩, by dsimp only; omega⟩, fun h3 => ?_⟩
      · unfold rsf
        by_cases e : j = k ∧ v = w
        · rw [e.1, e.2, bI_0 h3, Bool.false_and, Bool.false_and]
        · congr 1
          exact decide_eq_decide.mpr (by omega)
      · rw [← Nat.add_assoc, cn_f]
        rw [mpq_at (by omega), bI_0 h3, Bool.and_false]
      · have h4 : R k w = true := bI_1 h3
        have h5 : mch b N tc tz lt st k w = true := by rw [hR]; exact h4
        have h6 := mch_iff.mp h5
        have h7 := fW_le b N (soN b N w + 1)
        have h8 := hmc (8 * w + k)
        have hso : ws w = (soN b N w : Int) := by rw [hP.1 w (by omega)]; unfold so; rw [if_pos h6.2.1]
        refine b_mtAdd h100 h14 hI (by omega) ⟨(hY.2 k (by omega)).2.1.1, (hY.2 k (by omega)).2.1.2.1⟩ (by omega) hso h6.2.1 ?_ (by omega) hM fun bg' en' to' tl' hM' => ⟨⟨by omega, by omega⟩, ⟨k + 1, by omega, by omega, hM'.congr ht9 fun j v hj hv => ?_, ?_⟩, by dsimp only; omega⟩
        · unfold rsf; rw [decide_eq_false (by omega), Bool.and_false]
        · unfold addR rsf
          by_cases e : j = k ∧ v = w
          · rw [e.1, e.2, h4, decide_eq_true (show k = k from rfl), decide_eq_true (show w = w from rfl), decide_eq_true (show 8 * w + k < 8 * w + (k + 1) by omega)]
            simp
          · have e2 : (decide (j = k) && decide (v = w)) = false := by
              rw [Bool.and_eq_false_iff, decide_eq_false_iff_not, decide_eq_false_iff_not]
              omega
            rw [e2, Bool.or_false]
            congr 1
            exact decide_eq_decide.mpr (by omega)
        · rw [← Nat.add_assoc, cn_t]
          rw [mpq_at (by omega), decide_eq_true (show k < I by omega), h4]
          rfl
