/-! B49: item -/
theorem cnv_pos {p : Nat → Bool} {n w : Nat} (hw : w < n) (h : p w = true) : 0 < cn p n := by
  have := cn_lt h hw
  omega
theorem cnv_some {p : Nat → Bool} {n : Nat} (h : 0 < cn p n) : ∃ v, v < n ∧ p v = true :=
  Classical.byContradiction fun hn => by
    have := cn_zero (p := p) (n := n) (fun i hi => by
      cases e : p i
      · rfl
      · exact absurd ⟨i, hi, e⟩ hn)
    omega
theorem b_allS {S : Nat} {Q : Int → Prop} (hS : S ≤ 14) (hq : Q ((2 ^ S - 1 : Nat) : Int)) : wp_Picker_allSentences S Q := by
  have h1 : 2 ^ S ≤ 2 ^ 14 := Nat.pow_le_pow_right (by omega) hS
  have h2 := Nat.two_pow_pos S
  unfold wp_Picker_allSentences
  rw [b_shl1 (by omega), show ((2 ^ S : Nat) : Int) - 1 = ((2 ^ S - 1 : Nat) : Int) by omega]
  exact ⟨⟨by omega, by omega⟩, hq⟩
theorem sS_all (S : Nat) (f : Nat → Nat) : sS S f (2 ^ S - 1) = sm f S := by
  unfold sS
  refine sm_congr fun s hs => ?_
  rw [Nat.testBit_two_pow_sub_one, decide_eq_true hs]
  rfl
theorem sm_ind {a : Nat} {c : Bool} : ∀ S, a < S → sm (fun s => if (decide (a = s) && c) = true then 1 else 0) S = if c = true then 1 else 0
  | 0, h => by omega
  | S + 1, h => by
    rw [sm_s]
    by_cases e : a = S
    · rw [sm_zero (fun i hi => by rw [decide_eq_false (by omega)]; rfl), e, decide_eq_true rfl, Bool.true_and, Nat.zero_add]
    · rw [sm_ind S (by omega), decide_eq_false e]
      rfl
theorem tl_tot {S k : Nat} {sq : Nat → Nat} {R : Nat → Nat → Bool} : ∀ W, (∀ v, v < W → R k v = true → sq v < S) → sm (fun s => tlR W sq R s k) S = cn (R k) W
  | 0, _ => sm_zero fun i _ => rfl
  | W + 1, h => by
    have ih := tl_tot (S := S) (sq := sq) W (fun v hv => h v (by omega))
    rw [cn_s, ← ih]
    have e : sm (fun s => tlR (W + 1) sq R s k) S = sm (fun s => tlR W sq R s k + (if (decide (sq W = s) && R k W) = true then 1 else 0)) S := rfl
    rw [e, sm_add]
    congr 1
    cases hR : R k W
    · exact sm_zero fun i _ => by rw [Bool.and_false]; rfl
    · rw [sm_ind S (h W (by omega) hR)]
theorem b_MmatchesOf {W I k : Nat} {tc : Nat → Nat} {R : Nat → Nat → Bool} {mi mf ml im : Nat → Int} {Q : Int → Prop} (hW : W ≤ 100) (hI : I ≤ 8) (hk : k < I) (hM : MmA W I tc R mi mf ml im) (hq : Q (cn (R k) W : Nat)) : wp_M_matchesOf mi (M0 W I R) k Q := by
  have hM0 := M0_le W I R
  have hc : cn (fun m => decide (mIt W I R m = k)) (M0 W I R) = cn (R k) W := by
    have := m_cnt (W := W) (R := R) (fun _ => true) hk hI
    rw [show (fun m => decide (mIt W I R m = k) && true) = (fun m => decide (mIt W I R m = k)) from funext fun m => Bool.and_true _, show (fun v => true && R k v) = R k from funext fun v => Bool.true_and _] at this
    exact this
  unfold wp_M_matchesOf
  refine ⟨fun x1 x2 => ∃ m : Nat, x2 = m ∧ m ≤ M0 W I R ∧ x1 = (cn (fun m => decide (mIt W I R m = k)) m : Nat), fun _ x2 => M0 W I R - x2.toNat, ⟨0, rfl, by omega, rfl⟩, ?_⟩
  rintro _ _ ⟨m, rfl, hm, rfl⟩
  refine ⟨fun h => ?_, fun h => ?_⟩
  · rw [show m = M0 W I R by omega, hc]; exact hq
  · have g1 := hM.it (show m < M0 W I R by omega)
    have hle := cn_le (fun m => decide (mIt W I R m = k)) m
    rw [Int.toNat_natCast, g1.1]
    have go : ∀ z : Int, z = (cn (fun m => decide (mIt W I R m = k)) (m + 1) : Nat) → rng z ∧ rng ((m : Int) + 1) ∧ (∃ m' : Nat, (m : Int) + 1 = m' ∧ m' ≤ M0 W I R ∧ z = (cn (fun m => decide (mIt W I R m = k)) m' : Nat)) ∧ M0 W I R - ((m : Int) + 1).toNat < M0 W I R - (m : Int).toNat := fun z hz => ⟨by rw [hz]; have := cn_le (fun m => decide (mIt W I R m = k)) (m + 1); exact ⟨by omega, by omega⟩, ⟨by omega, by omega⟩, ⟨m + 1, by omega, by omega, hz⟩, by omega⟩
    refine ⟨⟨by omega, by omega⟩, jn1_i ⟨fun e => go _ ?_, fun e => go _ ?_⟩⟩
    · rw [cn_f (decide_eq_false (by omega))]; omega
    · rw [cn_t (decide_eq_true (by omega))]; omega
theorem b_MsentsWith {b so0 : Nat → Int} {N I k : Nat} {tc : Nat → Nat} {R : Nat → Nat → Bool} {mi mf ml im mt : Nat → Int} {Q : Int → Prop} (hW : Wn b N ≤ 100) (hk : k < I) (hT : TcA (Wn b N) I tc R mt) (hM : MmA (Wn b N) I tc R mi mf ml im) (hS : ∀ w, w < Wn b N → so0 w = so b N w) (hRs : ∀ k v, k < I → R k v = true → soN b N v < Sn b N) (hq : Q (bs (fun s => decide (0 < tlR (Wn b N) (soN b N) R s k)) (Sn b N) : Nat)) : wp_M_sentencesWith so0 mi mf (M0 (Wn b N) I R) k Q := by
  have hI := hT.1
  have h14 := Sn_le b N
  have hM0 := M0_le (Wn b N) I R
  have sv : ∀ j, j < M0 (Wn b N) I R → soN b N (mFi (Wn b N) I R j) < Sn b N := fun j hj => by have g := m_in hj; exact hRs _ _ g.1 g.2.2
  have hog : ogf (fun j => decide (mIt (Wn b N) I R j = k)) (fun j => soN b N (mFi (Wn b N) I R j)) (M0 (Wn b N) I R) = bs (fun s => decide (0 < tlR (Wn b N) (soN b N) R s k)) (Sn b N) := by
    refine ogf_bs (fun j hj _ => sv j hj) fun s hs => ?_
    rw [decide_eq_true_iff]
    constructor
    · rintro ⟨j, hj, h1, h2⟩
      have h1 := of_decide_eq_true h1
      have g := m_in hj
      rw [h1] at g
      unfold tlR
      exact cnv_pos (w := mFi (Wn b N) I R j) g.2.1 (by rw [g.2.2, decide_eq_true h2]; rfl)
    · intro h1
      unfold tlR at h1
      obtain ⟨v, hv, e⟩ := cnv_some h1
      rw [Bool.and_eq_true, decide_eq_true_iff] at e
      obtain ⟨j, j1, j2, j3⟩ := m_ex hk hI hv e.2
      exact ⟨j, j1, decide_eq_true j2, by (try dsimp only); rw [j3]; exact e.1⟩
  unfold wp_M_sentencesWith
  refine ⟨fun x1 x2 => ∃ m : Nat, x2 = m ∧ m ≤ M0 (Wn b N) I R ∧ x1 = (ogf (fun j => decide (mIt (Wn b N) I R j = k)) (fun j => soN b N (mFi (Wn b N) I R j)) m : Nat), fun _ x2 => M0 (Wn b N) I R - x2.toNat, ⟨0, rfl, by omega, rfl⟩, ?_⟩
  rintro _ _ ⟨m, rfl, hm, rfl⟩
  refine ⟨fun h => ?_, fun h => ?_⟩
  · rw [show m = M0 (Wn b N) I R by omega, hog]; exact hq
  · have hm2 : m < M0 (Wn b N) I R := by omega
    have g1 := hM.it hm2
    have g2 := m_in hm2
    have s2 := sv m hm2
    have ol : ogf (fun j => decide (mIt (Wn b N) I R j = k)) (fun j => soN b N (mFi (Wn b N) I R j)) m < 2 ^ 31 := Nat.lt_of_lt_of_le (ogf_lt (n := 14) m (fun j hj _ => by have := sv j (by omega); (try dsimp only); omega)) (Nat.pow_le_pow_right (by omega) (by omega))
    rw [Int.toNat_natCast, g1.1, g1.2.1, Int.toNat_natCast, hS _ g2.2.1, (so_eq s2).mpr rfl]
    have go : ∀ z : Int, z = (ogf (fun j => decide (mIt (Wn b N) I R j = k)) (fun j => soN b N (mFi (Wn b N) I R j)) (m + 1) : Nat) → rng ((m : Int) + 1) ∧ (∃ m' : Nat, (m : Int) + 1 = m' ∧ m' ≤ M0 (Wn b N) I R ∧ z = (ogf (fun j => decide (mIt (Wn b N) I R j = k)) (fun j => soN b N (mFi (Wn b N) I R j)) m' : Nat)) ∧ M0 (Wn b N) I R - ((m : Int) + 1).toNat < M0 (Wn b N) I R - (m : Int).toNat := fun z hz => ⟨⟨by omega, by omega⟩, ⟨m + 1, by omega, by omega, hz⟩, by omega⟩
    refine ⟨⟨by omega, by omega⟩, jn1_i ⟨fun e => go _ ?_, fun e => ⟨⟨by omega, by omega⟩, ⟨by omega, by omega⟩, go _ ?_⟩⟩⟩
    · rw [b_or0 ol]
      show _ = ((ogf _ _ m ||| (if decide _ = true then _ else 0) : Nat) : Int)
      rw [if_neg (by rw [decide_eq_true_iff]; omega), Nat.or_zero]
    · rw [b_orb ol (by omega)]
      show _ = ((ogf _ _ m ||| (if decide _ = true then _ else 0) : Nat) : Int)
      rw [if_pos (by rw [decide_eq_true_iff]; omega)]
theorem b_sentsWith {S k : Nat} {ta : Nat → Nat → Nat} {tl : Nat → Int64} {Q : Int → Prop} (hS : S ≤ 14) (hk : k < 8) (hT : TaA S ta tl) (hq : Q (bs (fun s => decide (0 < ta s k)) S : Nat)) : wp_Matches_sentencesWith S tl k Q := by
  unfold wp_Matches_sentencesWith
  refine ⟨fun x1 x2 => ∃ s : Nat, x2 = s ∧ s ≤ S ∧ x1 = (bs (fun s => decide (0 < ta s k)) s : Nat), fun _ x2 => S - x2.toNat, ⟨0, rfl, by omega, rfl⟩, ?_⟩
  rintro _ _ ⟨s, rfl, hs, rfl⟩
  refine ⟨fun h => ?_, fun h => ?_⟩
  · rw [show s = S by omega]; exact hq
  · have ol : bs (fun s => decide (0 < ta s k)) s < 2 ^ 31 := Nat.lt_of_lt_of_le (bs_lt _ s) (Nat.pow_le_pow_right (by omega) (by omega))
    have go : ∀ z : Int, z = (bs (fun s => decide (0 < ta s k)) (s + 1) : Nat) → rng ((s : Int) + 1) ∧ (∃ s' : Nat, (s : Int) + 1 = s' ∧ s' ≤ S ∧ z = (bs (fun s => decide (0 < ta s k)) s' : Nat)) ∧ S - ((s : Int) + 1).toNat < S - (s : Int).toNat := fun z hz => ⟨⟨by omega, by omega⟩, ⟨s + 1, by omega, by omega, hz⟩, by omega⟩
    have hext : ∀ c : Bool, c = decide (0 < ta s k) → bs (fun s => decide (0 < ta s k)) s ||| (if c then 2 ^ s else 0) = bs (fun s => decide (0 < ta s k)) (s + 1) := by
      intro c hc
      refine bs_ext (Nat.or_lt_two_pow (Nat.lt_of_lt_of_le (bs_lt _ s) (Nat.pow_le_pow_right (by omega) (by omega))) (by
        split
        · exact Nat.pow_lt_pow_right (by omega) (by omega)
        · exact Nat.two_pow_pos _)) fun i hi => ?_
      rw [Nat.testBit_or, bs_bit]
      by_cases e : i = s
      · subst e
        rw [decide_eq_false (by omega), Bool.false_and, Bool.false_or, ← hc]
        cases c
        · exact Nat.zero_testBit _
        · show (2 ^ i).testBit i = true
          rw [Nat.testBit_two_pow]; exact decide_eq_true rfl
      · rw [decide_eq_true (show i < s by omega), Bool.true_and]
        cases c
        · show (_ || (0 : Nat).testBit i) = _
          rw [Nat.zero_testBit, Bool.or_false]
        · show (_ || (2 ^ s).testBit i) = _
          rw [Nat.testBit_two_pow, decide_eq_false (show ¬ s = i by omega), Bool.or_false]
    refine ⟨⟨by omega, by omega⟩, b_countIn (hT.1 s (by omega)) hk (jn1_i ⟨fun g => go _ ?_, fun g => go _ ?_⟩)⟩
    · rw [b_or0 ol, ← hext false (decide_eq_false (by omega)).symm]
      show _ = ((_ ||| 0 : Nat) : Int)
      rw [Nat.or_zero]
    · rw [b_orb ol (by omega), ← hext true (decide_eq_true (by omega)).symm]
      rfl
/-! item -/
def ivl (b : Nat → Int) (N I : Nat) (wt tc : Nat → Nat) (sf : Nat → Bool) (R : Nat → Nat → Bool) (a : Int) (k : Nat) : Int := if a = 0 then (wt k : Int) else if a = 1 then bI (!sf k) else if a = 2 then (tc k : Int) else if a = 3 then (cn (R k) (Wn b N) : Nat) else (bs (fun s => decide (0 < tlR (Wn b N) (soN b N) R s k)) (Sn b N) : Nat)
theorem b_item {b qw qt bg en to : Nat → Int} {tl : Nat → Int64} {N I : Nat} {wt tc : Nat → Nat} {sf : Nat → Bool} {R : Nat → Nat → Bool} {qf a1 a2 : Int} {Q : Int → Prop} {E : Nat → Prop} (hN : N ≤ 600) (hI : I ≤ 8) (hy : ∀ k, k < I → qw k = wt k ∧ qt k = tc k ∧ ib qf k = sf k) (hM : MtI (Wn b N) (Sn b N) I (soN b N) tc R bg en to tl) (hRs : ∀ k v, k < I → R k v = true → soN b N v < Sn b N)
    (h1 : ∀ k : Nat, a1 = k → k < I → 0 ≤ a2 ∧ a2 ≤ 4 → Q (ivl b N I wt tc sf R a2 k)) (h2 : 0 ≤ a1 ∧ a1 < (I : Int) → ¬ (0 ≤ a2 ∧ a2 ≤ 4) → E 2) (h3 : ¬ (0 ≤ a1 ∧ a1 < (I : Int)) → E 1) : wp_Picker_item qw qt (Sn b N) qf I tl a1 a2 Q E := by
  have h100 : Wn b N ≤ 100 := by unfold Wn; omega
  have h14 := Sn_le b N
  have hTa := TaA.of h100 hM
  unfold wp_Picker_item
  refine rq_idx (fun g1 => rq_what (fun g2 => ?_) (fun g2 => h2 g1 g2)) h3
  obtain ⟨k, rfl⟩ : ∃ k : Nat, a1 = k := ⟨a1.toNat, by omega⟩
  have hk : k < I := by omega
  have hq := h1 k rfl hk g2
  have hyk := hy k hk
  have etal : ∀ s, tal (Wn b N) I (soN b N) R s k = tlR (Wn b N) (soN b N) R s k := fun s => if_pos hk
  unfold ivl at hq
  rw [Int.toNat_natCast]
  refine ⟨fun g => ?_, fun g => ?_⟩
  · rw [if_pos g, ← hyk.1] at hq; exact ⟨⟨by omega, by omega⟩, hq⟩
  rw [if_neg g] at hq
  refine ⟨fun g => ?_, fun g => ?_⟩
  · rw [if_pos g] at hq
    unfold wp_Query_isStrong
    refine b_HasI (by omega) ?_
    rw [hyk.2.2]
    cases hs : sf k
    · rw [hs] at hq
      exact ⟨fun e => absurd rfl e, fun _ => ⟨fun e => absurd e (by decide), fun _ => hq⟩⟩
    · rw [hs] at hq
      exact ⟨fun _ => ⟨fun _ => hq, fun e => absurd rfl e⟩, fun e => absurd e (by decide)⟩
  rw [if_neg g] at hq
  refine ⟨fun g => ?_, fun g => ?_⟩
  · rw [if_pos g, ← hyk.2.1] at hq; exact ⟨⟨by omega, by omega⟩, hq⟩
  rw [if_neg g] at hq
  refine ⟨fun g => ?_, fun g => ?_⟩
  · rw [if_pos g] at hq
    have hp : 2 ^ Sn b N ≤ 2 ^ 14 := Nat.pow_le_pow_right (by omega) h14
    refine b_allS h14 (b_tallyOf h14 hTa (by omega) fun x hx => b_countIn hx (by omega) ?_)
    rw [sS_all, sm_congr (fun s _ => etal s), tl_tot _ (fun v hv hr => hRs k v hk hr)]
    exact hq
  · rw [if_neg g] at hq
    refine b_sentsWith h14 (by omega) hTa ?_
    rw [bs_congr (fun s _ => by rw [etal s])]
    exact hq
theorem b_Mitem {b so0 mw mt mfs mi mf ml im : Nat → Int} {N I : Nat} {wt tc : Nat → Nat} {sf : Nat → Bool} {R : Nat → Nat → Bool} {thr a1 a2 : Int} {Q : Int → Int → Prop} (hN : N ≤ 600) (hS : ∀ w, w < Wn b N → so0 w = so b N w) (hT : TcA (Wn b N) I tc R mt) (hM : MmA (Wn b N) I tc R mi mf ml im) (hy : ∀ k, k < I → mw k = wt k ∧ mt k = tc k ∧ mfs k = bI (sf k)) (hRs : ∀ k v, k < I → R k v = true → soN b N v < Sn b N)
    (h1 : ∀ k : Nat, a1 = k → k < I → 0 ≤ a2 ∧ a2 ≤ 4 → Q (ivl b N I wt tc sf R a2 k) 0) (h2 : 0 ≤ a1 ∧ a1 < (I : Int) → ¬ (0 ≤ a2 ∧ a2 ≤ 4) → Q 0 2) (h3 : ¬ (0 ≤ a1 ∧ a1 < (I : Int)) → Q 0 1) : wp_M_item so0 mw mt mfs mi mf thr I (M0 (Wn b N) I R) a1 a2 Q := by
  have h100 : Wn b N ≤ 100 := by unfold Wn; omega
  have hI := hT.1
  unfold wp_M_item
  refine m_noI (by omega) (fun g1 => ⟨fun k => absurd rfl k, fun _ => m_no (fun g2 => ⟨fun _ => ?_, fun k => absurd rfl k⟩) (fun g2 => ⟨fun k => absurd k (by decide), fun _ => h2 g1 g2⟩)⟩) (fun g1 => ⟨fun _ => h3 g1, fun k => absurd k (by decide)⟩)
  obtain ⟨k, rfl⟩ : ∃ k : Nat, a1 = k := ⟨a1.toNat, by omega⟩
  have hk : k < I := by omega
  have hq := h1 k rfl hk g2
  have hyk := hy k hk
  unfold ivl at hq
  rw [Int.toNat_natCast]
  refine ⟨fun g => ?_, fun g => ?_⟩
  · rw [if_pos g, ← hyk.1] at hq; exact ⟨⟨by omega, by omega⟩, hq⟩
  rw [if_neg g] at hq
  refine ⟨fun g => ?_, fun g => ?_⟩
  · rw [if_pos g] at hq
    rw [hyk.2.2]
    refine ⟨⟨by omega, by omega⟩, fun e => ?_, fun e => ?_⟩
    · rw [bI_0 e] at hq; exact hq
    · rw [bI_1 e] at hq; exact hq
  rw [if_neg g] at hq
  refine ⟨fun g => ?_, fun g => ?_⟩
  · rw [if_pos g, ← hyk.2.1] at hq; exact ⟨⟨by omega, by omega⟩, hq⟩
  rw [if_neg g] at hq
  refine ⟨fun g => ?_, fun g => ?_⟩
  · rw [if_pos g] at hq; exact b_MmatchesOf h100 hI hk hM hq
  · rw [if_neg g] at hq; exact b_MsentsWith h100 hk hT hM hS hRs hq
