/-! B6: where words stand -/
theorem uL_n {f : Nat → Int64} {i : Int} {z : Int64} {j : Nat} (h : ¬ (j : Int) = i) (h0 : 0 ≤ i) : uL f i z j = f j := if_neg (by omega)
theorem uL_e {f : Nat → Int64} {i : Int} {z : Int64} {j : Nat} (h : (j : Int) = i) : uL f i z j = z := if_pos (by omega)
def ex (p : Nat → Bool) : Nat → Bool
  | 0 => false
  | n + 1 => ex p n || p n
theorem ex_iff {p : Nat → Bool} : ∀ {n : Nat}, ex p n = true ↔ ∃ v, v < n ∧ p v = true
  | 0 => ⟨fun h => (by cases h), fun ⟨v, h, _⟩ => (by omega)⟩
  | n + 1 => by
    constructor
    · intro h
      have h : (ex p n || p n) = true := h
      rcases Bool.or_eq_true_iff.mp h with h | h
      · obtain ⟨v, h1, h2⟩ := ex_iff.mp h
        exact ⟨v, by omega, h2⟩
      · exact ⟨n, by omega, h⟩
    · rintro ⟨v, h1, h2⟩
      show (ex p n || p n) = true
      refine Bool.or_eq_true_iff.mpr ?_
      by_cases e : v = n
      · exact .inr (e ▸ h2)
      · exact .inl (ex_iff.mpr ⟨v, by omega, h2⟩)
theorem cn_imp {p q : Nat → Bool} : ∀ {n : Nat}, (∀ i, i < n → p i = true → q i = true) → cn p n ≤ cn q n
  | 0, _ => Nat.le_refl _
  | n + 1, h => by
    have ih := cn_imp (p := p) (q := q) (n := n) fun i hi => h i (by omega)
    cases e : p n
    · rw [cn_f e, cn_s]; omega
    · rw [cn_t e, cn_t (h n (by omega) e)]; omega
theorem cn_or_and (p q : Nat → Bool) : ∀ n, cn (fun i => p i || q i) n + cn (fun i => p i && q i) n = cn p n + cn q n
  | 0 => rfl
  | n + 1 => by
    have ih := cn_or_and p q n
    rw [cn_s, cn_s, cn_s, cn_s]
    cases p n <;> cases q n <;> simp <;> omega
theorem cn_down {p : Nat → Bool} {n : Nat} (hd : ∀ i j, i ≤ j → j < n → p j = true → p i = true) {i : Nat} (hi : i < n) : p i = true ↔ i < cn p n := by
  constructor
  · intro h
    have h1 : cn p (i + 1) = i + 1 := cn_all fun j hj => hd j i (by omega) hi h
    have h2 := cn_mono p (show i + 1 ≤ n by omega)
    omega
  · intro h
    cases e : p i
    · exfalso
      have h1 : cn p n = cn p i := cn_same (by omega) fun k h1 h2 => by
        cases e2 : p k
        · rfl
        · rw [hd i k h1 h2 e2] at e; cases e
      have := cn_le p i
      omega
    · rfl
def sop (b : Nat → Int) (N w k : Nat) : Bool := decide (sEn b N k ≤ wBg b N w)
def soN (b : Nat → Int) (N w : Nat) : Nat := sk (sop b N w) (Sn b N) 0
def so (b : Nat → Int) (N w : Nat) : Int := if soN b N w < Sn b N then (soN b N w : Int) else -1
theorem soN_le (b : Nat → Int) (N w : Nat) : soN b N w ≤ Sn b N := sk_le (Nat.zero_le _)
theorem wBg_mono {b : Nat → Int} {N w v : Nat} (h : w ≤ v) (hv : v < Wn b N) : wBg b N w ≤ wBg b N v := by
  rcases Nat.eq_or_lt_of_le h with e | e
  · rw [e]; exact Nat.le_refl _
  · have := wd_next e hv
    have := (wd_lt (show w < Wn b N by omega)).1
    omega
theorem soN_mono {b : Nat → Int} {N w v : Nat} (h : w ≤ v) (hv : v < Wn b N) : soN b N w ≤ soN b N v := by
  rcases Nat.lt_or_ge (soN b N v) (soN b N w) with e | e
  · exfalso
    have h1 := soN_le b N w
    have h2 : sop b N v (soN b N v) = false := sk_not (p := sop b N v) (N := Sn b N) (i := 0) (by unfold soN at e h1; omega)
    have h3 : sop b N w (soN b N v) = true := sk_all (p := sop b N w) (N := Sn b N) (i := 0) (Nat.zero_le _) e
    have h2 := of_decide_eq_false h2
    have h3 := of_decide_eq_true h3
    have := wBg_mono h hv
    omega
  · exact e
def fW (b : Nat → Int) (N k : Nat) : Nat := cn (fun w => decide (soN b N w < k)) (Wn b N)
theorem fW_iff {b : Nat → Int} {N w k : Nat} (hw : w < Wn b N) : w < fW b N k ↔ soN b N w < k := by
  have h := cn_down (p := fun w => decide (soN b N w < k)) (n := Wn b N) (fun i j hij hj h => by
    have h := of_decide_eq_true h
    have := soN_mono hij hj
    exact decide_eq_true (by omega)) hw
  constructor
  · intro h2; exact of_decide_eq_true (h.mpr h2)
  · intro h2; exact h.mp (decide_eq_true h2)
theorem fW_le (b : Nat → Int) (N k : Nat) : fW b N k ≤ Wn b N := cn_le _ _
theorem fW_mono {b : Nat → Int} {N k j : Nat} (h : k ≤ j) : fW b N k ≤ fW b N j := cn_imp fun i _ hi => decide_eq_true (by have := of_decide_eq_true hi; omega)
def scn (b : Nat → Int) (N k w : Nat) : Nat := cn (fun v => decide (soN b N v = k)) w
theorem scn_W (b : Nat → Int) (N k : Nat) : fW b N k + scn b N k (Wn b N) = fW b N (k + 1) := by
  have h := cn_or_and (fun w => decide (soN b N w < k)) (fun w => decide (soN b N w = k)) (Wn b N)
  have h1 : cn (fun w => decide (soN b N w < k) && decide (soN b N w = k)) (Wn b N) = 0 := cn_zero fun i _ => by
    rw [← Bool.decide_and]; exact decide_eq_false (by omega)
  have h2 : cn (fun w => decide (soN b N w < k) || decide (soN b N w = k)) (Wn b N) = fW b N (k + 1) := cn_congr fun i _ => by
    rw [← Bool.decide_or]; exact decide_eq_decide.mpr (by omega)
  unfold scn
  unfold fW at *
  omega
theorem fW_first {b : Nat → Int} {N k w : Nat} (hw : w < Wn b N) (h : soN b N w = k) (h0 : scn b N k w = 0) : fW b N k = w := by
  have h1 : ¬ w < fW b N k := fun h2 => by have := (fW_iff hw).mp h2; omega
  rcases Nat.lt_or_ge (fW b N k) w with e | e
  · exfalso
    have h2 : ¬ soN b N (fW b N k) < k := fun h2 => by have := (fW_iff (show fW b N k < Wn b N by omega)).mpr h2; omega
    have h3 := soN_mono (show fW b N k ≤ w by omega) hw
    have h4 := cn_lt (p := fun v => decide (soN b N v = k)) (decide_eq_true (show soN b N (fW b N k) = k by omega)) e
    unfold scn at h0
    omega
  · omega
def hwp (b : Nat → Int) (N k i w : Nat) : Bool := ex (fun v => decide (soN b N v = k) && decide (lko b N v = i)) w
def hw (b : Nat → Int) (N k i : Nat) : Bool := hwp b N k i (Wn b N)
theorem hwp_s (b : Nat → Int) (N k i w : Nat) : hwp b N k i (w + 1) = (hwp b N k i w || (decide (soN b N w = k) && decide (lko b N w = i))) := rfl
def PlA (b : Nat → Int) (N : Nat) (ws sf sw : Nat → Int) (lo hi : Nat → Int64) : Prop :=
  (∀ w, w < Wn b N → ws w = so b N w) ∧ ∀ k, k < Sn b N → sw k = (fW b N (k + 1) : Int) - fW b N k ∧ sf k = (if fW b N k < fW b N (k + 1) then (fW b N k : Int) else -1) ∧ ∀ i, i < 64 → lb (lo k) i = hw b N k i ∧ lb (hi k) i = hw b N k (i + 64)
theorem b_addTo {al sf sw : Nat → Int} {lo hi : Nat → Int64} {w s : Nat} {Q : (Nat → Int) → (Nat → Int) → (Nat → Int64) → (Nat → Int64) → Prop} (hw : w < 100) (hs : s < 14) (h0 : 0 ≤ sw s ∧ sw s ≤ 100) (ha : 0 ≤ al w ∧ al w < 128)
    (hq : Q (if sw s = 0 then uI sf s w else sf) (uI sw s (sw s + 1)) (if 64 ≤ al w then lo else uL lo s (lo s ||| lShl 1 (al w))) (if 64 ≤ al w then uL hi s (hi s ||| lShl 1 (al w - 64)) else hi)) : wp_Page_addToSentence al sf sw lo hi w s Q := by
  unfold wp_Page_addToSentence
  rw [Int.toNat_natCast, Int.toNat_natCast]
  refine ⟨⟨by omega, by omega⟩, fun sf' => sf' = if sw s = 0 then uI sf s w else sf, ?_, fun h => ?_, fun h => ⟨⟨by omega, by omega⟩, ?_⟩⟩
  · rintro _ rfl
    refine ⟨⟨by omega, by omega⟩, ⟨by omega, by omega⟩, ⟨by omega, by omega⟩, ⟨by omega, by omega⟩, fun h => ⟨⟨by omega, by omega⟩, ⟨by omega, by omega⟩, ⟨by omega, by omega⟩, ?_⟩, fun h => ⟨⟨by omega, by omega⟩, ⟨by omega, by omega⟩, ?_⟩⟩
    · rw [if_pos h, if_pos h] at hq; exact hq
    · rw [if_neg h, if_neg h] at hq; exact hq
  · show sf = _
    rw [if_neg h]
  · show _ = _
    rw [if_pos h]
theorem b_place {b wb ws al se sf sw : Nat → Int} {lo hi : Nat → Int64} {N : Nat} {Q : (Nat → Int) → (Nat → Int) → (Nat → Int) → (Nat → Int64) → (Nat → Int64) → Prop} (hW : ∀ w, w < Wn b N → wb w = wBg b N w) (hA : AlA b N al) (hE : ∀ k, k < Sn b N → se k = sEn b N k) (hq : ∀ ws' sf' sw' lo' hi', PlA b N ws' sf' sw' lo' hi' → Q ws' sf' sw' lo' hi') : wp_Page_placeWords wb ws al se sf sw (Wn b N) (Sn b N) lo hi Q := by
  have h14 := Sn_le b N
  have h100 : Wn b N ≤ 100 := by unfold Wn; omega
  unfold wp_Page_placeWords
  refine ⟨fun sf sw lo hi x => ∃ s : Nat, x = s ∧ s ≤ Sn b N ∧ ∀ k, k < s → sf k = -1 ∧ sw k = 0 ∧ lo k = 0 ∧ hi k = 0, fun _ _ _ _ x => Sn b N - x.toNat, ⟨0, rfl, Nat.zero_le _, fun k h => by omega⟩, ?_⟩
  rintro sf sw lo hi x ⟨s, rfl, hs, h0⟩
  refine ⟨fun h => ?_, fun h => ⟨⟨by omega, by omega⟩, ⟨by omega, by omega⟩, ⟨by omega, by omega⟩, ⟨by omega, by omega⟩, ⟨by omega, by omega⟩, ⟨s + 1, by omega, by omega, fun k hk => ?_⟩, by dsimp only; omega⟩⟩
  · have h0 : ∀ k, k < Sn b N → sf k = -1 ∧ sw k = 0 ∧ lo k = 0 ∧ hi k = 0 := fun k hk => h0 k (by omega)
    refine ⟨fun ws sf sw lo hi x11 x12 => ∃ w s : Nat, x12 = w ∧ x11 = s ∧ w ≤ Wn b N ∧ s ≤ Sn b N ∧ (∀ v, w ≤ v → v < Wn b N → s ≤ soN b N v) ∧ (∀ v, v < w → ws v = so b N v) ∧ ∀ k, k < Sn b N → sw k = scn b N k w ∧ sf k = (if scn b N k w = 0 then -1 else (fW b N k : Int)) ∧ ∀ i, i < 64 → lb (lo k) i = hwp b N k i w ∧ lb (hi k) i = hwp b N k (i + 64) w, fun _ _ _ _ _ _ x => Wn b N - x.toNat, ⟨0, 0, rfl, rfl, Nat.zero_le _, Nat.zero_le _, fun _ _ _ => Nat.zero_le _, fun v h => by omega, fun k hk => ?_⟩, ?_⟩
    · obtain ⟨g1, g2, g3, g4⟩ := h0 k hk
      rw [g1, g2, g3, g4]
      exact ⟨rfl, rfl, fun i _ => ⟨lb_0 i, lb_0 i⟩⟩
    rintro ws sf sw lo hi x11 x12 ⟨w, s, rfl, rfl, hw, hs, hso, hws, ha⟩
    refine ⟨fun h => ?_, fun h => ?_⟩
    · have ew : w = Wn b N := by omega
      subst ew
      refine hq _ _ _ _ _ ⟨hws, fun k hk => ?_⟩
      obtain ⟨g1, g2, g3⟩ := ha k hk
      have e := scn_W b N k
      refine ⟨by rw [g1]; omega, ?_, g3⟩
      rw [g2]
      by_cases e0 : scn b N k (Wn b N) = 0
      · rw [if_pos e0, if_neg (by omega)]
      · rw [if_neg e0, if_pos (by omega)]
    · refine ⟨fun x => ∃ s' : Nat, x = s' ∧ s ≤ s' ∧ s' ≤ Sn b N ∧ soN b N w = sk (sop b N w) (Sn b N) s', fun x => Sn b N - x.toNat, ⟨s, rfl, Nat.le_refl _, hs, ?_⟩, ?_⟩
      · have h1 := hso w (Nat.le_refl _) (by omega)
        exact sk_eq (Nat.zero_le _) hs (fun k _ hk => sk_all (p := sop b N w) (N := Sn b N) (i := 0) (Nat.zero_le _) (by unfold soN at h1; omega))
      rintro x ⟨s', rfl, hs1, hs2, e⟩
      have hal := hA w (by omega)
      have hlk := lko_le b N w
      have hle := soN_le b N w
      rw [Int.toNat_natCast, Int.toNat_natCast]
      refine ⟨s' = soN b N w, fun e2 => ?_, fun h2 => ?_, fun h2 => ⟨⟨by omega, by omega⟩, ⟨by omega, by omega⟩, fun h3 => ?_, fun h3 => ⟨⟨by omega, by omega⟩, ⟨s' + 1, by omega, by omega, by omega, ?_⟩, by dsimp only; omega⟩⟩⟩
      · refine ⟨fun y => y = so b N w, ?_, fun h3 => ?_, fun h3 => ?_⟩
        · rintro _ rfl
          refine ⟨⟨by omega, by omega⟩, fun sf' sw' lo' hi' => ∀ k, k < Sn b N → sw' k = scn b N k (w + 1) ∧ sf' k = (if scn b N k (w + 1) = 0 then -1 else (fW b N k : Int)) ∧ ∀ i, i < 64 → lb (lo' k) i = hwp b N k i (w + 1) ∧ lb (hi' k) i = hwp b N k (i + 64) (w + 1), ?_, fun h3 k hk => ?_, fun h3 => b_addTo (by omega) (by omega) ?_ ?_ ?_⟩
          · intro sf' sw' lo' hi' ha'
            refine ⟨⟨by omega, by omega⟩, ⟨w + 1, s', by omega, rfl, by omega, hs2, fun v h1 h2 => ?_, fun v hv => ?_, ha'⟩, by dsimp only; omega⟩
            · rw [e2]; exact soN_mono (by omega) h2
            · by_cases ev : v = w
              · rw [uI_e (by omega), ev]
              · rw [uI_n (by omega) (by omega)]; exact hws v (by omega)
          · have hf : decide (soN b N w = k) = false := decide_eq_false (by omega)
            have e1 : scn b N k (w + 1) = scn b N k w := cn_f hf
            obtain ⟨g1, g2, g3⟩ := ha k hk
            rw [e1]
            refine ⟨g1, g2, fun i hi => ?_⟩
            rw [hwp_s, hwp_s, hf, Bool.false_and, Bool.false_and, Bool.or_false, Bool.or_false]
            exact g3 i hi
          · obtain ⟨g1, _⟩ := ha s' (by omega)
            have := cn_le (fun v => decide (soN b N v = s')) w
            rw [g1]; unfold scn; omega
          · omega
          · intro k hk
            obtain ⟨g1, g2, g3⟩ := ha k hk
            by_cases ek : k = s'
            · have ht : decide (soN b N w = k) = true := decide_eq_true (by omega)
              have e1 : scn b N k (w + 1) = scn b N k w + 1 := cn_t ht
              subst ek
              refine ⟨?_, ?_, fun i hi => ⟨?_, ?_⟩⟩
              · rw [uI_e rfl, e1, g1]; omega
              · rw [e1, show (if scn b N k w + 1 = 0 then (-1 : Int) else (fW b N k : Int)) = (fW b N k : Int) from if_neg (by omega)]
                by_cases e0 : sw k = 0
                · rw [if_pos e0, uI_e rfl, fW_first (by omega) e2.symm (by omega)]
                · rw [if_neg e0, g2, if_neg (by omega)]
              · rw [hwp_s, ht, Bool.true_and]
                by_cases e64 : 64 ≤ al w
                · rw [if_pos e64, (g3 i hi).1, decide_eq_false (by omega), Bool.or_false]
                · rw [if_neg e64, uL_e rfl, lb_or, (g3 i hi).1, hal, lb_shl (by omega)]
                  congr 1
                  exact decide_eq_decide.mpr ⟨Eq.symm, Eq.symm⟩
              · rw [hwp_s, ht, Bool.true_and]
                by_cases e64 : 64 ≤ al w
                · rw [if_pos e64, uL_e rfl, lb_or, (g3 i hi).2, show al w - 64 = ((lko b N w - 64 : Nat) : Int) by omega, lb_shl (by omega)]
                  congr 1
                  exact decide_eq_decide.mpr (by omega)
                · rw [if_neg e64, (g3 i hi).2, decide_eq_false (by omega), Bool.or_false]
            · have hf : decide (soN b N w = k) = false := decide_eq_false (by omega)
              have e1 : scn b N k (w + 1) = scn b N k w := cn_f hf
              rw [e1]
              refine ⟨?_, ?_, fun i hi => ⟨?_, ?_⟩⟩
              · rw [uI_n (by omega) (by omega)]; exact g1
              · by_cases e0 : sw s' = 0
                · rw [if_pos e0, uI_n (by omega) (by omega)]; exact g2
                · rw [if_neg e0]; exact g2
              · rw [hwp_s, hf, Bool.false_and, Bool.or_false, ← (g3 i hi).1]
                by_cases e64 : 64 ≤ al w
                · rw [if_pos e64]
                · rw [if_neg e64, uL_n (by omega) (by omega)]
              · rw [hwp_s, hf, Bool.false_and, Bool.or_false, ← (g3 i hi).2]
                by_cases e64 : 64 ≤ al w
                · rw [if_pos e64, uL_n (by omega) (by omega)]
                · rw [if_neg e64]
        · show (-1 : Int) = so b N w
          unfold so; rw [if_neg (by omega)]
        · show (s' : Int) = so b N w
          unfold so; rw [if_pos (by omega), e2]
      · rw [e, sk_end (by omega)]
      · rw [hW w (by omega), hE s' (by omega)] at h3
        rw [e, sk_stop (decide_eq_false (by omega))]
      · rw [hW w (by omega), hE s' (by omega)] at h3
        rw [e, sk_step (i := s') (by omega) (decide_eq_true (by omega))]
  · by_cases e : k = s
    · rw [uI_e (by omega), uI_e (by omega), uL_e (by omega), uL_e (by omega)]; exact ⟨rfl, rfl, rfl, rfl⟩
    · rw [uI_n (by omega) (by omega), uI_n (by omega) (by omega), uL_n (by omega) (by omega), uL_n (by omega) (by omega)]; exact h0 k (by omega)
def PgA (b : Nat → Int) (N : Nat) (la sa wb we ws al sb se ss sf sw : Nat → Int) (lo hi : Nat → Int64) : Prop := Byt b N ∧ LtA b N la ∧ SgA b N sa ∧ WdA b N wb we ∧ AlA b N al ∧ SnA b N sb se ss ∧ PlA b N ws sf sw lo hi
theorem b_tat {b : Nat → Int} {N : Nat} {i : Int} {Q : Int → Prop} (hN : N ≤ 600) (hq : Q (atv b N i)) : wp_Tape_at b N i Q := by
  unfold wp_Tape_at
  refine jn0_i ⟨fun h => qe hq (atv_o (.inl h)), fun h => ⟨fun h2 => ⟨⟨by omega, by omega⟩, qe hq ?_⟩, fun h2 => qe hq (atv_o (.inr (by omega)))⟩⟩
  unfold atv
  rw [if_pos (by omega)]
theorem b_readFrom {tb b la sa wb we ws al sb se ss sf sw : Nat → Int} {lo hi : Nat → Int64} {N : Nat} {z1 z2 z3 z4 : Int} {Q : (Nat → Int) → (Nat → Int) → (Nat → Int) → (Nat → Int) → (Nat → Int) → (Nat → Int) → (Nat → Int) → (Nat → Int) → (Nat → Int) → (Nat → Int) → (Nat → Int) → (Nat → Int) → Int → Int → Int → Int → (Nat → Int64) → (Nat → Int64) → Prop} (hT : Byt tb N)
    (hq : ∀ b la sa wb we ws al sb se ss sf sw lo hi, (∀ i, i < N → b i = tb i) → PgA b N la sa wb we ws al sb se ss sf sw lo hi → Q b la sa wb we ws al sb se ss sf sw N (sgn b N N) (Wn b N) (Sn b N) lo hi) : wp_Page_readFrom tb b la sa wb we ws al sb se ss sf sw N z1 z2 z3 z4 lo hi Q := by
  have hN := hT.1
  unfold wp_Page_readFrom
  refine ⟨fun b x => ∃ i : Nat, x = i ∧ i ≤ N ∧ ∀ j, j < i → b j = tb j, fun _ x => N - x.toNat, ⟨0, rfl, Nat.zero_le _, fun j h => by omega⟩, ?_⟩
  rintro b x ⟨i, rfl, hi, hb⟩
  refine ⟨fun h => ?_, fun h => b_tat hN ⟨⟨by omega, by omega⟩, ⟨by omega, by omega⟩, ⟨i + 1, by omega, by omega, fun j hj => ?_⟩, by dsimp only; omega⟩⟩
  · have hb : ∀ j, j < N → b j = tb j := fun j hj => hb j (by omega)
    have hB : Byt b N := ⟨hN, fun j hj => by rw [hb j hj]; exact hT.2 j hj⟩
    refine b_findSigns hB fun la' sa' hl hs => b_findSentences hN hl hs fun sb' se' ss' hS => b_findWords hN hl fun wb' we' hW => b_findAlike hB hW fun al' hA => b_place (fun w h => (hW w h).1) hA (fun k h => (hS k h).2.1) fun ws' sf' sw' lo' hi' hP => ?_
    exact hq _ _ _ _ _ _ _ _ _ _ _ _ _ _ hb ⟨hB, hl, hs, hW, hA, hS, hP⟩
  · by_cases e : j = i
    · rw [uI_e (by omega), e, atv_n (by omega)]
    · rw [uI_n (by omega) (by omega)]; exact hb j (by omega)
