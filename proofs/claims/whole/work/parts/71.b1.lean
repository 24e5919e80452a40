/-! B1: counting, skipping; the page as the class scans it -/
theorem qe {Q : Int → Prop} {a b : Int} (h : Q a) (e : a = b) : Q b := e ▸ h
def bI (b : Bool) : Int := if b then 1 else 0
theorem bI_t : bI true = 1 := rfl
theorem bI_f : bI false = 0 := rfl
theorem bI_0 {b : Bool} (h : bI b = 0) : b = false := by cases b; rfl; cases h
theorem bI_1 {b : Bool} (h : ¬ bI b = 0) : b = true := by cases b; exact absurd rfl h; rfl
theorem bI_b (b : Bool) : 0 ≤ bI b ∧ bI b ≤ 1 := by cases b <;> decide
def cn (p : Nat → Bool) : Nat → Nat
  | 0 => 0
  | n + 1 => cn p n + (if p n then 1 else 0)
theorem cn_s (p : Nat → Bool) (n : Nat) : cn p (n + 1) = cn p n + (if p n then 1 else 0) := rfl
theorem cn_t {p : Nat → Bool} {n : Nat} (h : p n = true) : cn p (n + 1) = cn p n + 1 := by rw [cn_s, h]; rfl
theorem cn_f {p : Nat → Bool} {n : Nat} (h : p n = false) : cn p (n + 1) = cn p n := by rw [cn_s, h]; rfl
theorem cn_le (p : Nat → Bool) : ∀ n, cn p n ≤ n
  | 0 => Nat.le_refl _
  | n + 1 => by
    have := cn_le p n
    rw [cn_s]
    split <;> omega
theorem cn_mono (p : Nat → Bool) {i j : Nat} (h : i ≤ j) : cn p i ≤ cn p j := by
  induction j with
  | zero => rw [Nat.le_zero.mp h]; exact Nat.le_refl _
  | succ j ih =>
    rcases Nat.eq_or_lt_of_le h with e | e
    · rw [e]; exact Nat.le_refl _
    · have := ih (by omega)
      rw [cn_s]
      omega
theorem cn_lt {p : Nat → Bool} {i j : Nat} (hp : p i = true) (h : i < j) : cn p i < cn p j := by
  have h1 := cn_mono p (show i + 1 ≤ j from h)
  rw [cn_t hp] at h1
  omega
theorem cn_lip (p : Nat → Bool) {i j : Nat} (h : i ≤ j) : cn p j ≤ cn p i + (j - i) := by
  induction j with
  | zero => rw [Nat.le_zero.mp h]; exact Nat.le_refl _
  | succ j ih =>
    rcases Nat.eq_or_lt_of_le h with e | e
    · rw [e]; omega
    · have := ih (by omega)
      rw [cn_s]
      split <;> omega
theorem cn_inj {p : Nat → Bool} {i j : Nat} (hi : p i = true) (hj : p j = true) (h : cn p i = cn p j) : i = j := by
  rcases Nat.lt_trichotomy i j with e | e | e
  · have := cn_lt hi e; omega
  · exact e
  · have := cn_lt hj e; omega
theorem cn_congr {p q : Nat → Bool} : ∀ {n : Nat}, (∀ i, i < n → p i = q i) → cn p n = cn q n
  | 0, _ => rfl
  | n + 1, h => by rw [cn_s, cn_s, cn_congr (fun i hi => h i (by omega)), h n (by omega)]
theorem cn_zero {p : Nat → Bool} : ∀ {n : Nat}, (∀ i, i < n → p i = false) → cn p n = 0
  | 0, _ => rfl
  | n + 1, h => by rw [cn_f (h n (by omega)), cn_zero (fun i hi => h i (by omega))]
theorem cn_same {p : Nat → Bool} {i : Nat} : ∀ {j : Nat}, i ≤ j → (∀ k, i ≤ k → k < j → p k = false) → cn p j = cn p i
  | 0, h, _ => by rw [Nat.le_zero.mp h]
  | j + 1, h, hk => by
    rcases Nat.eq_or_lt_of_le h with e | e
    · rw [e]
    · rw [cn_f (hk j (by omega) (by omega)), cn_same (by omega) (fun k h1 h2 => hk k h1 (by omega))]
def nt (p : Nat → Bool) : Nat → Nat → Nat
  | 0, _ => 0
  | n + 1, w => if p n = true ∧ cn p n = w then n else nt p n w
theorem nt_spec {p : Nat → Bool} {w : Nat} : ∀ {n : Nat}, w < cn p n → nt p n w < n ∧ p (nt p n w) = true ∧ cn p (nt p n w) = w
  | 0, h => by cases h
  | n + 1, h => by
    unfold nt
    by_cases hc : p n = true ∧ cn p n = w
    · rw [if_pos hc]; exact ⟨Nat.lt_succ_self n, hc⟩
    · rw [if_neg hc]
      have h2 : w < cn p n := by
        rw [cn_s] at h
        by_cases hp : p n = true
        · rw [if_pos hp] at h
          have : ¬ cn p n = w := fun e => hc ⟨hp, e⟩
          omega
        · rw [if_neg hp] at h; omega
      have := nt_spec h2
      exact ⟨by omega, this.2⟩
theorem nt_cn {p : Nat → Bool} {n i : Nat} (hp : p i = true) (h : i < n) : nt p n (cn p i) = i := by
  have h2 := nt_spec (cn_lt hp h)
  exact cn_inj h2.2.1 hp h2.2.2
theorem nt_eq {p : Nat → Bool} {n i w : Nat} (hp : p i = true) (h : i < n) (e : cn p i = w) : nt p n w = i := e ▸ nt_cn hp h
theorem nt_lt {p : Nat → Bool} {n w v : Nat} (h : w < v) (hv : v < cn p n) : nt p n w < nt p n v := by
  have h1 := nt_spec (show w < cn p n by omega)
  have h2 := nt_spec hv
  rcases Nat.lt_or_ge (nt p n w) (nt p n v) with e | e
  · exact e
  · have := cn_mono p e
    omega
/-- skip while p, not beyond N -/
def skf (p : Nat → Bool) : Nat → Nat → Nat
  | 0, i => i
  | f + 1, i => if p i then skf p f (i + 1) else i
def sk (p : Nat → Bool) (N i : Nat) : Nat := skf p (N - i) i
theorem sk_step {p : Nat → Bool} {N i : Nat} (h : i < N) (hp : p i = true) : sk p N i = sk p N (i + 1) := by
  unfold sk
  obtain ⟨k, hk⟩ : ∃ k, N - i = k + 1 := ⟨N - i - 1, by omega⟩
  rw [hk, show N - (i + 1) = k by omega]
  show (if p i then _ else _) = _
  rw [if_pos hp]
theorem sk_stop {p : Nat → Bool} {N i : Nat} (hp : p i = false) : sk p N i = i := by
  unfold sk
  cases N - i with
  | zero => rfl
  | succ k =>
    show (if p i then _ else _) = _
    rw [hp]
    rfl
theorem sk_end {p : Nat → Bool} {N i : Nat} (h : N ≤ i) : sk p N i = i := by
  unfold sk
  rw [Nat.sub_eq_zero_of_le h]
  rfl
theorem sk_all_aux (p : Nat → Bool) (N : Nat) : ∀ (f i : Nat), N - i = f → (i ≤ sk p N i ∧ (i ≤ N → sk p N i ≤ N) ∧ (sk p N i < N → p (sk p N i) = false) ∧ ∀ j, i ≤ j → j < sk p N i → p j = true)
  | 0, i, h => by
    rw [sk_end (by omega)]
    exact ⟨Nat.le_refl _, fun h => h, fun h => by omega, fun j h1 h2 => by omega⟩
  | f + 1, i, h => by
    by_cases hp : p i = true
    · rw [sk_step (by omega) hp]
      obtain ⟨h1, h2, h3, h4⟩ := sk_all_aux p N f (i + 1) (by omega)
      refine ⟨by omega, fun h => h2 (by omega), h3, fun j h5 h6 => ?_⟩
      rcases Nat.eq_or_lt_of_le h5 with e | e
      · rw [← e]; exact hp
      · exact h4 j e h6
    · have hp : p i = false := by simpa using hp
      rw [sk_stop hp]
      exact ⟨Nat.le_refl _, fun h => h, fun _ => hp, fun j h1 h2 => by omega⟩
theorem sk_ge (p : Nat → Bool) (N i : Nat) : i ≤ sk p N i := (sk_all_aux p N _ i rfl).1
theorem sk_le {p : Nat → Bool} {N i : Nat} (h : i ≤ N) : sk p N i ≤ N := (sk_all_aux p N _ i rfl).2.1 h
theorem sk_not {p : Nat → Bool} {N i : Nat} (h : sk p N i < N) : p (sk p N i) = false := (sk_all_aux p N _ i rfl).2.2.1 h
theorem sk_all {p : Nat → Bool} {N i j : Nat} (h1 : i ≤ j) (h2 : j < sk p N i) : p j = true := (sk_all_aux p N _ i rfl).2.2.2 j h1 h2
theorem sk_eq {p : Nat → Bool} {N i j : Nat} (hij : i ≤ j) (hj : j ≤ N) (ha : ∀ k, i ≤ k → k < j → p k = true) : sk p N i = sk p N j := by
  induction j with
  | zero => rw [Nat.le_zero.mp hij]
  | succ j ih =>
    rcases Nat.eq_or_lt_of_le hij with e | e
    · rw [e]
    · rw [ih (by omega) (by omega) (fun k h1 h2 => ha k h1 (by omega)), sk_step (by omega) (ha j (by omega) (by omega))]
/-- bytes -/
def atv (b : Nat → Int) (N : Nat) (i : Int) : Int := if 0 ≤ i ∧ i < N then b i.toNat else -1
theorem atv_n {b : Nat → Int} {N i : Nat} (h : i < N) : atv b N i = b i := by
  unfold atv
  rw [if_pos ⟨by omega, by omega⟩, Int.toNat_natCast]
theorem atv_o {b : Nat → Int} {N : Nat} {i : Int} (h : i < 0 ∨ N ≤ i) : atv b N i = -1 := by
  unfold atv
  rw [if_neg (by omega)]
def smv (c : Int) : Int := if 65 ≤ c ∧ c ≤ 90 then c + 32 else c
def isSm (c : Int) : Bool := decide (97 ≤ c ∧ c ≤ 122)
def blk (c : Int) : Bool := decide (c = 9 ∨ c = 10 ∨ c = 32)
def stp (c : Int) : Bool := decide (c = 46 ∨ c = 33 ∨ c = 63)
def clo (c : Int) : Bool := decide (c = 46 ∨ c = 33 ∨ c = 63 ∨ c = 41 ∨ c = 34)
def sec (b : Nat → Int) (N i : Nat) : Bool := decide (1 ≤ i ∧ i < N ∧ 128 ≤ b i ∧ b i ≤ 191 ∧ 192 ≤ b (i - 1))
def ltr (b : Nat → Int) (N i : Nat) : Bool := decide (i < N) && (isSm (smv (b i)) || sec b N i || sec b N (i + 1))
theorem b_small {c : Int} {Q : Int → Prop} (hc : -1 ≤ c ∧ c ≤ 255) (hq : Q (smv c)) : wp_Picker_small c Q := by
  unfold wp_Picker_small
  refine ⟨fun h => qe hq ?_, fun h => ⟨fun h2 => qe hq ?_, fun h2 => ⟨⟨by omega, by omega⟩, qe hq ?_⟩⟩⟩ <;> unfold smv
  · rw [if_neg (by omega)]
  · rw [if_neg (by omega)]
  · rw [if_pos (by omega)]
theorem b_isSm {c : Int} {Q : Int → Prop} (hq : Q (bI (isSm c))) : wp_Picker_isSmallLetter c Q := by
  unfold wp_Picker_isSmallLetter
  refine ⟨fun h => qe hq ?_, fun h => ⟨fun h2 => qe hq ?_, fun h2 => qe hq ?_⟩⟩ <;> unfold isSm
  · rw [decide_eq_false (by omega)]; rfl
  · rw [decide_eq_false (by omega)]; rfl
  · rw [decide_eq_true (by omega)]; rfl
theorem b_blk {c : Int} {Q : Int → Prop} (hq : Q (bI (blk c))) : wp_Picker_isBlank c Q := by
  unfold wp_Picker_isBlank
  refine jn0_i ⟨fun h => qe hq ?_, fun h => ⟨fun h2 => qe hq ?_, fun h2 => ⟨fun h3 => qe hq ?_, fun h3 => qe hq ?_⟩⟩⟩ <;> unfold blk
  · rw [decide_eq_true (by omega)]; rfl
  · rw [decide_eq_true (by omega)]; rfl
  · rw [decide_eq_false (by omega)]; rfl
  · rw [decide_eq_true (by omega)]; rfl
theorem b_stp {c : Int} {Q : Int → Prop} (hq : Q (bI (stp c))) : wp_Page_isStop c Q := by
  unfold wp_Page_isStop
  refine jn0_i ⟨fun h => qe hq ?_, fun h => ⟨fun h2 => qe hq ?_, fun h2 => ⟨fun h3 => qe hq ?_, fun h3 => qe hq ?_⟩⟩⟩ <;> unfold stp
  · rw [decide_eq_true (by omega)]; rfl
  · rw [decide_eq_true (by omega)]; rfl
  · rw [decide_eq_false (by omega)]; rfl
  · rw [decide_eq_true (by omega)]; rfl
theorem b_clo {c : Int} {Q : Int → Prop} (hq : Q (bI (clo c))) : wp_Page_isCloser c Q := by
  unfold wp_Page_isCloser
  refine b_stp (jn0_i ⟨fun h => qe hq ?_, fun h => ⟨fun h2 => qe hq ?_, fun h2 => ⟨fun h3 => qe hq ?_, fun h3 => qe hq ?_⟩⟩⟩)
  · have h := of_decide_eq_true (bI_1 h)
    unfold clo
    rw [decide_eq_true (by omega)]; rfl
  · unfold clo
    rw [decide_eq_true (by omega)]; rfl
  · have h := of_decide_eq_false (bI_0 h)
    unfold clo
    rw [decide_eq_false (by omega)]; rfl
  · unfold clo
    rw [decide_eq_true (by omega)]; rfl
theorem b_at {b : Nat → Int} {N : Nat} {i : Int} {Q : Int → Prop} (hN : N ≤ 600) (hq : Q (atv b N i)) : wp_Page_at b N i Q := by
  unfold wp_Page_at
  refine jn0_i ⟨fun h => qe hq (atv_o (.inl h)), fun h => ⟨fun h2 => ⟨⟨by omega, by omega⟩, qe hq ?_⟩, fun h2 => qe hq (atv_o (.inr (by omega)))⟩⟩
  unfold atv
  rw [if_pos (by omega)]
/-- all bytes are bytes -/
def Byt (b : Nat → Int) (N : Nat) : Prop := N ≤ 600 ∧ ∀ i, i < N → 0 ≤ b i ∧ b i ≤ 255
theorem Byt.at {b : Nat → Int} {N : Nat} (h : Byt b N) (i : Int) : -1 ≤ atv b N i ∧ atv b N i ≤ 255 := by
  unfold atv
  split
  · have := h.2 i.toNat (by omega); omega
  · omega
theorem b_sec {b : Nat → Int} {N i : Nat} {Q : Int → Prop} (hN : N ≤ 600) (hi : i ≤ N) (hq : Q (bI (sec b N i))) : wp_Page_isSecondOfPair b N i Q := by
  unfold wp_Page_isSecondOfPair
  refine b_at hN ⟨fun h => qe hq ?_, fun h => b_at hN ⟨fun h2 => qe hq ?_, fun h2 => ⟨⟨by omega, by omega⟩, b_at hN ⟨fun h3 => qe hq ?_, fun h3 => qe hq ?_⟩⟩⟩⟩
  all_goals
    have e1 : i < N → atv b N i = b i := atv_n
    have e2 : ¬ i < N → atv b N i = -1 := fun h => atv_o (.inr (by omega))
    have e3 : 1 ≤ i → atv b N (i - 1) = b (i - 1) := fun h => by rw [show (i : Int) - 1 = ((i - 1 : Nat) : Int) by omega, atv_n (by omega)]
    have e4 : ¬ 1 ≤ i → atv b N (i - 1) = -1 := fun h => atv_o (.inl (by omega))
    unfold sec
    first
    | (rw [decide_eq_false (by omega)]; rfl)
    | (rw [decide_eq_true (by omega)]; rfl)
/-- signs that begin ahead of a byte -/
def nsc (b : Nat → Int) (N i : Nat) : Bool := !sec b N i
def sgn (b : Nat → Int) (N i : Nat) : Nat := cn (nsc b N) i
theorem sec_0 (b : Nat → Int) (N : Nat) : sec b N 0 = false := decide_eq_false (by omega)
theorem sec_N (b : Nat → Int) {N i : Nat} (h : N ≤ i) : sec b N i = false := decide_eq_false (by omega)
/-- what findSigns lays -/
def LtA (b : Nat → Int) (N : Nat) (la : Nat → Int) : Prop := ∀ i, i < N → la i = bI (ltr b N i)
def SgA (b : Nat → Int) (N : Nat) (sa : Nat → Int) : Prop := (∀ i, i < N → sa i = sgn b N (i + 1) - 1) ∧ sa N = sgn b N N
theorem uI_n {f : Nat → Int} {i : Int} {z : Int} {j : Nat} (h : ¬ (j : Int) = i) (h0 : 0 ≤ i) : uI f i z j = f j := if_neg (by omega)
theorem uI_e {f : Nat → Int} {i : Int} {z : Int} {j : Nat} (h : (j : Int) = i) : uI f i z j = z := if_pos (by omega)
theorem b_findSigns {b la sa : Nat → Int} {N : Nat} {z : Int} {Q : (Nat → Int) → (Nat → Int) → Int → Prop} (hB : Byt b N) (hq : ∀ la' sa', LtA b N la' → SgA b N sa' → Q la' sa' (sgn b N N)) : wp_Page_findSigns b la sa N z Q := by
  have hN := hB.1
  unfold wp_Page_findSigns
  refine ⟨fun la sa s x => ∃ i : Nat, x = i ∧ i ≤ N ∧ s = sgn b N i ∧ (∀ j, j < i → la j = bI (ltr b N j)) ∧ (∀ j, j < i → sa j = sgn b N (j + 1) - 1), fun _ _ _ x => N - x.toNat, ⟨0, rfl, by omega, rfl, fun j h => by omega, fun j h => by omega⟩, ?_⟩
  rintro la sa s x ⟨i, rfl, hi, rfl, hl, hs⟩
  have hc := cn_le (nsc b N) i
  have hc' : sgn b N i ≤ i := hc
  refine ⟨fun h => ⟨⟨by omega, by omega⟩, ?_⟩, fun h => ?_⟩
  · have e : i = N := by omega
    subst e
    refine hq _ _ (fun j hj => hl j hj) ⟨fun j hj => ?_, uI_e rfl⟩
    rw [uI_n (by omega) (by omega)]
    exact hs j hj
  · refine b_sec hN hi ⟨fun y => y = sgn b N (i + 1), ?_, ?_⟩
    · rintro y rfl
      have hc2 := cn_le (nsc b N) (i + 1)
      have hc2' : sgn b N (i + 1) ≤ i + 1 := hc2
      refine ⟨⟨by omega, by omega⟩, ⟨by omega, by omega⟩, b_at hN (b_small (hB.at _) (b_isSm ?_))⟩
      rw [atv_n (by omega)]
      refine ⟨fun y10 => y10 = bI (ltr b N i), ?_, ?_⟩
      · rintro y10 rfl
        refine ⟨⟨⟨by omega, by omega⟩, bI_b _⟩, ⟨by omega, by omega⟩, ⟨i + 1, by omega, by omega, rfl, fun j hj => ?_, fun j hj => ?_⟩, by dsimp only; omega⟩
        · by_cases e : j = i
          · rw [uI_e (by omega), e]
          · rw [uI_n (by omega) (by omega)]; exact hl j (by omega)
        · by_cases e : j = i
          · rw [uI_e (by omega), e]
          · rw [uI_n (by omega) (by omega)]; exact hs j (by omega)
      · have hd : decide (i < N) = true := decide_eq_true (by omega)
        refine jn0_i ⟨fun h1 => ?_, fun h1 => b_sec hN hi ⟨fun h2 => ?_, fun h2 => ⟨⟨by omega, by omega⟩, ?_⟩⟩⟩
        · show 1 = bI (ltr b N i)
          unfold ltr; rw [hd, bI_1 h1]; rfl
        · show 1 = bI (ltr b N i)
          unfold ltr; rw [hd, bI_1 h2, Bool.or_true]; rfl
        · refine b_sec (i := i + 1) hN (by omega) ⟨fun h3 => ?_, fun h3 => ?_⟩
          · show 0 = bI (ltr b N i)
            unfold ltr; rw [hd, bI_0 h1, bI_0 h2, bI_0 h3]; rfl
          · show 1 = bI (ltr b N i)
            unfold ltr; rw [hd, bI_1 h3, Bool.or_true]; rfl
    · refine ⟨fun h1 => ?_, fun h1 => ⟨⟨by omega, by omega⟩, ?_⟩⟩
      · have h2 : nsc b N i = false := by unfold nsc; rw [bI_1 h1]; rfl
        show (sgn b N i : Int) = sgn b N (i + 1)
        unfold sgn; rw [cn_f h2]
      · have h2 : nsc b N i = true := by unfold nsc; rw [bI_0 h1]; rfl
        show (sgn b N i : Int) + 1 = sgn b N (i + 1)
        unfold sgn; rw [cn_t h2]; omega
