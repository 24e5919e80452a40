/-! B10: sets as bits, sums, tallies -/
def bs (p : Nat → Bool) : Nat → Nat
  | 0 => 0
  | n + 1 => bs p n ||| (if p n then 2 ^ n else 0)
theorem bs_s (p : Nat → Bool) (n : Nat) : bs p (n + 1) = bs p n ||| (if p n then 2 ^ n else 0) := rfl
theorem bs_t {p : Nat → Bool} {n : Nat} (h : p n = true) : bs p (n + 1) = bs p n ||| 2 ^ n := by rw [bs_s, if_pos h]
theorem bs_f {p : Nat → Bool} {n : Nat} (h : p n = false) : bs p (n + 1) = bs p n := by
  rw [bs_s, h, if_neg Bool.false_ne_true, Nat.or_zero]
theorem bs_bit (p : Nat → Bool) : ∀ (n i : Nat), (bs p n).testBit i = (decide (i < n) && p i)
  | 0, i => by
    show (0 : Nat).testBit i = _
    rw [Nat.zero_testBit, decide_eq_false (by omega), Bool.false_and]
  | n + 1, i => by
    cases hp : p n
    · rw [bs_f hp, bs_bit p n i]
      by_cases e : n = i
      · subst e; rw [hp, Bool.and_false, Bool.and_false]
      · congr 1
        exact decide_eq_decide.mpr (by omega)
    · rw [bs_t hp, Nat.testBit_or, bs_bit p n i, Nat.testBit_two_pow]
      by_cases e : n = i
      · subst e; simp [hp]
      · rw [decide_eq_false e, Bool.or_false]
        congr 1
        exact decide_eq_decide.mpr (by omega)
theorem bs_lt (p : Nat → Bool) : ∀ n, bs p n < 2 ^ n
  | 0 => Nat.one_pos
  | n + 1 => by
    have h := bs_lt p n
    have h1 : bs p n < 2 ^ (n + 1) := Nat.lt_of_lt_of_le h (Nat.pow_le_pow_right (by omega) (by omega))
    refine Nat.or_lt_two_pow h1 ?_
    split
    · exact Nat.pow_lt_pow_right (by omega) (by omega)
    · exact Nat.two_pow_pos _
theorem bs_31 (p : Nat → Bool) {n : Nat} (h : n ≤ 31) : bs p n < 2 ^ 31 := Nat.lt_of_lt_of_le (bs_lt p n) (Nat.pow_le_pow_right (by omega) h)
theorem p2_31 {n : Nat} (h : n < 31) : 2 ^ n < 2 ^ 31 := Nat.pow_lt_pow_right (by omega) h
theorem bs_ext {x n : Nat} {p : Nat → Bool} (hx : x < 2 ^ n) (h : ∀ i, i < n → x.testBit i = p i) : x = bs p n := by
  apply Nat.eq_of_testBit_eq
  intro i
  rw [bs_bit]
  by_cases e : i < n
  · rw [decide_eq_true e, Bool.true_and]; exact h i e
  · rw [decide_eq_false e, Bool.false_and]
    exact Nat.testBit_lt_two_pow (Nat.lt_of_lt_of_le hx (Nat.pow_le_pow_right (by omega) (by omega)))
theorem bs_congr {p q : Nat → Bool} {n : Nat} (h : ∀ i, i < n → p i = q i) : bs p n = bs q n := by
  refine bs_ext (bs_lt p n) fun i hi => ?_
  rw [bs_bit, decide_eq_true hi, Bool.true_and, h i hi]
theorem bs_in {p : Nat → Bool} {n i : Nat} (h : i < n) : (bs p n).testBit i = p i := by rw [bs_bit, decide_eq_true h, Bool.true_and]
theorem bs_self {x n : Nat} (hx : x < 2 ^ n) : bs x.testBit n = x := (bs_ext hx (fun _ _ => rfl)).symm
theorem b_Has {a k : Nat} {Q : Int → Prop} (ha : a < 2 ^ 31) (hk : k < 32) (hq : Q (bI (a.testBit k))) : wp_Picker_has a k Q := by
  unfold wp_Picker_has
  rw [b_has ha hk]
  cases e : a.testBit k <;> rw [e] at hq
  · exact ⟨fun _ => hq, fun h => absurd rfl h⟩
  · exact ⟨fun h => absurd h (by decide), fun _ => hq⟩
theorem b_Mholds {a k : Nat} {Q : Int → Prop} (ha : a < 2 ^ 31) (hk : k < 32) (hq : Q (bI (a.testBit k))) : wp_M_holds a k Q := by
  unfold wp_M_holds
  rw [b_holds ha hk]
  cases e : a.testBit k <;> rw [e] at hq
  · exact ⟨fun _ => hq, fun h => absurd h (by decide)⟩
  · exact ⟨fun h => absurd rfl h, fun _ => hq⟩
/-- or with one bit, or none -/
theorem b_or1 {a k : Nat} {c : Bool} (ha : a < 2 ^ 31) (hk : k < 31) : iOr a (if c then iShl 1 k else 0) = ((a ||| (if c then 2 ^ k else 0) : Nat) : Int) := by
  cases c
  · rw [if_neg Bool.false_ne_true, if_neg Bool.false_ne_true, show (0 : Int) = ((0 : Nat) : Int) from rfl, b_or ha (by decide)]
  · rw [if_pos rfl, if_pos rfl, b_shl1 hk, b_or ha (p2_31 hk)]
theorem b_orb {a k : Nat} (ha : a < 2 ^ 31) (hk : k < 31) : iOr a (iShl 1 k) = ((a ||| 2 ^ k : Nat) : Int) := by
  rw [b_shl1 hk, b_or ha (p2_31 hk)]
theorem b_or0 {a : Nat} (ha : a < 2 ^ 31) : iOr a 0 = (a : Int) := by
  rw [show (0 : Int) = ((0 : Nat) : Int) from rfl, b_or ha (by decide), Nat.or_zero]
/-! counts of bits -/
theorem cn_shift (x : Nat) : ∀ n, cn x.testBit (n + 1) = x % 2 + cn (x / 2).testBit n
  | 0 => by
    show 0 + (if x.testBit 0 then 1 else 0) = x % 2 + 0
    rw [Nat.testBit_zero]
    rcases Nat.mod_two_eq_zero_or_one x with h | h <;> simp [h]
  | n + 1 => by
    rw [cn_s, cn_shift x n, cn_s, Nat.testBit_succ]
    omega
theorem and_two (a b : Nat) : a &&& b = 2 * (a / 2 &&& b / 2) + (a % 2) * (b % 2) := by
  have h1 := and_split (a % 2) (b % 2) (a / 2) (b / 2) 1 (by omega) (by omega)
  rw [show a % 2 + 2 ^ 1 * (a / 2) = a by omega, show b % 2 + 2 ^ 1 * (b / 2) = b by omega] at h1
  rw [h1]
  rcases Nat.mod_two_eq_zero_or_one a with h | h <;> rcases Nat.mod_two_eq_zero_or_one b with g | g <;> rw [h, g, Nat.add_comm] <;> rfl
theorem cn_drop (n : Nat) : ∀ x, 0 < x → x < 2 ^ n → cn (x &&& (x - 1)).testBit n + 1 = cn x.testBit n := by
  induction n with
  | zero => intro x h1 h2; omega
  | succ n ih =>
    intro x h1 h2
    rw [cn_shift, cn_shift, and_two x (x - 1)]
    rcases Nat.mod_two_eq_zero_or_one x with h | h
    · have e1 : (x - 1) / 2 = x / 2 - 1 := by omega
      rw [h, e1, Nat.zero_mul]
      simp only [Nat.add_zero]
      rw [Nat.mul_mod_right, Nat.mul_div_cancel_left _ (by omega)]
      have := ih (x / 2) (by omega) (by rw [Nat.pow_succ] at h2; omega)
      omega
    · have e1 : (x - 1) / 2 = x / 2 := by omega
      have e2 : (x - 1) % 2 = 0 := by omega
      rw [e1, e2, Nat.mul_zero]
      simp only [Nat.add_zero]
      rw [Nat.mul_mod_right, Nat.mul_div_cancel_left _ (by omega), Nat.and_self]
      omega
def bc (x : Nat) : Nat := cn x.testBit 31
theorem bc_le (x : Nat) : bc x ≤ 31 := cn_le _ _
theorem b_Mbits {a : Nat} {Q : Int → Prop} (ha : a < 2 ^ 31) (hq : Q (bc a)) : wp_M_bits a Q := by
  unfold wp_M_bits
  refine ⟨fun x y => ∃ n v : Nat, x = n ∧ y = v ∧ v < 2 ^ 31 ∧ n + bc v = bc a, fun _ y => y.toNat, ⟨0, a, rfl, rfl, ha, by omega⟩, ?_⟩
  rintro x y ⟨n, v, rfl, rfl, hv, e⟩
  have hb := bc_le a
  refine ⟨fun h => qe hq ?_, fun h => ⟨⟨by omega, by omega⟩, ⟨by omega, by omega⟩, ?_⟩⟩
  · have h0 : v = 0 := by omega
    subst h0
    have : bc 0 = 0 := cn_zero fun i _ => Nat.zero_testBit i
    omega
  · have h1 := cn_drop 31 v (by omega) hv
    have h2 : v &&& (v - 1) ≤ v - 1 := Nat.and_le_right
    have e1 : iAnd (v : Int) ((v : Int) - 1) = ((v &&& (v - 1) : Nat) : Int) := by
      rw [show (v : Int) - 1 = ((v - 1 : Nat) : Int) by omega, b_and hv]
    rw [e1]
    refine ⟨⟨n + 1, v &&& (v - 1), by omega, rfl, by omega, ?_⟩, by dsimp only; omega⟩
    unfold bc at *
    omega
theorem pop_ar4 (d0 d1 d2 d3 z3 z4 z5 : Nat) (c0 : d0 ≤ 8) (c1 : d1 ≤ 8) (c2 : d2 ≤ 8) (c3 : d3 ≤ 8) (e3 : z3 = d0 + 256 * (d1 + 256 * (d2 + 256 * d3))) (e4 : z4 = z3 + z3 / 256) (e5 : z5 = z4 + z4 / 65536) : z5 % 64 = d0 + d1 + d2 + d3 := by
  have q3 : z3 / 256 = d1 + 256 * (d2 + 256 * d3) := by omega
  have f4 : z4 = (d0 + d1) + 256 * ((d1 + d2) + 256 * ((d2 + d3) + 256 * d3)) := by omega
  have q4 : z4 / 65536 = (d2 + d3) + 256 * d3 := by omega
  omega
theorem cn_31 {x : Nat} (h : x < 2 ^ 31) : cn x.testBit 32 = bc x := cn_f (Nat.testBit_lt_two_pow h)
theorem mk1 : (1431655765 : Nat) = fs 4 (fun _ => 1) (4 * 4) := by decide +kernel
theorem mk2 : (858993459 : Nat) = fs 16 (fun _ => 3) (2 * 4) := by decide +kernel
theorem mk3 : (252645135 : Nat) = fs 256 (fun _ => 15) 4 := by decide +kernel
theorem fs_4 (d : Nat → Nat) : fs 256 d 4 = d 0 + 256 * (d 1 + 256 * (d 2 + 256 * d 3)) := by
  show d 0 + 256 * (d 1 + 256 * (d 2 + 256 * (d 3 + 256 * 0))) = _
  rw [Nat.mul_zero, Nat.add_zero]
theorem cn_32 (p : Nat → Bool) : cn p 32 = pc2 p 0 + pc2 p 1 + pc2 p 2 + pc2 p 3 := by
  rw [show (32 : Nat) = 8 * (3 + 1) from rfl, cn_byte, show (8 * 3 : Nat) = 8 * (2 + 1) from rfl, cn_byte, show (8 * 2 : Nat) = 8 * (1 + 1) from rfl, cn_byte, show (8 * 1 : Nat) = 8 * (0 + 1) from rfl, cn_byte, Nat.mul_zero, show cn p 0 = 0 from rfl, Nat.zero_add]
theorem fs_lt {B : Nat} : ∀ (n : Nat) (d : Nat → Nat), (∀ i, i < n → d i < B) → fs B d n < B ^ n
  | 0, _, _ => by show 0 < B ^ 0; rw [Nat.pow_zero]; omega
  | n + 1, d, h => by
    have h0 := h 0 (by omega)
    have h1 := fs_lt n (fun i => d (i + 1)) (fun i hi => h (i + 1) (by omega))
    show d 0 + B * fs B (fun i => d (i + 1)) n < B ^ (n + 1)
    have h2 : B * (fs B (fun i => d (i + 1)) n + 1) ≤ B * B ^ n := Nat.mul_le_mul_left B h1
    rw [Nat.mul_add, Nat.mul_one] at h2
    rw [Nat.pow_succ, Nat.mul_comm (B ^ n) B]
    omega
theorem b_bits {a : Nat} {Q : Int → Prop} (ha : a < 2 ^ 30) (hq : Q (bc a)) : wp_JI_bitCount a Q := by
  have hp := pop3 a 4 (Nat.lt_trans ha (by decide))
  have k : ∀ (x j : Nat), x < 2 ^ 31 → j < 32 → iUshr x j = ((x / 2 ^ j : Nat) : Int) := fun x j h1 h2 => b_ushr h1 h2
  have l1 : a / 2 &&& 1431655765 ≤ a / 2 := Nat.and_le_left
  have e1 : (a : Int) - iAnd (iUshr a 1) 1431655765 = ((fs 4 (pc0 a.testBit) (4 * 4) : Nat) : Int) := by
    rw [show (1 : Int) = ((1 : Nat) : Int) from rfl, k a 1 (by omega) (by omega), show (1431655765 : Int) = ((1431655765 : Nat) : Int) from rfl, b_and (by omega), ← hp.1, ← mk1]
    rw [Nat.pow_one]
    omega
  have hz1 : fs 4 (pc0 a.testBit) (4 * 4) ≤ a := by rw [← hp.1]; omega
  have hz2 : fs 16 (pc1 a.testBit) (2 * 4) < 2 ^ 31 := by
    refine Nat.lt_of_le_of_lt (fs_le (M := 4) (by omega) _ _ (pc1_le _)) (by decide +kernel)
  have e2 : iAnd ((fs 4 (pc0 a.testBit) (4 * 4) : Nat) : Int) 858993459 + iAnd (iUshr ((fs 4 (pc0 a.testBit) (4 * 4) : Nat) : Int) 2) 858993459 = ((fs 16 (pc1 a.testBit) (2 * 4) : Nat) : Int) := by
    rw [show (2 : Int) = ((2 : Nat) : Int) from rfl, k _ 2 (by omega) (by omega), show (858993459 : Int) = ((858993459 : Nat) : Int) from rfl, b_and (by omega), b_and (by omega), ← hp.2.1, ← mk2, show (2 ^ 2 : Nat) = 4 from rfl]
    omega
  have hz3 : fs 16 (pc1 a.testBit) (2 * 4) ≤ 1145324612 := by
    refine Nat.le_trans (fs_le (M := 4) (by omega) _ _ (pc1_le _)) (by decide +kernel)
  have e3 : iAnd (((fs 16 (pc1 a.testBit) (2 * 4) : Nat) : Int) + iUshr ((fs 16 (pc1 a.testBit) (2 * 4) : Nat) : Int) 4) 252645135 = ((fs 256 (pc2 a.testBit) 4 : Nat) : Int) := by
    rw [show (4 : Int) = ((4 : Nat) : Int) from rfl, k _ 4 (by omega) (by omega), show (252645135 : Int) = ((252645135 : Nat) : Int) from rfl, ← Int.natCast_add, b_and (by omega), ← hp.2.2, ← mk3, show (2 ^ 4 : Nat) = 16 from rfl]
  have r3 : 0 ≤ iUshr ((fs 16 (pc1 a.testBit) (2 * 4) : Nat) : Int) 4 ∧ iUshr ((fs 16 (pc1 a.testBit) (2 * 4) : Nat) : Int) 4 ≤ 71582788 := by
    rw [show (4 : Int) = ((4 : Nat) : Int) from rfl, k _ 4 (by omega) (by omega), show (2 ^ 4 : Nat) = 16 from rfl]
    omega
  have c0 := pc2_le a.testBit 0
  have c1 := pc2_le a.testBit 1
  have c2 := pc2_le a.testBit 2
  have c3 := pc2_le a.testBit 3
  have f3 := fs_4 (pc2 a.testBit)
  have hc : bc a = pc2 a.testBit 0 + pc2 a.testBit 1 + pc2 a.testBit 2 + pc2 a.testBit 3 := by rw [← cn_31 (by omega), cn_32]
  have e4 : iUshr ((fs 256 (pc2 a.testBit) 4 : Nat) : Int) 8 = ((fs 256 (pc2 a.testBit) 4 / 256 : Nat) : Int) := by
    rw [show (8 : Int) = ((8 : Nat) : Int) from rfl, k _ 8 (by omega) (by omega)]
  have e5 : iUshr ((fs 256 (pc2 a.testBit) 4 + fs 256 (pc2 a.testBit) 4 / 256 : Nat) : Int) 16 = (((fs 256 (pc2 a.testBit) 4 + fs 256 (pc2 a.testBit) 4 / 256) / 65536 : Nat) : Int) := by
    rw [show (16 : Int) = ((16 : Nat) : Int) from rfl, k _ 16 (by omega) (by omega)]
  have e6 : ∀ z : Nat, z < 2 ^ 31 → iAnd (z : Int) 63 = ((z % 64 : Nat) : Int) := by
    intro z hz
    rw [show (63 : Int) = ((63 : Nat) : Int) from rfl, b_and hz, show (63 : Nat) = 2 ^ 6 - 1 from rfl, Nat.and_two_pow_sub_one_eq_mod]
  have fin := pop_ar4 _ _ _ _ _ _ _ c0 c1 c2 c3 f3 rfl rfl
  unfold wp_JI_bitCount
  rw [e1, e2, e3, e4, ← Int.natCast_add, e5, ← Int.natCast_add, e6 _ (by omega), fin, ← hc]
  exact ⟨⟨by omega, by omega⟩, ⟨by omega, by omega⟩, ⟨by omega, by omega⟩, ⟨by omega, by omega⟩, ⟨by omega, by omega⟩, hq⟩
/-! sums -/
def sm (f : Nat → Nat) : Nat → Nat
  | 0 => 0
  | n + 1 => sm f n + f n
theorem sm_s (f : Nat → Nat) (n : Nat) : sm f (n + 1) = sm f n + f n := rfl
theorem sm_congr {f g : Nat → Nat} : ∀ {n : Nat}, (∀ i, i < n → f i = g i) → sm f n = sm g n
  | 0, _ => rfl
  | n + 1, h => by rw [sm_s, sm_s, sm_congr (fun i hi => h i (by omega)), h n (by omega)]
theorem sm_le {f g : Nat → Nat} : ∀ {n : Nat}, (∀ i, i < n → f i ≤ g i) → sm f n ≤ sm g n
  | 0, _ => Nat.le_refl _
  | n + 1, h => by
    have := sm_le (f := f) (g := g) (n := n) (fun i hi => h i (by omega))
    have := h n (by omega)
    rw [sm_s, sm_s]; omega
theorem sm_const (c : Nat) : ∀ n, sm (fun _ => c) n = n * c
  | 0 => (Nat.zero_mul c).symm
  | n + 1 => by rw [sm_s, sm_const c n, Nat.succ_mul]
theorem sm_bd {f : Nat → Nat} {n c : Nat} (h : ∀ i, i < n → f i ≤ c) : sm f n ≤ n * c := by
  rw [← sm_const c n]; exact sm_le h
theorem sm_mono {f : Nat → Nat} {i j : Nat} (h : i ≤ j) : sm f i ≤ sm f j := by
  induction j with
  | zero => rw [Nat.le_zero.mp h]; exact Nat.le_refl _
  | succ j ih =>
    rcases Nat.eq_or_lt_of_le h with e | e
    · rw [e]; exact Nat.le_refl _
    · have := ih (by omega)
      rw [sm_s]; omega
theorem sm_one {f : Nat → Nat} {i n : Nat} (h : i < n) : f i ≤ sm f n := by
  have := sm_mono (f := f) (show i + 1 ≤ n from h)
  rw [sm_s] at this; omega
theorem sm_zero {f : Nat → Nat} : ∀ {n : Nat}, (∀ i, i < n → f i = 0) → sm f n = 0
  | 0, _ => rfl
  | n + 1, h => by rw [sm_s, sm_zero (fun i hi => h i (by omega)), h n (by omega)]
theorem sm_add (f g : Nat → Nat) : ∀ n, sm (fun i => f i + g i) n = sm f n + sm g n
  | 0 => rfl
  | n + 1 => by rw [sm_s, sm_s, sm_s, sm_add f g n]; omega
theorem sm_swap (f : Nat → Nat → Nat) (n : Nat) : ∀ m, sm (fun i => sm (fun j => f i j) n) m = sm (fun j => sm (fun i => f i j) m) n
  | 0 => (sm_zero fun i _ => rfl).symm
  | m + 1 => by
    rw [sm_s, sm_swap f n m, ← sm_add]
    rfl
/-! tallies -/
theorem fs_dig {B : Nat} (hB : 0 < B) : ∀ (n k : Nat) (d : Nat → Nat), (∀ i, i < n → d i < B) → k < n → fs B d n / B ^ k % B = d k
  | 0, k, _, _, h => by omega
  | n + 1, 0, d, hd, _ => by
    show (d 0 + B * fs B (fun i => d (i + 1)) n) / B ^ 0 % B = d 0
    rw [Nat.pow_zero, Nat.div_one, Nat.add_mul_mod_self_left, Nat.mod_eq_of_lt (hd 0 (by omega))]
  | n + 1, k + 1, d, hd, h => by
    rw [Nat.pow_succ, Nat.mul_comm, ← Nat.div_div_eq_div_mul, fs_div B hB n d (hd 0 (by omega))]
    exact fs_dig hB n k (fun i => d (i + 1)) (fun i hi => hd (i + 1) (by omega)) (by omega)
def Tl (x : Int64) (d : Nat → Nat) : Prop := (∀ k, k < 8 → d k < 256) ∧ ln x = fs 256 d 8
theorem Tl.congr {x : Int64} {d e : Nat → Nat} (h : Tl x d) (he : ∀ k, k < 8 → d k = e k) : Tl x e :=
  ⟨fun k hk => by rw [← he k hk]; exact h.1 k hk, by rw [h.2]; exact fs_congr 256 8 d e he⟩
theorem Tl.zero : Tl 0 (fun _ => 0) := ⟨fun _ _ => (by show 0 < 256; omega), by decide +kernel⟩
theorem Tl.add {x y : Int64} {d e : Nat → Nat} (h : Tl x d) (g : Tl y e) (hs : ∀ k, k < 8 → d k + e k < 256) : Tl (x + y) (fun k => d k + e k) := by
  refine ⟨hs, ?_⟩
  have h1 := fs_lt 8 (fun k => d k + e k) hs
  have h2 := fs_add 256 8 d e
  rw [← h2] at h1
  rw [ln_add, h.2, g.2, h2]
  rw [h.2, g.2]
  exact h1
theorem one_tl : ∀ k : Nat, k < 8 → ln (lShl 1 ((k : Int) * 8)) = fs 256 (fun j => if j = k then 1 else 0) 8 := by decide +kernel
theorem Tl.one {k : Nat} (hk : k < 8) : Tl (lShl 1 ((k : Int) * 8)) (fun j => if j = k then 1 else 0) := ⟨fun j _ => by dsimp only; split <;> omega, one_tl k hk⟩
theorem ln_0 {x : Int64} (h : ln x = 0) : x = 0 := by
  apply Int64.toBitVec_inj.1
  apply BitVec.eq_of_toNat_eq
  exact h
theorem Tl.ne {x : Int64} {d : Nat → Nat} (h : Tl x d) : x = 0 ↔ ∀ k, k < 8 → d k = 0 := by
  constructor
  · intro e k hk
    have h1 := fs_dig (B := 256) (by omega) 8 k d h.1 hk
    rw [← h.2, e, show ln 0 = 0 from rfl, Nat.zero_div] at h1
    exact h1.symm
  · intro e
    apply ln_0
    rw [h.2, fs_congr 256 8 d (fun _ => 0) e]
    decide +kernel
theorem l2i_n {y : Int64} (h : ln y < 2 ^ 31) : l2i y = (ln y : Int) := by
  unfold l2i
  have e : y.toInt32 = nI (ln y) := by
    apply Int32.toBitVec_inj.1
    apply BitVec.eq_of_toNat_eq
    show (y.toBitVec.signExtend 32).toNat = _
    rw [BitVec.signExtend_eq_setWidth_of_le _ (by omega), BitVec.toNat_setWidth, nI_bv, BitVec.toNat_ofNat]
    rfl
  rw [e, nI_toInt h]
theorem p256 : ∀ k : Nat, k < 8 → 2 ^ (8 * k) = 256 ^ k := by decide +kernel
theorem b_countIn {x : Int64} {d : Nat → Nat} {k : Nat} {Q : Int → Prop} (h : Tl x d) (hk : k < 8) (hq : Q (d k)) : wp_Query_countIn x k Q := by
  unfold wp_Query_countIn
  refine ⟨⟨by omega, by omega⟩, qe hq ?_⟩
  have e1 : ln (lUshr x ((k : Int) * 8) &&& 255) = d k := by
    rw [ln_and, show (k : Int) * 8 = ((8 * k : Nat) : Int) by omega, ln_ushr (by omega), show ln 255 = 2 ^ 8 - 1 from rfl, Nat.and_two_pow_sub_one_eq_mod, p256 k hk, h.2, show (2 ^ 8 : Nat) = 256 from rfl, fs_dig (by omega) 8 k d h.1 hk]
  have := h.1 k hk
  rw [l2i_n (by omega), e1]
def tms (n : Nat) : Nat := if n = 0 then 0 else if n = 1 then 10 else if n = 2 then 13 else 14
theorem tms_le (n : Nat) : tms n ≤ 14 := by unfold tms; (repeat' split) <;> omega
theorem tms_mono {m n : Nat} (h : m ≤ n) : tms m ≤ tms n := by unfold tms; (repeat' split) <;> omega
def wth (I : Nat) (wt d : Nat → Nat) : Nat := sm (fun k => wt k * tms (d k)) I
def QwA (I : Nat) (wt : Nat → Nat) (qw : Nat → Int) : Prop := I ≤ 8 ∧ ∀ k, k < I → qw k = wt k ∧ 1 ≤ wt k ∧ wt k ≤ 9
theorem wth_le {I : Nat} {wt d : Nat → Nat} {qw : Nat → Int} (h : QwA I wt qw) : wth I wt d ≤ I * 126 := by
  refine sm_bd fun k hk => ?_
  have h1 := (h.2 k hk).2.2
  have h2 := tms_le (d k)
  exact Nat.mul_le_mul h1 h2
theorem wth_congr {I : Nat} {wt d e : Nat → Nat} (h : ∀ k, k < I → d k = e k) : wth I wt d = wth I wt e := sm_congr fun k hk => by rw [h k hk]
theorem tmv_3 {n : Nat} (h : n < 256) : (0 ≤ min (n : Int) (4 - 1) ∧ min (n : Int) (4 - 1) < 4) ∧ tmv (min (n : Int) (4 - 1)).toNat = tms n := by
  have e : (min (n : Int) (4 - 1)) = ((min n 3 : Nat) : Int) := by omega
  rw [e, Int.toNat_natCast]
  refine ⟨by omega, ?_⟩
  rcases Nat.lt_or_ge n 3 with h3 | h3
  · have : n = 0 ∨ n = 1 ∨ n = 2 := by omega
    rcases this with rfl | rfl | rfl <;> rfl
  · rw [Nat.min_eq_right h3]
    unfold tms
    rw [if_neg (by omega), if_neg (by omega), if_neg (by omega)]
    rfl
theorem b_worthOf {I : Nat} {wt d : Nat → Nat} {qw : Nat → Int} {x : Int64} {Q : Int → Prop} (hw : QwA I wt qw) (ht : Tl x d) (hq : Q (wth I wt d)) : wp_Query_worthOf qw I x Q := by
  have hI := hw.1
  unfold wp_Query_worthOf
  refine ⟨fun x y => ∃ k : Nat, y = k ∧ k ≤ I ∧ x = sm (fun k => wt k * tms (d k)) k, fun _ y => I - y.toNat, ⟨0, rfl, by omega, rfl⟩, ?_⟩
  rintro x y ⟨k, rfl, hk, rfl⟩
  refine ⟨fun h => qe hq ?_, fun h => ⟨⟨by omega, by omega⟩, b_countIn ht (by omega) ⟨⟨by omega, by omega⟩, ?_⟩⟩⟩
  · rw [show k = I by omega]; rfl
  · have h1 := tmv_3 (ht.1 k (by omega))
    have h2 := hw.2 k (by omega)
    have h3 : sm (fun k => wt k * tms (d k)) k ≤ k * 126 := wth_le (I := k) (d := d) ⟨by omega, fun j hj => hw.2 j (by omega)⟩
    have h4 : wt k * tms (d k) ≤ 9 * 14 := Nat.mul_le_mul h2.2.2 (tms_le _)
    rw [h1.2, Int.toNat_natCast, h2.1, ← Int.natCast_mul]
    refine ⟨h1.1, ⟨by omega, by omega⟩, ⟨by omega, by omega⟩, ⟨by omega, by omega⟩, ⟨k + 1, by omega, by omega, ?_⟩, by dsimp only; omega⟩
    rw [sm_s]; omega
theorem b_itemsOf {I : Nat} {d : Nat → Nat} {x : Int64} {Q : Int → Prop} (hI : I ≤ 8) (ht : Tl x d) (hq : Q (bs (fun k => decide (0 < d k)) I)) : wp_Query_itemsOf I x Q := by
  unfold wp_Query_itemsOf
  refine ⟨fun x y => ∃ k : Nat, y = k ∧ k ≤ I ∧ x = bs (fun k => decide (0 < d k)) k, fun _ y => I - y.toNat, ⟨0, rfl, by omega, rfl⟩, ?_⟩
  rintro x y ⟨k, rfl, hk, rfl⟩
  refine ⟨fun h => qe hq ?_, fun h => b_countIn ht (by omega) (jn1_i ⟨fun h2 => ⟨⟨by omega, by omega⟩, ⟨k + 1, by omega, by omega, ?_⟩, by dsimp only; omega⟩, fun h2 => ⟨⟨by omega, by omega⟩, ⟨k + 1, by omega, by omega, ?_⟩, by dsimp only; omega⟩⟩)⟩
  · rw [show k = I by omega]
  · rw [b_or0 (bs_31 _ (by omega)), bs_f (decide_eq_false (by omega))]
  · rw [b_orb (bs_31 _ (by omega)) (by omega), bs_t (decide_eq_true (by omega))]
