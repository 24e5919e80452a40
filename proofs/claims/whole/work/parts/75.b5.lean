/-! B5: bits of longs, bit counts -/
def lb (x : Int64) (i : Nat) : Bool := x.toBitVec.getLsbD i
theorem lb_0 (i : Nat) : lb 0 i = false := by
  unfold lb
  show (0#64).getLsbD i = false
  simp
theorem lb_and (x y : Int64) (i : Nat) : lb (x &&& y) i = (lb x i && lb y i) := by
  unfold lb
  rw [Int64.toBitVec_and, BitVec.getLsbD_and]
theorem lb_or (x y : Int64) (i : Nat) : lb (x ||| y) i = (lb x i || lb y i) := by
  unfold lb
  rw [Int64.toBitVec_or, BitVec.getLsbD_or]
theorem lShl_1 : ∀ v : Nat, v < 64 → (lShl 1 (v : Int)).toBitVec = BitVec.twoPow 64 v := by decide +kernel
theorem lb_shl {v : Nat} (hv : v < 64) (i : Nat) : lb (lShl 1 v) i = decide (i = v) := by
  unfold lb
  rw [lShl_1 v hv, BitVec.getLsbD_twoPow]
  by_cases e : i = v
  · subst e; simp [hv]
  · have e2 : ¬ v = i := fun h => e h.symm
    simp [e, e2]
/-- numbers by digits of a width -/
def fs (B : Nat) (d : Nat → Nat) : Nat → Nat
  | 0 => 0
  | n + 1 => d 0 + B * fs B (fun i => d (i + 1)) n
theorem fs_congr (B : Nat) : ∀ (n : Nat) (d e : Nat → Nat), (∀ i, i < n → d i = e i) → fs B d n = fs B e n
  | 0, _, _, _ => rfl
  | n + 1, d, e, h => by
    show d 0 + B * fs B (fun i => d (i + 1)) n = e 0 + B * fs B (fun i => e (i + 1)) n
    rw [h 0 (by omega), fs_congr B n _ _ (fun i hi => h (i + 1) (by omega))]
theorem and_split (a c x y k : Nat) (ha : a < 2 ^ k) (hc : c < 2 ^ k) : (a + 2 ^ k * x) &&& (c + 2 ^ k * y) = (a &&& c) + 2 ^ k * (x &&& y) := by
  have h1 : ((a + 2 ^ k * x) &&& (c + 2 ^ k * y)) / 2 ^ k = x &&& y := by
    rw [Nat.and_div_two_pow, Nat.add_mul_div_left _ _ (Nat.two_pow_pos k), Nat.add_mul_div_left _ _ (Nat.two_pow_pos k), Nat.div_eq_of_lt ha, Nat.div_eq_of_lt hc, Nat.zero_add, Nat.zero_add]
  have h2 : ((a + 2 ^ k * x) &&& (c + 2 ^ k * y)) % 2 ^ k = a &&& c := by
    rw [Nat.and_mod_two_pow, Nat.add_mul_mod_self_left, Nat.add_mul_mod_self_left, Nat.mod_eq_of_lt ha, Nat.mod_eq_of_lt hc]
  have h3 := Nat.div_add_mod ((a + 2 ^ k * x) &&& (c + 2 ^ k * y)) (2 ^ k)
  rw [h1, h2] at h3
  omega
/-- one step: two digits of width w into one of width 2w -/
theorem fs_and (w : Nat) (hw : 0 < w) : ∀ (n : Nat) (d : Nat → Nat), (∀ i, d i < 2 ^ w) → fs (2 ^ w) d (2 * n) &&& fs (2 ^ (2 * w)) (fun _ => 2 ^ w - 1) n = fs (2 ^ (2 * w)) (fun i => d (2 * i)) n
  | 0, _, _ => Nat.zero_and _
  | n + 1, d, h => by
    have e : fs (2 ^ w) d (2 * (n + 1)) = (d 0 + 2 ^ w * d 1) + 2 ^ (2 * w) * fs (2 ^ w) (fun i => d (i + 2)) (2 * n) := by
      rw [show 2 * (n + 1) = 2 * n + 1 + 1 by omega]
      show d 0 + 2 ^ w * (d 1 + 2 ^ w * fs (2 ^ w) (fun i => d (i + 1 + 1)) (2 * n)) = _
      rw [Nat.mul_add, ← Nat.mul_assoc, ← Nat.pow_add, ← Nat.add_assoc, show w + w = 2 * w by omega]
    have hp : 2 ^ (2 * w) = 2 ^ w * 2 ^ w := by rw [← Nat.pow_add, show w + w = 2 * w by omega]
    have p1 : 0 < 2 ^ w := Nat.two_pow_pos w
    have h0 : d 0 + 2 ^ w * d 1 < 2 ^ (2 * w) := by
      have := h 0
      have h1 := h 1
      have : 2 ^ w * (d 1 + 1) ≤ 2 ^ w * 2 ^ w := Nat.mul_le_mul_left _ h1
      rw [hp]
      rw [Nat.mul_add] at this
      omega
    have hm : 2 ^ w - 1 < 2 ^ (2 * w) := by
      have : 2 ^ w * 1 ≤ 2 ^ w * 2 ^ w := Nat.mul_le_mul_left _ p1
      omega
    show fs (2 ^ w) d (2 * (n + 1)) &&& ((2 ^ w - 1) + 2 ^ (2 * w) * fs (2 ^ (2 * w)) (fun _ => 2 ^ w - 1) n) = d (2 * 0) + 2 ^ (2 * w) * fs (2 ^ (2 * w)) (fun i => d (2 * (i + 1))) n
    rw [e, and_split _ _ _ _ _ h0 hm, fs_and w hw n (fun i => d (i + 2)) (fun i => h (i + 2)), Nat.and_two_pow_sub_one_eq_mod, Nat.add_mul_mod_self_left, Nat.mod_eq_of_lt (h 0)]
    rfl
theorem fs_div (B : Nat) (hB : 0 < B) (n : Nat) (d : Nat → Nat) (h : d 0 < B) : fs B d (n + 1) / B = fs B (fun i => d (i + 1)) n := by
  show (d 0 + B * fs B (fun i => d (i + 1)) n) / B = _
  rw [Nat.add_mul_div_left _ _ hB, Nat.div_eq_of_lt h, Nat.zero_add]
/-- a digit more, that is 0 -/
theorem fs_pad (B : Nat) : ∀ (n : Nat) (d : Nat → Nat), d n = 0 → fs B d (n + 1) = fs B d n
  | 0, d, h => by show d 0 + B * 0 = 0; rw [h]; rfl
  | n + 1, d, h => by
    show d 0 + B * fs B (fun i => d (i + 1)) (n + 1) = d 0 + B * fs B (fun i => d (i + 1)) n
    rw [fs_pad B n (fun i => d (i + 1)) h]
theorem fs_add (B : Nat) : ∀ (n : Nat) (d e : Nat → Nat), fs B d n + fs B e n = fs B (fun i => d i + e i) n
  | 0, _, _ => rfl
  | n + 1, d, e => by
    show (d 0 + B * fs B (fun i => d (i + 1)) n) + (e 0 + B * fs B (fun i => e (i + 1)) n) = (d 0 + e 0) + B * fs B (fun i => d (i + 1) + e (i + 1)) n
    rw [← fs_add B n, Nat.mul_add]
    omega
theorem fs_two (w : Nat) : ∀ (n : Nat) (d : Nat → Nat), fs (2 ^ w) d (2 * n) = fs (2 ^ (2 * w)) (fun i => d (2 * i) + 2 ^ w * d (2 * i + 1)) n
  | 0, _ => rfl
  | n + 1, d => by
    rw [show 2 * (n + 1) = 2 * n + 1 + 1 by omega]
    show d 0 + 2 ^ w * (d 1 + 2 ^ w * fs (2 ^ w) (fun i => d (i + 1 + 1)) (2 * n)) = (d 0 + 2 ^ w * d 1) + 2 ^ (2 * w) * fs (2 ^ (2 * w)) (fun i => d (2 * (i + 1)) + 2 ^ w * d (2 * (i + 1) + 1)) n
    rw [fs_two w n, Nat.mul_add, ← Nat.mul_assoc, ← Nat.pow_add, ← Nat.add_assoc, show w + w = 2 * w by omega]
    rfl
/-- the sum of the digits above half, by mask and shift -/
theorem fs_hi (w : Nat) (hw : 0 < w) (n : Nat) (d : Nat → Nat) (h : ∀ i, d i < 2 ^ w) (hz : d (2 * n) = 0) : (fs (2 ^ w) d (2 * n) / 2 ^ w) &&& fs (2 ^ (2 * w)) (fun _ => 2 ^ w - 1) n = fs (2 ^ (2 * w)) (fun i => d (2 * i + 1)) n := by
  have e1 : fs (2 ^ w) d (2 * n) / 2 ^ w = fs (2 ^ w) (fun i => d (i + 1)) (2 * n) := by
    rw [← fs_pad (2 ^ w) (2 * n) d hz, fs_div _ (Nat.two_pow_pos w) _ _ (h 0)]
  rw [e1, fs_and w hw n (fun i => d (i + 1)) (fun i => h (i + 1))]
def b2n (p : Nat → Bool) (i : Nat) : Nat := if p i then 1 else 0
theorem fs_bits (x : Nat) : ∀ n, x < 2 ^ n → fs 2 (b2n x.testBit) n = x := by
  intro n
  induction n generalizing x with
  | zero => intro h; show 0 = x; omega
  | succ n ih =>
    intro h
    show b2n x.testBit 0 + 2 * fs 2 (fun i => b2n x.testBit (i + 1)) n = x
    have e : (fun i => b2n x.testBit (i + 1)) = b2n (x / 2).testBit := by
      funext i
      unfold b2n
      rw [Nat.testBit_succ]
    rw [e, ih (x / 2) (by rw [Nat.pow_succ] at h; omega)]
    unfold b2n
    rw [Nat.testBit_zero]
    rcases Nat.mod_two_eq_zero_or_one x with h2 | h2 <;> simp [h2] <;> omega
def pc0 (p : Nat → Bool) (i : Nat) : Nat := b2n p (2 * i) + b2n p (2 * i + 1)
def pc1 (p : Nat → Bool) (i : Nat) : Nat := pc0 p (2 * i) + pc0 p (2 * i + 1)
def pc2 (p : Nat → Bool) (i : Nat) : Nat := pc1 p (2 * i) + pc1 p (2 * i + 1)
theorem b2n_le (p : Nat → Bool) (i : Nat) : b2n p i ≤ 1 := by unfold b2n; split <;> omega
theorem pc0_le (p : Nat → Bool) (i : Nat) : pc0 p i ≤ 2 := by have := b2n_le p (2 * i); have := b2n_le p (2 * i + 1); unfold pc0; omega
theorem pc1_le (p : Nat → Bool) (i : Nat) : pc1 p i ≤ 4 := by have := pc0_le p (2 * i); have := pc0_le p (2 * i + 1); unfold pc1; omega
theorem pc2_le (p : Nat → Bool) (i : Nat) : pc2 p i ≤ 8 := by have := pc1_le p (2 * i); have := pc1_le p (2 * i + 1); unfold pc2; omega
/-- the first three steps of the count: n bytes -/
theorem pop3 (x n : Nat) (hx : x < 2 ^ (8 * n)) :
    x - ((x / 2) &&& fs 4 (fun _ => 1) (4 * n)) = fs 4 (pc0 x.testBit) (4 * n)
    ∧ (fs 4 (pc0 x.testBit) (4 * n) &&& fs 16 (fun _ => 3) (2 * n)) + ((fs 4 (pc0 x.testBit) (4 * n) / 4) &&& fs 16 (fun _ => 3) (2 * n)) = fs 16 (pc1 x.testBit) (2 * n)
    ∧ ((fs 16 (pc1 x.testBit) (2 * n) + fs 16 (pc1 x.testBit) (2 * n) / 16) &&& fs 256 (fun _ => 15) n) = fs 256 (pc2 x.testBit) n := by
  have hz : ∀ i, 8 * n ≤ i → b2n x.testBit i = 0 := by
    intro i hi
    unfold b2n
    rw [Nat.testBit_lt_two_pow (Nat.lt_of_lt_of_le hx (Nat.pow_le_pow_right (by omega) hi))]
    rfl
  refine ⟨?_, ?_, ?_⟩
  · have e := fs_bits x (8 * n) hx
    have h1 := fs_hi 1 (by omega) (4 * n) (b2n x.testBit) (fun i => by have := b2n_le x.testBit i; omega) (hz _ (by omega))
    rw [show 2 * (4 * n) = 8 * n by omega] at h1
    have h1 : (fs 2 (b2n x.testBit) (8 * n) / 2) &&& fs 4 (fun _ => 1) (4 * n) = fs 4 (fun i => b2n x.testBit (2 * i + 1)) (4 * n) := h1
    rw [e] at h1
    rw [h1]
    have h2 := fs_two 1 (4 * n) (b2n x.testBit)
    rw [show 2 * (4 * n) = 8 * n by omega] at h2
    have h2 : fs 2 (b2n x.testBit) (8 * n) = fs 4 (fun i => b2n x.testBit (2 * i) + 2 * b2n x.testBit (2 * i + 1)) (4 * n) := h2
    rw [e] at h2
    have h3 := fs_add 4 (4 * n) (pc0 x.testBit) (fun i => b2n x.testBit (2 * i + 1))
    have h4 : fs 4 (fun i => pc0 x.testBit i + b2n x.testBit (2 * i + 1)) (4 * n) = x := by
      refine Eq.trans ?_ h2.symm
      refine fs_congr 4 _ _ _ fun i _ => ?_
      unfold pc0; omega
    omega
  · have hz1 : pc0 x.testBit (4 * n) = 0 := by unfold pc0; rw [hz _ (by omega), hz _ (by omega)]
    have h0 : ∀ i, pc0 x.testBit i < 2 ^ 2 := fun i => by have := pc0_le x.testBit i; omega
    have h1 := fs_hi 2 (by omega) (2 * n) (pc0 x.testBit) h0 (by rw [show 2 * (2 * n) = 4 * n by omega]; exact hz1)
    have h2 := fs_and 2 (by omega) (2 * n) (pc0 x.testBit) h0
    rw [show 2 * (2 * n) = 4 * n by omega] at h1 h2
    have h1 : (fs 4 (pc0 x.testBit) (4 * n) / 4) &&& fs 16 (fun _ => 3) (2 * n) = fs 16 (fun i => pc0 x.testBit (2 * i + 1)) (2 * n) := h1
    have h2 : fs 4 (pc0 x.testBit) (4 * n) &&& fs 16 (fun _ => 3) (2 * n) = fs 16 (fun i => pc0 x.testBit (2 * i)) (2 * n) := h2
    rw [h1, h2, fs_add]
    rfl
  · have hz1 : pc1 x.testBit (2 * n) = 0 := by unfold pc1 pc0; rw [hz _ (by omega), hz _ (by omega), hz _ (by omega), hz _ (by omega)]
    have e1 : fs 16 (pc1 x.testBit) (2 * n) / 16 = fs 16 (fun i => pc1 x.testBit (i + 1)) (2 * n) := by
      rw [← fs_pad 16 (2 * n) _ hz1, fs_div _ (by omega) _ _ (by have := pc1_le x.testBit 0; omega)]
    rw [e1, fs_add]
    have h2 := fs_and 4 (by omega) n (fun i => pc1 x.testBit i + pc1 x.testBit (i + 1)) (fun i => by have := pc1_le x.testBit i; have := pc1_le x.testBit (i + 1); omega)
    exact h2
/-- the last steps -/
theorem cn_b2n (p : Nat → Bool) (n : Nat) : cn p (n + 1) = cn p n + b2n p n := rfl
theorem cn_byte (p : Nat → Bool) (n : Nat) : cn p (8 * (n + 1)) = cn p (8 * n) + pc2 p n := by
  rw [show 8 * (n + 1) = 8 * n + 1 + 1 + 1 + 1 + 1 + 1 + 1 + 1 by omega]
  rw [cn_b2n, cn_b2n, cn_b2n, cn_b2n, cn_b2n, cn_b2n, cn_b2n, cn_b2n]
  unfold pc2 pc1 pc0
  rw [show 2 * (2 * (2 * n)) = 8 * n by omega, show 2 * (2 * (2 * n) + 1) = 8 * n + 2 by omega, show 2 * (2 * (2 * n + 1)) = 8 * n + 4 by omega, show 2 * (2 * (2 * n + 1) + 1) = 8 * n + 6 by omega, show 8 * n + 2 + 1 = 8 * n + 3 by omega, show 8 * n + 4 + 1 = 8 * n + 5 by omega, show 8 * n + 6 + 1 = 8 * n + 7 by omega]
  generalize cn p (8 * n) = c
  generalize b2n p (8 * n) = x0
  generalize b2n p (8 * n + 1) = x1
  generalize b2n p (8 * n + 2) = x2
  generalize b2n p (8 * n + 3) = x3
  generalize b2n p (8 * n + 4) = x4
  generalize b2n p (8 * n + 5) = x5
  generalize b2n p (8 * n + 6) = x6
  generalize b2n p (8 * n + 7) = x7
  omega
theorem cn_64 (p : Nat → Bool) : cn p 64 = pc2 p 0 + pc2 p 1 + pc2 p 2 + pc2 p 3 + pc2 p 4 + pc2 p 5 + pc2 p 6 + pc2 p 7 := by
  rw [show (64 : Nat) = 8 * (7 + 1) from rfl, cn_byte, show (8 * 7 : Nat) = 8 * (6 + 1) from rfl, cn_byte, show (8 * 6 : Nat) = 8 * (5 + 1) from rfl, cn_byte, show (8 * 5 : Nat) = 8 * (4 + 1) from rfl, cn_byte, show (8 * 4 : Nat) = 8 * (3 + 1) from rfl, cn_byte, show (8 * 3 : Nat) = 8 * (2 + 1) from rfl, cn_byte, show (8 * 2 : Nat) = 8 * (1 + 1) from rfl, cn_byte, show (8 * 1 : Nat) = 8 * (0 + 1) from rfl, cn_byte, Nat.mul_zero, show cn p 0 = 0 from rfl, Nat.zero_add]
def ln (x : Int64) : Nat := x.toBitVec.toNat
theorem ln_lt (x : Int64) : ln x < 2 ^ 64 := x.toBitVec.isLt
theorem ln_and (x y : Int64) : ln (x &&& y) = ln x &&& ln y := by
  unfold ln; rw [Int64.toBitVec_and, BitVec.toNat_and]
theorem ln_add {x y : Int64} (h : ln x + ln y < 2 ^ 64) : ln (x + y) = ln x + ln y := by
  unfold ln at *; rw [Int64.toBitVec_add, BitVec.toNat_add, Nat.mod_eq_of_lt h]
theorem ln_sub {x y : Int64} (h : ln y ≤ ln x) : ln (x - y) = ln x - ln y := by
  have h1 := ln_lt x
  have h2 := ln_lt y
  unfold ln at *; rw [Int64.toBitVec_sub, BitVec.toNat_sub]; omega
theorem ln_su : ∀ k : Nat, k < 64 → ((Int32.ofInt k).toInt64.toUInt64 &&& Int64.toUInt64 63).toNat % 64 = k := by decide +kernel
theorem ln_ushr {x : Int64} {k : Nat} (hk : k < 64) : ln (lUshr x k) = ln x / 2 ^ k := by
  unfold lUshr ln
  show (x.toUInt64 >>> ((Int32.ofInt k).toInt64.toUInt64 &&& Int64.toUInt64 63)).toNat = _
  rw [UInt64.toNat_shiftRight, ln_su k hk, Nat.shiftRight_eq_div_pow]
  rfl
theorem ln_l2i (x : Int64) : iAnd (l2i x) 127 = ((ln x % 128 : Nat) : Int) := by
  unfold iAnd l2i
  rw [Int32.ofInt_toInt]
  have e : (x.toInt32 &&& Int32.ofInt 127) = nI (ln x % 128) := by
    apply Int32.toBitVec_inj.1
    rw [Int32.toBitVec_and]
    apply BitVec.eq_of_toNat_eq
    rw [BitVec.toNat_and]
    show (x.toBitVec.signExtend 32).toNat &&& 127 = _
    rw [BitVec.signExtend_eq_setWidth_of_le _ (by omega), BitVec.toNat_setWidth, show 127 = 2 ^ 7 - 1 from rfl, Nat.and_two_pow_sub_one_eq_mod, nI_bv, BitVec.toNat_ofNat]
    unfold ln
    omega
  rw [e, nI_toInt (by omega)]
theorem lb_tb (x : Int64) : lb x = (ln x).testBit := by
  funext i
  unfold lb ln
  rw [BitVec.testBit_toNat]
theorem msk1 : ln 6148914691236517205 = fs 4 (fun _ => 1) (4 * 8) := by decide +kernel
theorem msk2 : ln 3689348814741910323 = fs 16 (fun _ => 3) (2 * 8) := by decide +kernel
theorem msk3 : ln 1085102592571150095 = fs 256 (fun _ => 15) 8 := by decide +kernel
theorem fs_le {B M : Nat} (hB : 1 ≤ B) : ∀ (n : Nat) (d : Nat → Nat), (∀ i, d i ≤ M) → fs B d n ≤ fs B (fun _ => M) n
  | 0, _, _ => Nat.le_refl _
  | n + 1, d, h => by
    show d 0 + B * fs B (fun i => d (i + 1)) n ≤ M + B * fs B (fun _ => M) n
    have h1 := Nat.mul_le_mul_left B (fs_le hB n (fun i => d (i + 1)) (fun i => h (i + 1)))
    have := h 0
    omega
theorem pq1 (d r z : Nat) (h : z = d + 256 * r) (hd : d < 256) : z / 256 = r := by omega
theorem pq2 (a b r z : Nat) (h : z = a + 256 * (b + 256 * r)) (ha : a < 256) (hb : b < 256) : z / 65536 = r := by omega
theorem pq4 (a b c d r z : Nat) (h : z = a + 256 * (b + 256 * (c + 256 * (d + 256 * r)))) (ha : a < 256) (hb : b < 256) (hc : c < 256) (hd : d < 256) : z / 4294967296 = r := by omega
theorem pad (a b r s x y : Nat) (hx : x = a + 256 * r) (hy : y = b + 256 * s) : x + y = (a + b) + 256 * (r + s) := by omega
theorem pbd (a r x M : Nat) (hx : x = a + 256 * r) (ha : a ≤ 8) (hr : r ≤ M) : x ≤ 8 + 256 * M := by omega
theorem pend (f0 f4 t1 t5 z5 t4 : Nat) (h1 : z5 = f0 + 256 * t1) (h2 : t4 = f4 + 256 * t5) (hf : f0 + f4 < 128) : (z5 + t4) % 128 = f0 + f4 := by omega
theorem pop_ar (d0 d1 d2 d3 d4 d5 d6 d7 r1 r2 r3 r4 r5 r6 r7 z3 z4 z5 z6 : Nat) (c0 : d0 ≤ 8) (c1 : d1 ≤ 8) (c2 : d2 ≤ 8) (c3 : d3 ≤ 8) (c4 : d4 ≤ 8) (c5 : d5 ≤ 8) (c6 : d6 ≤ 8) (c7 : d7 ≤ 8)
    (e3 : z3 = d0 + 256 * r1) (g1 : r1 = d1 + 256 * r2) (g2 : r2 = d2 + 256 * r3) (g3 : r3 = d3 + 256 * r4) (g4 : r4 = d4 + 256 * r5) (g5 : r5 = d5 + 256 * r6) (g6 : r6 = d6 + 256 * r7) (g7 : r7 = d7 + 256 * 0)
    (h4 : z3 + z3 / 256 < 2 ^ 64 → z4 = z3 + z3 / 256) (h5 : z4 + z4 / 65536 < 2 ^ 64 → z5 = z4 + z4 / 65536) (h6 : z5 + z5 / 4294967296 < 2 ^ 64 → z6 = z5 + z5 / 4294967296) : z6 % 128 = d0 + d1 + d2 + d3 + d4 + d5 + d6 + d7 := by
  have b7 := pbd _ _ _ 0 g7 c7 (Nat.le_refl 0)
  have b6 := pbd _ _ _ _ g6 c6 b7
  have b5 := pbd _ _ _ _ g5 c5 b6
  have b4 := pbd _ _ _ _ g4 c4 b5
  have b3 := pbd _ _ _ _ g3 c3 b4
  have b2 := pbd _ _ _ _ g2 c2 b3
  have b1 := pbd _ _ _ _ g1 c1 b2
  have b0 := pbd _ _ _ _ e3 c0 b1
  have q3 := pq1 _ _ _ e3 (by omega)
  rw [q3] at h4
  have s0 := pad _ _ _ _ _ _ e3 g1
  have s1 := pad _ _ _ _ _ _ g1 g2
  have s2 := pad _ _ _ _ _ _ g2 g3
  have s3 := pad _ _ _ _ _ _ g3 g4
  have s4 := pad _ _ _ _ _ _ g4 g5
  have s5 := pad _ _ _ _ _ _ g5 g6
  have s6 := pad _ _ _ _ _ _ g6 g7
  have s7 := g7
  clear e3 g1 g2 g3 g4 g5 g6
  have e4 := h4 (by clear h4 h5 h6 s0 s1 s2 s3 s4 s5 s6 s7 g7 q3; omega)
  clear h4
  rw [← e4] at s0
  have q4 := pq2 _ _ _ _ (show z4 = (d0 + d1) + 256 * ((d1 + d2) + 256 * (r2 + r3)) by rw [s0, s1]) (by omega) (by omega)
  rw [q4] at h5
  have t0 := pad _ _ _ _ _ _ s0 s2
  have t1 := pad _ _ _ _ _ _ s1 s3
  have t2 := pad _ _ _ _ _ _ s2 s4
  have t3 := pad _ _ _ _ _ _ s3 s5
  have t4 := pad _ _ _ _ _ _ s4 s6
  clear s0 s1 s2 s3 s4 s5 s6 s7 g7
  have e5 := h5 (by clear h5 h6 t0 t1 t2 t3 t4 q3 q4; omega)
  clear h5
  rw [← e5] at t0
  have q5 := pq4 _ _ _ _ _ _ (show z5 = (d0 + d1 + (d2 + d3)) + 256 * ((d1 + d2 + (d3 + d4)) + 256 * ((d2 + d3 + (d4 + d5)) + 256 * ((d3 + d4 + (d5 + d6)) + 256 * (r4 + r5 + (r6 + r7))))) by rw [t0, t1, t2, t3]) (by omega) (by omega) (by omega) (by omega)
  rw [q5] at h6
  have e6 := h6 (by clear h6 t0 t1 t2 t3 t4 q3 q4 q5; omega)
  have fin := pend _ _ _ _ _ _ t0 t4 (by clear h6 e6 e5 e4 t0 t1 t2 t3 t4 q3 q4 q5; omega)
  rw [e6, fin]
  clear h6 e6 e5 e4 t0 t1 t2 t3 t4 q3 q4 q5 fin
  omega
