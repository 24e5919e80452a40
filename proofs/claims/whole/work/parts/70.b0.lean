/-! B: tools for the formulas -/
theorem jn1_i {A1 : Type} {F : (A1 → Prop) → Prop} {T : A1 → Prop} (h : F T) : jn1 F T := ⟨T, fun _ q => q, h⟩
theorem jn2_i {A1 A2 : Type} {F : (A1 → A2 → Prop) → Prop} {T : A1 → A2 → Prop} (h : F T) : jn2 F T := ⟨T, fun _ _ q => q, h⟩
theorem jn3_i {A1 A2 A3 : Type} {F : (A1 → A2 → A3 → Prop) → Prop} {T : A1 → A2 → A3 → Prop} (h : F T) : jn3 F T := ⟨T, fun _ _ _ q => q, h⟩
theorem jn4_i {A1 A2 A3 A4 : Type} {F : (A1 → A2 → A3 → A4 → Prop) → Prop} {T : A1 → A2 → A3 → A4 → Prop} (h : F T) : jn4 F T := ⟨T, fun _ _ _ _ q => q, h⟩
theorem jn5_i {A1 A2 A3 A4 A5 : Type} {F : (A1 → A2 → A3 → A4 → A5 → Prop) → Prop} {T : A1 → A2 → A3 → A4 → A5 → Prop} (h : F T) : jn5 F T := ⟨T, fun _ _ _ _ _ q => q, h⟩
theorem jn6_i {A1 A2 A3 A4 A5 A6 : Type} {F : (A1 → A2 → A3 → A4 → A5 → A6 → Prop) → Prop} {T : A1 → A2 → A3 → A4 → A5 → A6 → Prop} (h : F T) : jn6 F T := ⟨T, fun _ _ _ _ _ _ q => q, h⟩
theorem jn7_i {A1 A2 A3 A4 A5 A6 A7 : Type} {F : (A1 → A2 → A3 → A4 → A5 → A6 → A7 → Prop) → Prop} {T : A1 → A2 → A3 → A4 → A5 → A6 → A7 → Prop} (h : F T) : jn7 F T := ⟨T, fun _ _ _ _ _ _ _ q => q, h⟩
theorem jn8_i {A1 A2 A3 A4 A5 A6 A7 A8 : Type} {F : (A1 → A2 → A3 → A4 → A5 → A6 → A7 → A8 → Prop) → Prop} {T : A1 → A2 → A3 → A4 → A5 → A6 → A7 → A8 → Prop} (h : F T) : jn8 F T := ⟨T, fun _ _ _ _ _ _ _ _ q => q, h⟩
theorem jn9_i {A1 A2 A3 A4 A5 A6 A7 A8 A9 : Type} {F : (A1 → A2 → A3 → A4 → A5 → A6 → A7 → A8 → A9 → Prop) → Prop} {T : A1 → A2 → A3 → A4 → A5 → A6 → A7 → A8 → A9 → Prop} (h : F T) : jn9 F T := ⟨T, fun _ _ _ _ _ _ _ _ _ q => q, h⟩
theorem jn10_i {A1 A2 A3 A4 A5 A6 A7 A8 A9 A10 : Type} {F : (A1 → A2 → A3 → A4 → A5 → A6 → A7 → A8 → A9 → A10 → Prop) → Prop} {T : A1 → A2 → A3 → A4 → A5 → A6 → A7 → A8 → A9 → A10 → Prop} (h : F T) : jn10 F T := ⟨T, fun _ _ _ _ _ _ _ _ _ _ q => q, h⟩
theorem jn11_i {A1 A2 A3 A4 A5 A6 A7 A8 A9 A10 A11 : Type} {F : (A1 → A2 → A3 → A4 → A5 → A6 → A7 → A8 → A9 → A10 → A11 → Prop) → Prop} {T : A1 → A2 → A3 → A4 → A5 → A6 → A7 → A8 → A9 → A10 → A11 → Prop} (h : F T) : jn11 F T := ⟨T, fun _ _ _ _ _ _ _ _ _ _ _ q => q, h⟩
theorem jn12_i {A1 A2 A3 A4 A5 A6 A7 A8 A9 A10 A11 A12 : Type} {F : (A1 → A2 → A3 → A4 → A5 → A6 → A7 → A8 → A9 → A10 → A11 → A12 → Prop) → Prop} {T : A1 → A2 → A3 → A4 → A5 → A6 → A7 → A8 → A9 → A10 → A11 → A12 → Prop} (h : F T) : jn12 F T := ⟨T, fun _ _ _ _ _ _ _ _ _ _ _ _ q => q, h⟩
theorem jn13_i {A1 A2 A3 A4 A5 A6 A7 A8 A9 A10 A11 A12 A13 : Type} {F : (A1 → A2 → A3 → A4 → A5 → A6 → A7 → A8 → A9 → A10 → A11 → A12 → A13 → Prop) → Prop} {T : A1 → A2 → A3 → A4 → A5 → A6 → A7 → A8 → A9 → A10 → A11 → A12 → A13 → Prop} (h : F T) : jn13 F T := ⟨T, fun _ _ _ _ _ _ _ _ _ _ _ _ _ q => q, h⟩
theorem jn14_i {A1 A2 A3 A4 A5 A6 A7 A8 A9 A10 A11 A12 A13 A14 : Type} {F : (A1 → A2 → A3 → A4 → A5 → A6 → A7 → A8 → A9 → A10 → A11 → A12 → A13 → A14 → Prop) → Prop} {T : A1 → A2 → A3 → A4 → A5 → A6 → A7 → A8 → A9 → A10 → A11 → A12 → A13 → A14 → Prop} (h : F T) : jn14 F T := ⟨T, fun _ _ _ _ _ _ _ _ _ _ _ _ _ _ q => q, h⟩
theorem jn0_i {F : Prop → Prop} {T : Prop} (h : F T) : jn0 F T := ⟨T, fun q => q, h⟩
theorem ofI_n (n : Nat) : Int32.ofInt (n : Int) = nI n := Int32.ofInt_eq_ofNat
theorem nI_bv (n : Nat) : (nI n).toBitVec = BitVec.ofNat 32 n := rfl
theorem n_and (a b : Nat) : nI a &&& nI b = nI (a &&& b) := by
  apply Int32.toBitVec_inj.1
  show BitVec.ofNat 32 a &&& BitVec.ofNat 32 b = BitVec.ofNat 32 (a &&& b)
  apply BitVec.eq_of_getLsbD_eq
  intro i hi
  simp [hi]
theorem n_or (a b : Nat) : nI a ||| nI b = nI (a ||| b) := by
  apply Int32.toBitVec_inj.1
  show BitVec.ofNat 32 a ||| BitVec.ofNat 32 b = BitVec.ofNat 32 (a ||| b)
  apply BitVec.eq_of_getLsbD_eq
  intro i hi
  simp [hi]
theorem n_xor (a b : Nat) : nI a ^^^ nI b = nI (a ^^^ b) := by
  apply Int32.toBitVec_inj.1
  show BitVec.ofNat 32 a ^^^ BitVec.ofNat 32 b = BitVec.ofNat 32 (a ^^^ b)
  apply BitVec.eq_of_getLsbD_eq
  intro i hi
  simp [hi]
theorem n_sl : ∀ n, n < 32 → ((nI n &&& 31).toBitVec.smod 32).toNat = n := by decide +kernel
theorem n_su : ∀ n, n < 32 → (((nI n).toUInt32 &&& Int32.toUInt32 31).toBitVec % 32).toNat = n := by decide +kernel
theorem and_lt31 {a b : Nat} (ha : a < 2 ^ 31) : a &&& b < 2 ^ 31 := Nat.lt_of_le_of_lt Nat.and_le_left ha
/-- bits of sets as Nats below 2^31 -/
theorem b_and {a b : Nat} (ha : a < 2 ^ 31) : iAnd a b = ((a &&& b : Nat) : Int) := by
  unfold iAnd
  rw [ofI_n, ofI_n, n_and, nI_toInt (and_lt31 ha)]
theorem b_or {a b : Nat} (ha : a < 2 ^ 31) (hb : b < 2 ^ 31) : iOr a b = ((a ||| b : Nat) : Int) := by
  unfold iOr
  rw [ofI_n, ofI_n, n_or, nI_toInt (Nat.or_lt_two_pow ha hb)]
theorem b_shl1 {k : Nat} (hk : k < 31) : iShl 1 k = ((2 ^ k : Nat) : Int) := by
  unfold iShl
  have h1 : 2 ^ k < 2 ^ 31 := Nat.pow_lt_pow_right (by omega) hk
  rw [ofI_n, show Int32.ofInt 1 = nI 1 from rfl, pk_shlN (nI k &&& 31) k (n_sl k (by omega)) (by omega), Nat.one_mul, nI_toInt h1]
theorem b_shr {a k : Nat} (ha : a < 2 ^ 31) (hk : k < 32) : iShr a k = ((a / 2 ^ k : Nat) : Int) := by
  unfold iShr
  rw [ofI_n, ofI_n, pk_shrN ha (nI k &&& 31) k (n_sl k hk), nI_toInt (Nat.lt_of_le_of_lt (Nat.div_le_self _ _) ha)]
theorem b_ushr {a k : Nat} (ha : a < 2 ^ 31) (hk : k < 32) : iUshr a k = ((a / 2 ^ k : Nat) : Int) := by
  unfold iUshr
  rw [ofI_n, ofI_n, pk_ushrN (by omega) (nI k) k (n_su k hk), nI_toInt (Nat.lt_of_le_of_lt (Nat.div_le_self _ _) ha)]
theorem b_bit (a k : Nat) : (a / 2 ^ k) &&& 1 = if a.testBit k then 1 else 0 := by
  rw [Nat.and_one_is_mod, Nat.testBit_eq_decide_div_mod_eq]
  have := Nat.mod_two_eq_zero_or_one (a / 2 ^ k)
  by_cases h : a / 2 ^ k % 2 = 1
  · simp [h]
  · have h0 : a / 2 ^ k % 2 = 0 := by omega
    simp [h0]
theorem b_has {a k : Nat} (ha : a < 2 ^ 31) (hk : k < 32) : iAnd (iUshr a k) 1 = if a.testBit k then 1 else 0 := by
  rw [b_ushr ha hk, show (1 : Int) = ((1 : Nat) : Int) from rfl, b_and (Nat.lt_of_le_of_lt (Nat.div_le_self _ _) ha), b_bit]
  split <;> rfl
theorem b_holds {a k : Nat} (ha : a < 2 ^ 31) (hk : k < 32) : iAnd (iShr a k) 1 = if a.testBit k then 1 else 0 := by
  rw [b_shr ha hk, show (1 : Int) = ((1 : Nat) : Int) from rfl, b_and (Nat.lt_of_le_of_lt (Nat.div_le_self _ _) ha), b_bit]
  split <;> rfl
/-- a without the bits of b -/
def ndiff (a b : Nat) : Nat := a &&& (b ^^^ 2147483647)
theorem ndiff_bit {a b : Nat} (i : Nat) (ha : a < 2 ^ 31) : (ndiff a b).testBit i = (a.testBit i && !b.testBit i) := by
  unfold ndiff
  rw [Nat.testBit_and, Nat.testBit_xor, show (2147483647 : Nat) = 2 ^ 31 - 1 from rfl, Nat.testBit_two_pow_sub_one]
  by_cases h : i < 31
  · simp [h]
  · have h2 : a.testBit i = false := Nat.testBit_lt_two_pow (Nat.lt_of_lt_of_le ha (Nat.pow_le_pow_right (by omega) (by omega)))
    simp [h2]
theorem b_andn {a b : Nat} (ha : a < 2 ^ 31) : iAnd a (iXor b (-1)) = ((ndiff a b : Nat) : Int) := by
  have e1 : Int32.ofInt (iXor b (-1)) = nI (b ^^^ 4294967295) := by
    unfold iXor
    rw [Int32.ofInt_toInt, ofI_n, show Int32.ofInt (-1) = nI 4294967295 from by decide, n_xor]
  have e2 : a &&& (b ^^^ 4294967295) = ndiff a b := by
    apply Nat.eq_of_testBit_eq
    intro i
    rw [ndiff_bit i ha, Nat.testBit_and, Nat.testBit_xor, show (4294967295 : Nat) = 2 ^ 32 - 1 from rfl, Nat.testBit_two_pow_sub_one]
    by_cases h : i < 32
    · simp [h]
    · have h2 : a.testBit i = false := Nat.testBit_lt_two_pow (Nat.lt_of_lt_of_le ha (Nat.pow_le_pow_right (by omega) (by omega)))
      simp [h2]
  unfold iAnd
  rw [e1, ofI_n, n_and, e2, nI_toInt (by unfold ndiff; exact and_lt31 ha)]
theorem tb_or1 (a k i : Nat) : (a ||| 2 ^ k).testBit i = (a.testBit i || decide (k = i)) := by
  rw [Nat.testBit_or, Nat.testBit_two_pow]

