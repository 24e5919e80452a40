/-! B5: the count of bits of a long -/
theorem pop64 (a z1 z2 z3 z4 z5 z6 : Int64) (h1 : z1 = a - ((lUshr a 1) &&& 6148914691236517205)) (h2 : z2 = (z1 &&& 3689348814741910323) + ((lUshr z1 2) &&& 3689348814741910323)) (h3 : z3 = (z2 + lUshr z2 4) &&& 1085102592571150095) (h4 : z4 = z3 + lUshr z3 8) (h5 : z5 = z4 + lUshr z4 16) (h6 : z6 = z5 + lUshr z5 32) : ln z6 % 128 = cn (lb a) 64 := by
  have hp := pop3 (ln a) 8 (ln_lt a)
  have k1 : ∀ x : Int64, ln (lUshr x 1) = ln x / 2 := fun x => ln_ushr (x := x) (k := 1) (by omega)
  have k2 : ∀ x : Int64, ln (lUshr x 2) = ln x / 4 := fun x => ln_ushr (x := x) (k := 2) (by omega)
  have k4 : ∀ x : Int64, ln (lUshr x 4) = ln x / 16 := fun x => ln_ushr (x := x) (k := 4) (by omega)
  have k8 : ∀ x : Int64, ln (lUshr x 8) = ln x / 256 := fun x => ln_ushr (x := x) (k := 8) (by omega)
  have k16 : ∀ x : Int64, ln (lUshr x 16) = ln x / 65536 := fun x => ln_ushr (x := x) (k := 16) (by omega)
  have k32 : ∀ x : Int64, ln (lUshr x 32) = ln x / 4294967296 := fun x => ln_ushr (x := x) (k := 32) (by omega)
  have e1 : ln z1 = fs 4 (pc0 (ln a).testBit) (4 * 8) := by
    rw [h1, ln_sub, ln_and, k1, msk1, hp.1]
    rw [ln_and, k1]
    exact Nat.le_trans Nat.and_le_left (Nat.div_le_self _ _)
  have e2 : ln z2 = fs 16 (pc1 (ln a).testBit) (2 * 8) := by
    rw [h2, ln_add, ln_and, ln_and, k2, msk2, e1, hp.2.1]
    rw [ln_and, ln_and, k2, msk2, e1, hp.2.1]
    refine Nat.lt_of_le_of_lt (fs_le (M := 4) (by omega) _ _ (pc1_le _)) (by decide +kernel)
  have e3 : ln z3 = fs 256 (pc2 (ln a).testBit) 8 := by
    have hb : ln z2 ≤ fs 16 (fun _ => 4) 16 := by rw [e2]; exact fs_le (by omega) _ _ (pc1_le _)
    have hb2 : fs 16 (fun _ => 4) 16 < 2 ^ 63 := by decide +kernel
    rw [h3, ln_and, ln_add, k4, msk3, e2, hp.2.2]
    generalize fs 16 (fun _ => 4) 16 = M at hb hb2
    rw [k4]; omega
  have c0 := pc2_le (ln a).testBit 0
  have c1 := pc2_le (ln a).testBit 1
  have c2 := pc2_le (ln a).testBit 2
  have c3 := pc2_le (ln a).testBit 3
  have c4 := pc2_le (ln a).testBit 4
  have c5 := pc2_le (ln a).testBit 5
  have c6 := pc2_le (ln a).testBit 6
  have c7 := pc2_le (ln a).testBit 7
  have e3 : ln z3 = pc2 (ln a).testBit 0 + 256 * fs 256 (fun i => pc2 (ln a).testBit (i + 1)) 7 := e3
  have ec : cn (lb a) 64 = pc2 (ln a).testBit 0 + pc2 (ln a).testBit 1 + pc2 (ln a).testBit 2 + pc2 (ln a).testBit 3 + pc2 (ln a).testBit 4 + pc2 (ln a).testBit 5 + pc2 (ln a).testBit 6 + pc2 (ln a).testBit 7 := by rw [lb_tb, cn_64]
  clear hp e1 e2
  rw [ec]
  refine pop_ar _ _ _ _ _ _ _ _ _ _ _ _ _ _ _ (ln z3) (ln z4) (ln z5) (ln z6) c0 c1 c2 c3 c4 c5 c6 c7 e3 rfl rfl rfl rfl rfl rfl rfl (fun h => ?_) (fun h => ?_) (fun h => ?_)
  · rw [h4, ln_add, k8]; rw [k8]; exact h
  · rw [h5, ln_add, k16]; rw [k16]; exact h
  · rw [h6, ln_add, k32]; rw [k32]; exact h
theorem b_lbits {a : Int64} {Q : Int → Prop} (hq : Q (cn (lb a) 64)) : wp_JL_bitCount a Q := by
  unfold wp_JL_bitCount
  rw [ln_l2i, pop64 a _ _ _ _ _ _ rfl rfl rfl rfl rfl rfl]
  exact hq
