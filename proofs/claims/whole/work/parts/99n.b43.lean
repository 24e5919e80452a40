/-! B43: feed, end -/
theorem by_u {a : Int} {s : Nat} (hs : s = 24 ∨ s = 16 ∨ s = 8 ∨ s = 0) : 0 ≤ iAnd (iUshr a s) 255 ∧ iAnd (iUshr a s) 255 ≤ 255 ∧ i2b (iShr a s) = sgb (iAnd (iUshr a s) 255) := by
  have hs32 : s < 32 := by omega
  have e1 : iAnd (iUshr a s) 255 = (((Int32.ofInt a).toBitVec.toNat / 2 ^ s % 256 : Nat) : Int) := by
    unfold iAnd iUshr
    rw [Int32.ofInt_toInt, ofI_n, show Int32.ofInt 255 = nI 255 from rfl]
    have hx : ((Int32.ofInt a).toUInt32 >>> ((nI s).toUInt32 &&& Int32.toUInt32 31)).toInt32 &&& nI 255 = nI ((Int32.ofInt a).toBitVec.toNat / 2 ^ s % 256) := by
      apply Int32.toBitVec_inj.1
      show ((Int32.ofInt a).toBitVec >>> (((nI s).toUInt32 &&& Int32.toUInt32 31).toBitVec % 32)) &&& BitVec.ofNat 32 255 = BitVec.ofNat 32 _
      apply BitVec.eq_of_toNat_eq
      rw [BitVec.toNat_and, BitVec.ushiftRight_eq', BitVec.toNat_ushiftRight, n_su s hs32, BitVec.toNat_ofNat, BitVec.toNat_ofNat, Nat.shiftRight_eq_div_pow]
      rw [show 255 % 2 ^ 32 = 2 ^ 8 - 1 from rfl, Nat.and_two_pow_sub_one_eq_mod]
      rw [Nat.mod_eq_of_lt (a := (Int32.ofInt a).toBitVec.toNat / 2 ^ s % 256) (by omega)]
    rw [hx, nI_toInt (by omega)]
  have e2 : i2b (iShr a s) = (((Int32.ofInt a).toBitVec.toInt) / (2 ^ s : Nat)).bmod 256 := by
    unfold i2b iShr
    rw [Int32.ofInt_toInt, ofI_n, Int8.toInt_toInt32, Int32.toInt_toInt8]
    have hx : (Int32.ofInt a >>> (nI s &&& 31)).toInt = ((Int32.ofInt a).toBitVec.toInt) / (2 ^ s : Nat) := by
      show ((Int32.ofInt a).toBitVec.sshiftRight' ((nI s &&& 31).toBitVec.smod 32)).toInt = _
      rw [BitVec.sshiftRight_eq', n_sl s hs32, BitVec.toInt_sshiftRight, Int.shiftRight_eq_div_pow]
    rw [hx]
  rw [e1, e2, BitVec.toInt_eq_toNat_cond]
  have hlt := (Int32.ofInt a).toBitVec.isLt
  generalize (Int32.ofInt a).toBitVec.toNat = n at *
  refine ⟨by omega, by omega, ?_⟩
  unfold sgb
  rw [Int.bmod_def]
  rcases hs with rfl | rfl | rfl | rfl <;> (repeat' split) <;> omega
def fA (a1 a2 a3 a4 a5 : Int) (j : Nat) : Int := if j = 0 then a1 else if j = 1 then a2 else if j = 2 then a3 else if j = 3 then a4 else a5
def bt (a : Int) (r : Nat) : Int := iAnd (iUshr a ((24 - 8 * r : Nat) : Int)) 255
def fb (a1 a2 a3 a4 a5 : Int) (k : Nat) : Int := bt (fA a1 a2 a3 a4 a5 (k / 4)) (k % 4)
theorem bt_b {a : Int} {r : Nat} (hr : r < 4) : 0 ≤ bt a r ∧ bt a r ≤ 255 ∧ i2b (iShr a ((24 - 8 * r : Nat) : Int)) = sgb (bt a r) := by_u (by omega)
theorem b_append {t : Nat → Int} {N : Nat} {a : Int} {Q : (Nat → Int) → Int → Prop} (h4 : N + 4 ≤ 600) (hq : ∀ t', (∀ i, i < N → t' i = t i) → (∀ r, r < 4 → t' (N + r) = bt a r) → Q t' ((N + 4 : Nat) : Int)) : wp_Tape_append t N a Q := by
  unfold wp_Tape_append
  refine ⟨fun t1 len x3 => ∃ r : Nat, x3 = 24 - 8 * (r : Int) ∧ r ≤ 4 ∧ len = ((N + r : Nat) : Int) ∧ (∀ i, i < N → t1 i = t i) ∧ ∀ j, j < r → t1 (N + j) = bt a j, fun _ _ x3 => (x3 + 8).toNat, ⟨0, rfl, by omega, rfl, fun _ _ => rfl, fun j hj => by omega⟩, ?_⟩
  rintro t1 _ _ ⟨r, rfl, hr, rfl, h1, h2⟩
  refine ⟨fun h3 => ?_, fun h3 => ⟨fun h5 => by omega, fun h5 => ⟨⟨by omega, by omega⟩, ⟨by omega, by omega⟩, ⟨by omega, by omega⟩, ⟨r + 1, by omega, by omega, by omega, fun i hi => ?_, fun j hj => ?_⟩, by (try dsimp only); omega⟩⟩⟩
  · have er : r = 4 := by omega
    subst er
    exact hq _ h1 h2
  · rw [uI_n (by omega) (by omega)]; exact h1 i hi
  · by_cases ej : j = r
    · rw [uI_e (by omega), ej]
      unfold bt
      rw [show ((24 - 8 * r : Nat) : Int) = 24 - 8 * (r : Int) by omega]
    · rw [uI_n (by omega) (by omega)]; exact h2 j (by omega)
def Fed (t : Nat → Int) (N : Nat) (f : Nat → Int) (t' : Nat → Int) : Prop := (∀ i, i < N → t' i = t i) ∧ ∀ k, k < 20 → t' (N + k) = f k
theorem b_feed {t : Nat → Int} {N : Nat} {a1 a2 a3 a4 a5 : Int} {Q : Int → (Nat → Int) → Int → Prop} (hN : N ≤ 600) (hq0 : ¬ N + 20 ≤ 600 → Q (-1) t N) (hq : N + 20 ≤ 600 → ∀ t', Fed t N (fb a1 a2 a3 a4 a5) t' → Q ((N + 20 : Nat) : Int) t' ((N + 20 : Nat) : Int)) : wp_Picker_feed t N a1 a2 a3 a4 a5 Q := by
  unfold wp_Picker_feed
  refine ⟨⟨by omega, by omega⟩, fun h1 => ?_, fun h1 => hq0 (by omega)⟩
  refine b_append (by omega) fun t1 p1 q1 => b_append (by omega) fun t2 p2 q2 => b_append (by omega) fun t3 p3 q3 => b_append (by omega) fun t4 p4 q4 => b_append (by omega) fun t5 p5 q5 => ?_
  refine hq (by omega) t5 ⟨fun i hi => ?_, fun k hk => ?_⟩
  · rw [p5 i (by omega), p4 i (by omega), p3 i (by omega), p2 i (by omega), p1 i hi]
  · have hd : k / 4 = 0 ∨ k / 4 = 1 ∨ k / 4 = 2 ∨ k / 4 = 3 ∨ k / 4 = 4 := by omega
    unfold fb fA
    rcases hd with e | e | e | e | e
    · rw [if_pos e, p5 _ (by omega), p4 _ (by omega), p3 _ (by omega), p2 _ (by omega), ← q1 (k % 4) (by omega)]
      congr 1; omega
    · rw [if_neg (by omega), if_pos e, p5 _ (by omega), p4 _ (by omega), p3 _ (by omega), ← q2 (k % 4) (by omega)]
      congr 1; omega
    · rw [if_neg (by omega), if_neg (by omega), if_pos e, p5 _ (by omega), p4 _ (by omega), ← q3 (k % 4) (by omega)]
      congr 1; omega
    · rw [if_neg (by omega), if_neg (by omega), if_neg (by omega), if_pos e, p5 _ (by omega), ← q4 (k % 4) (by omega)]
      congr 1; omega
    · rw [if_neg (by omega), if_neg (by omega), if_neg (by omega), if_neg (by omega), ← q5 (k % 4) (by omega)]
      congr 1; omega
theorem five_at {m5 : Nat → Int} {a1 a2 a3 a4 a5 : Int} {j : Nat} (hj : j < 5) : uI (uI (uI (uI (uI m5 0 a1) 1 a2) 2 a3) 3 a4) 4 a5 j = fA a1 a2 a3 a4 a5 j := by
  have : j = 0 ∨ j = 1 ∨ j = 2 ∨ j = 3 ∨ j = 4 := by omega
  rcases this with rfl | rfl | rfl | rfl | rfl <;> rfl
theorem b_Mfeed {t mt m5 : Nat → Int} {N : Nat} {thr a1 a2 a3 a4 a5 : Int} {Q : Int → (Nat → Int) → (Nat → Int) → Int → Int → Prop} (hN : N ≤ 600) (hq0 : ¬ N + 20 ≤ 600 → Q (-1) mt m5 0 N) (hq : N + 20 ≤ 600 → ∀ mt' m5', Fed mt N (fun k => sgb (fb a1 a2 a3 a4 a5 k)) mt' → Q ((N + 20 : Nat) : Int) mt' m5' 0 ((N + 20 : Nat) : Int)) : wp_M_feed mt m5 thr N a1 a2 a3 a4 a5 Q := by
  unfold wp_M_feed
  refine ⟨⟨by omega, by omega⟩, fun h1 => ?_, fun h1 => hq0 (by omega)⟩
  refine ⟨⟨by omega, by omega⟩, ⟨by omega, by omega⟩, ⟨by omega, by omega⟩, ⟨by omega, by omega⟩, ⟨by omega, by omega⟩, ?_⟩
  refine ⟨fun m1 x2 => ∃ k : Nat, x2 = k ∧ k ≤ 20 ∧ (∀ i, i < N → m1 i = mt i) ∧ ∀ j, j < k → m1 (N + j) = sgb (fb a1 a2 a3 a4 a5 j), fun _ x2 => 20 - x2.toNat, ⟨0, rfl, by omega, fun _ _ => rfl, fun j hj => by omega⟩, ?_⟩
  rintro m1 _ ⟨k, rfl, hk, h2, h3⟩
  refine ⟨fun h4 => ⟨⟨by omega, by omega⟩, ?_⟩, fun h4 => ?_⟩
  · have ek : k = 20 := by omega
    subst ek
    exact hq (by omega) _ _ ⟨h2, h3⟩
  · have d1 : Int.tdiv (k : Int) 4 = ((k / 4 : Nat) : Int) := by rw [Int.tdiv_eq_ediv_of_nonneg (by omega)]; rfl
    have d2 : Int.tmod (k : Int) 4 = ((k % 4 : Nat) : Int) := by rw [Int.tmod_eq_emod_of_nonneg (by omega)]; rfl
    have d3 : (24 : Int) - 8 * ((k % 4 : Nat) : Int) = ((24 - 8 * (k % 4) : Nat) : Int) := by omega
    rw [d1, d2, d3, Int.toNat_natCast, five_at (show k / 4 < 5 by omega)]
    have hb := bt_b (a := fA a1 a2 a3 a4 a5 (k / 4)) (r := k % 4) (by omega)
    rw [hb.2.2]
    have hs := sgb_b (c := bt (fA a1 a2 a3 a4 a5 (k / 4)) (k % 4)) ⟨hb.1, hb.2.1⟩
    refine ⟨⟨by omega, by omega⟩, ⟨by decide, ⟨by omega, by omega⟩⟩, ⟨by omega, by omega⟩, ⟨by decide, ⟨by omega, by omega⟩, ⟨by omega, by omega⟩⟩, ⟨by omega, by omega⟩, ⟨by omega, by omega⟩, ⟨⟨by omega, by omega⟩, hs⟩, ⟨by omega, by omega⟩, ⟨k + 1, by omega, by omega, fun i hi => ?_, fun j hj => ?_⟩, by (try dsimp only); omega⟩
    · rw [uI_n (by omega) (by omega)]; exact h2 i hi
    · by_cases ej : j = k
      · rw [uI_e (by omega), ej]; rfl
      · rw [uI_n (by omega) (by omega)]; exact h3 j (by omega)
/-- the two tapes hold the same -/
def TpR (t mt : Nat → Int) (N : Nat) : Prop := Byt t N ∧ TpM t N mt
theorem Fed.rel {t mt t' mt' : Nat → Int} {N : Nat} {a1 a2 a3 a4 a5 : Int} (h20 : N + 20 ≤ 600) (h : TpR t mt N) (h1 : Fed t N (fb a1 a2 a3 a4 a5) t') (h2 : Fed mt N (fun k => sgb (fb a1 a2 a3 a4 a5 k)) mt') : TpR t' mt' (N + 20) := by
  refine ⟨⟨h20, fun i hi => ?_⟩, fun i hi => ?_⟩
  · by_cases e : i < N
    · rw [h1.1 i e]; exact h.1.2 i e
    · have := h1.2 (i - N) (by omega)
      rw [show N + (i - N) = i by omega] at this
      rw [this]
      have hb := bt_b (a := fA a1 a2 a3 a4 a5 ((i - N) / 4)) (r := (i - N) % 4) (by omega)
      exact ⟨hb.1, hb.2.1⟩
  · by_cases e : i < N
    · rw [h1.1 i e, h2.1 i e]; exact h.2 i e
    · have e1 := h1.2 (i - N) (by omega)
      have e2 := h2.2 (i - N) (by omega)
      rw [show N + (i - N) = i by omega] at e1 e2
      rw [e1, e2]
theorem TpR.cut {t mt : Nat → Int} {N n : Nat} (h : TpR t mt N) (hn : n ≤ N) : TpR t mt n := ⟨⟨by have := h.1.1; omega, fun i hi => h.1.2 i (by omega)⟩, fun i hi => h.2 i (by omega)⟩
/-! the two feed the same -/
theorem c_feed {t mt m5 : Nat → Int} {N : Nat} {thr a1 a2 a3 a4 a5 : Int} {Q : Int → (Nat → Int) → Int → Int → (Nat → Int) → (Nat → Int) → Int → Int → Prop} (h : TpR t mt N) (hq : ∀ (r : Int) (t' mt' m5' : Nat → Int) (N' : Nat), TpR t' mt' N' → Q r t' N' r mt' m5' 0 N') : wp_Picker_feed t N a1 a2 a3 a4 a5 (fun r t' n' => wp_M_feed mt m5 thr N a1 a2 a3 a4 a5 (fun r2 mt' m5' th n2 => Q r t' n' r2 mt' m5' th n2)) := by
  have hN := h.1.1
  refine b_feed hN (fun g => b_Mfeed (t := t) hN (fun _ => hq _ _ _ _ _ h) (fun g2 => absurd g2 g)) fun g t' h1 => b_Mfeed (t := t) hN (fun g2 => absurd g g2) fun _ mt' m5' h2 => hq _ _ _ _ _ (Fed.rel g h h1 h2)
theorem c_end {t mt : Nat → Int} {N : Nat} {thr a : Int} {Q : Int → Int → Int → Int → Int → Prop} (h : TpR t mt N) (hq : ∀ (r : Int) (n : Nat), TpR t mt n → Q r n r 0 n) : wp_Picker_end N a (fun r n => wp_M_end thr N a (fun r2 th n2 => Q r n r2 th n2)) := by
  unfold wp_Picker_end wp_M_end
  refine ⟨fun g => ⟨fun _ => hq _ _ h, fun g2 => absurd g g2⟩, fun g => ⟨fun g1 => ⟨fun g2 => absurd g2 g, fun _ => ⟨fun _ => ?_, fun g2 => absurd g1 g2⟩⟩, fun g1 => ⟨fun g2 => absurd g2 g, fun _ => ⟨fun g2 => absurd g2 g1, fun _ => hq _ _ h⟩⟩⟩⟩
  obtain ⟨n, rfl⟩ : ∃ n : Nat, a = n := ⟨a.toNat, by omega⟩
  exact hq _ n (h.cut (by omega))
