/-! B18: the class seeks the best set -/
theorem bc_sub {x y i : Nat} (h : ∀ j, x.testBit j = true → y.testBit j = true) (hi : y.testBit i = true) (hx : x.testBit i = false) (h31 : i < 31) : bc x + 1 ≤ bc y := by
  rw [← bc_or hx h31]
  refine cn_imp fun j _ hj => ?_
  rw [tb_or1] at hj
  rcases Bool.or_eq_true_iff.mp hj with g | g
  · exact h j g
  · rw [← of_decide_eq_true g]; exact hi
theorem lt_bit {y S i : Nat} (hy : y < 2 ^ S) (h : y.testBit i = true) : i < S := by
  rcases Nat.lt_or_ge i S with e | e
  · exact e
  · rw [Nat.testBit_lt_two_pow (Nat.lt_of_lt_of_le hy (Nat.pow_le_pow_right (by omega) e))] at h; cases h
theorem ne_bit {x y : Nat} (h : ∀ j, x.testBit j = true → y.testBit j = true) (hne : y ≠ x) : ∃ i, y.testBit i = true ∧ x.testBit i = false := by
  apply Classical.byContradiction
  intro hc
  apply hne
  apply Nat.eq_of_testBit_eq
  intro i
  cases hx : x.testBit i
  · cases hy : y.testBit i
    · rfl
    · exact absurd ⟨i, hy, hx⟩ hc
  · exact h i hx
theorem sS_or {S : Nat} {f : Nat → Nat} {x j : Nat} (hj : j < S) (hx : x.testBit j = false) : sS S f (x ||| 2 ^ j) = sS S f x + f j := by
  have key : ∀ n, sm (fun s => if (x ||| 2 ^ j).testBit s then f s else 0) n = sm (fun s => if x.testBit s then f s else 0) n + (if j < n then f j else 0) := by
    intro n
    induction n with
    | zero => rfl
    | succ n ih =>
      rw [sm_s, sm_s, ih, tb_or1]
      by_cases e : j = n
      · subst e
        rw [hx, show (false || decide (j = j)) = true by simp, if_pos (show true = true from rfl), if_neg (show ¬ j < j by omega), if_neg Bool.false_ne_true, if_pos (show j < j + 1 by omega)]
      · rw [decide_eq_false e, Bool.or_false]
        by_cases e2 : j < n
        · rw [if_pos e2, if_pos (show j < n + 1 by omega)]; omega
        · rw [if_neg e2, if_neg (show ¬ j < n + 1 by omega), Nat.add_zero, Nat.add_zero]
  have := key S
  rw [if_pos hj] at this
  exact this
theorem b_keep {ts tw tl a w l : Nat} {Q : Int → Int → Int → Prop} (h1 : (tw < w ∨ (w = tw ∧ (l < tl ∨ (l = tl ∧ a < ts)))) → Q a w l) (h2 : ¬ (tw < w ∨ (w = tw ∧ (l < tl ∨ (l = tl ∧ a < ts)))) → Q ts tw tl) : wp_Search_keepIfTop ts tw tl a w l Q := by
  unfold wp_Search_keepIfTop
  refine ⟨fun y => (y = 1 ∧ (l < tl ∨ (l = tl ∧ a < ts))) ∨ (y = 0 ∧ ¬ (l < tl ∨ (l = tl ∧ a < ts))), fun y hy => ?_, ?_⟩
  · refine ⟨tw < w ∨ (w = tw ∧ (l < tl ∨ (l = tl ∧ a < ts))), h1, fun h => .inl (by omega), fun h => ⟨fun h3 => h2 (by omega), fun h3 => ⟨fun h4 => h2 (by omega), fun h4 => .inr ⟨by omega, by omega⟩⟩⟩⟩
  · refine ⟨l < tl ∨ (l = tl ∧ a < ts), fun h => .inl ⟨rfl, h⟩, fun h => .inl (by omega), fun h => ⟨¬ (l < tl ∨ (l = tl ∧ a < ts)), fun h => .inr ⟨rfl, h⟩, fun h3 => (by omega), fun h3 => ⟨fun h4 => (by omega), fun h4 => .inr (by omega)⟩⟩⟩
def Fam (S : Nat) (le : Nat → Nat) (tk : Nat → Nat → Bool) (mo ro set fr from9 y : Nat) : Prop := y < 2 ^ S ∧ y ≠ set ∧ (∀ i, set.testBit i = true → y.testBit i = true) ∧ (∀ i, y.testBit i = true → set.testBit i = false → from9 ≤ i ∧ fr.testBit i = true) ∧ may S le tk mo ro y = true
theorem b_extend {S I : Nat} {wt le : Nat → Nat} {ta : Nat → Nat → Nat} {tk : Nat → Nat → Bool} {qw ss tl : Nat → Int} {tal9 : Nat → Int64} {mo ro en : Nat} (hw : QwA I wt qw) (hT : TaA S ta tal9) (hL : LeA S le ss) (hK : TkA S tk tl) (hsy : ∀ s o, tk s o = tk o s) (hir : ∀ s, tk s s = false) (hmo : mo ≤ 6) (hro : ro ≤ 700) :
    ∀ (n set fr from9 : Nat) (x : Int64) (ts : Nat) (Q : Int → Int → Int → Prop), 7 ≤ bc set + n → set < 2 ^ S → fr < 2 ^ 31 → may S le tk mo ro set = true → (∀ i, set.testBit i = true → i < from9) → (∀ i, i < S → fr.testBit i = true → ∀ s, s < S → set.testBit s = true → tk s i = false) → Tl x (fun k => sS S (fun s => ta s k) set) → ts < 2 ^ S →
    (∀ ts', ts' < 2 ^ S → (ts' = ts ∨ Fam S le tk mo ro set fr from9 ts') → ble (fun y => min (wZ S I wt ta y) en) (lS S le) ts' ts → (∀ y, Fam S le tk mo ro set fr from9 y → ble (fun y => min (wZ S I wt ta y) en) (lS S le) ts' y) → Q (ts' : Nat) (min (wZ S I wt ta ts') en : Nat) (lS S le ts' : Nat)) →
    wp_Search_extend n ss qw tl S I mo ro en (ts : Nat) (min (wZ S I wt ta ts) en : Nat) (lS S le ts : Nat) tal9 (set : Nat) x (lS S le set : Nat) (fr : Nat) (from9 : Nat) Q := by
  have hS := hL.1
  have hP := p14 hS
  intro n
  induction n with
  | zero =>
    intro set fr from9 x ts Q h7 _ _ hmay
    have := (may_iff.mp hmay).1
    omega
  | succ n ih =>
    intro set fr from9 x ts Q h7 hset hfr hmay hbel hap hx hts hq
    have hm := may_iff.mp hmay
    unfold wp_Search_extend
    refine b_bits (by omega) ⟨fun h => ?_, fun h => hq ts hts (.inl rfl) (ble_refl _ _ _) fun y hy => ?_⟩
    · refine ⟨fun a1 a2 a3 x5 => ∃ t j : Nat, a1 = t ∧ a2 = (min (wZ S I wt ta t) en : Nat) ∧ a3 = (lS S le t : Nat) ∧ x5 = j ∧ from9 ≤ j ∧ (j ≤ S ∨ j = from9) ∧ t < 2 ^ S ∧ (t = ts ∨ Fam S le tk mo ro set fr from9 t) ∧ ble (fun y => min (wZ S I wt ta y) en) (lS S le) t ts ∧ ∀ y, Fam S le tk mo ro set fr from9 y → (∃ i, i < j ∧ y.testBit i = true ∧ set.testBit i = false) → ble (fun y => min (wZ S I wt ta y) en) (lS S le) t y, fun _ _ _ x5 => S - x5.toNat, ⟨ts, from9, rfl, rfl, rfl, rfl, Nat.le_refl _, .inr rfl, hts, .inl rfl, ble_refl _ _ _, fun y hy hi => ?_⟩, ?_⟩
      · obtain ⟨i, h1, h2, h3⟩ := hi
        have := (hy.2.2.2.1 i h2 h3).1
        omega
      rintro a1 a2 a3 x5 ⟨t, j, rfl, rfl, rfl, rfl, hj1, hj2, ht, htF, htb, hty⟩
      refine ⟨fun h2 => hq t ht htF htb fun y hy => hty y hy ?_, fun h2 => ?_⟩
      · obtain ⟨i, g1, g2⟩ := ne_bit hy.2.2.1 hy.2.1
        exact ⟨i, by have := lt_bit hy.1 g1; omega, g1, g2⟩
      · have hjS : j < S := by omega
        have hl9 := (hL.2 j hjS).2
        have hjn : set.testBit j = false := by
          cases e : set.testBit j
          · rfl
          · have := hbel j e; omega
        have hlj : lS S le (set ||| 2 ^ j) = lS S le set + (le j + 4) := sS_or hjS hjn
        have hlo : set ||| 2 ^ j < 2 ^ S := Nat.or_lt_two_pow hset (Nat.pow_lt_pow_right (by omega) hjS)
        have stay : (∀ y, Fam S le tk mo ro set fr from9 y → y.testBit j = true → False) → rng ((j : Int) + 1) ∧ (∃ t' j' : Nat, (t : Int) = t' ∧ ((min (wZ S I wt ta t) en : Nat) : Int) = (min (wZ S I wt ta t') en : Nat) ∧ ((lS S le t : Nat) : Int) = (lS S le t' : Nat) ∧ (j : Int) + 1 = j' ∧ from9 ≤ j' ∧ (j' ≤ S ∨ j' = from9) ∧ t' < 2 ^ S ∧ (t' = ts ∨ Fam S le tk mo ro set fr from9 t') ∧ ble (fun y => min (wZ S I wt ta y) en) (lS S le) t' ts ∧ ∀ y, Fam S le tk mo ro set fr from9 y → (∃ i, i < j' ∧ y.testBit i = true ∧ set.testBit i = false) → ble (fun y => min (wZ S I wt ta y) en) (lS S le) t' y) ∧ S - ((j : Int) + 1).toNat < S - (j : Int).toNat := by
          intro hno
          refine ⟨⟨by omega, by omega⟩, ⟨t, j + 1, rfl, rfl, rfl, by omega, by omega, by omega, ht, htF, htb, fun y hy hi => hty y hy ?_⟩, by omega⟩
          obtain ⟨i, g1, g2, g3⟩ := hi
          by_cases e : i = j
          · rw [e] at g2; exact absurd g2 (fun h => hno y hy h)
          · exact ⟨i, by omega, g2, g3⟩
        refine b_lenOf hL hjS ⟨⟨by omega, by omega⟩, b_Has hfr (by omega) (jn3_i ⟨fun h3 => stay fun y hy hyj => ?_, fun h3 => ⟨fun h4 => stay fun y hy hyj => ?_, fun h4 => ⟨⟨by omega, by omega⟩, ?_⟩⟩⟩)⟩
        · have := (hy.2.2.2.1 j hyj hjn).2
          rw [bI_0 h3] at this; cases this
        · have g1 := (may_iff.mp hy.2.2.2.2).2.1
          have g2 : lS S le (set ||| 2 ^ j) ≤ lS S le y := sS_mono fun i _ hi => by
            rw [tb_or1] at hi
            rcases Bool.or_eq_true_iff.mp hi with g | g
            · exact hy.2.2.1 i g
            · rw [← of_decide_eq_true g]; exact hyj
          omega
        · rw [Int.toNat_natCast, b_orb (by omega) (by omega)]
          have hx2 : Tl (x + tal9 j) (fun k => sS S (fun s => ta s k) (set ||| 2 ^ j)) := by
            refine (Tl.add hx (hT.1 j hjS) fun k hk => ?_).congr fun k hk => ?_
            · have e1 := sS_or (f := fun s => ta s k) hjS hjn
              have e2 := sS_le S (fun s => ta s k) (set ||| 2 ^ j)
              have e3 := hT.2 k hk
              omega
            · exact (sS_or (f := fun s => ta s k) hjS hjn).symm
          have hmj : may S le tk mo ro (set ||| 2 ^ j) = true := by
            refine may_iff.mpr ⟨by rw [bc_or hjn (by omega)]; omega, by omega, fun s hs1 hs2 o ho1 ho2 => ?_⟩
            rw [tb_or1] at hs2 ho2
            rcases Bool.or_eq_true_iff.mp hs2 with g | g <;> rcases Bool.or_eq_true_iff.mp ho2 with g' | g'
            · exact hm.2.2 s hs1 g o ho1 g'
            · rw [← of_decide_eq_true g']; exact hap j hjS (bI_1 h3) s hs1 g
            · rw [← of_decide_eq_true g, hsy]; exact hap j hjS (bI_1 h3) o ho1 g'
            · rw [← of_decide_eq_true g, ← of_decide_eq_true g']; exact hir j
          have hFj : Fam S le tk mo ro set fr from9 (set ||| 2 ^ j) := by
            refine ⟨hlo, fun e => ?_, or_sub set j, fun i hi1 hi2 => ?_, hmj⟩
            · have : (set ||| 2 ^ j).testBit j = true := by rw [tb_or1]; simp
              rw [e, hjn] at this; cases this
            · rw [tb_or1, hi2, Bool.false_or] at hi1
              rw [← of_decide_eq_true hi1]
              exact ⟨hj1, bI_1 h3⟩
          refine b_worthOf hw hx2 ?_
          rw [show min ((wth I wt (fun k => sS S (fun s => ta s k) (set ||| 2 ^ j)) : Nat) : Int) (en : Int) = ((min (wZ S I wt ta (set ||| 2 ^ j)) en : Nat) : Int) by unfold wZ; omega, show ((lS S le set : Nat) : Int) + ((le j + 4 : Nat) : Int) = ((lS S le (set ||| 2 ^ j) : Nat) : Int) by omega, hK j hjS, b_andn hfr, show (j : Int) + 1 = ((j + 1 : Nat) : Int) by omega]
          have go : ∀ t2 : Nat, t2 < 2 ^ S → (t2 = t ∨ t2 = set ||| 2 ^ j) → ble (fun y => min (wZ S I wt ta y) en) (lS S le) t2 t → ble (fun y => min (wZ S I wt ta y) en) (lS S le) t2 (set ||| 2 ^ j) → wp_Search_extend n ss qw tl S I mo ro en (t2 : Nat) (min (wZ S I wt ta t2) en : Nat) (lS S le t2 : Nat) tal9 ((set ||| 2 ^ j : Nat) : Int) (x + tal9 j) (lS S le (set ||| 2 ^ j) : Nat) ((ndiff fr (bs (tk j) S) : Nat) : Int) ((j + 1 : Nat) : Int) (fun a1 a2 a3 => rng (((j + 1 : Nat)) : Int) ∧ (∃ t' j' : Nat, a1 = t' ∧ a2 = (min (wZ S I wt ta t') en : Nat) ∧ a3 = (lS S le t' : Nat) ∧ ((j + 1 : Nat) : Int) = j' ∧ from9 ≤ j' ∧ (j' ≤ S ∨ j' = from9) ∧ t' < 2 ^ S ∧ (t' = ts ∨ Fam S le tk mo ro set fr from9 t') ∧ ble (fun y => min (wZ S I wt ta y) en) (lS S le) t' ts ∧ ∀ y, Fam S le tk mo ro set fr from9 y → (∃ i, i < j' ∧ y.testBit i = true ∧ set.testBit i = false) → ble (fun y => min (wZ S I wt ta y) en) (lS S le) t' y) ∧ S - (((j + 1 : Nat)) : Int).toNat < S - (j : Int).toNat) := by
            intro t2 ht2 ht2e hb1 hb2
            have nd := fun i => ndiff_bit (b := bs (tk j) S) i hfr
            have ndl : ndiff fr (bs (tk j) S) < 2 ^ 31 := by unfold ndiff; exact and_lt31 hfr
            have ht2F : t2 = ts ∨ Fam S le tk mo ro set fr from9 t2 := by
              rcases ht2e with e | e
              · rw [e]; exact htF
              · rw [e]; exact .inr hFj
            refine ih (set ||| 2 ^ j) (ndiff fr (bs (tk j) S)) (j + 1) (x + tal9 j) t2 _ (by rw [bc_or hjn (by omega)]; omega) hlo ndl hmj (fun i hi => ?_) (fun i hi1 hi2 s hs1 hs2 => ?_) hx2 ht2 fun t3 ht3 ht3e hb3 hb4 => ?_
            · rw [tb_or1] at hi
              rcases Bool.or_eq_true_iff.mp hi with g | g
              · have := hbel i g; omega
              · have := of_decide_eq_true g; omega
            · rw [nd, Bool.and_eq_true, bs_in hi1] at hi2
              rw [tb_or1] at hs2
              rcases Bool.or_eq_true_iff.mp hs2 with g | g
              · exact hap i hi1 hi2.1 s hs1 g
              · rw [← of_decide_eq_true g]
                have := hi2.2
                cases e : tk j i
                · rfl
                · rw [e] at this; cases this
            · have sub : ∀ y, Fam S le tk mo ro (set ||| 2 ^ j) (ndiff fr (bs (tk j) S)) (j + 1) y → Fam S le tk mo ro set fr from9 y := by
                rintro y ⟨y1, y2, y3, y4, y5⟩
                have yj : y.testBit j = true := y3 j (by rw [tb_or1]; simp)
                refine ⟨y1, fun e => ?_, fun i hi => y3 i (or_sub set j i hi), fun i hi1 hi2 => ?_, y5⟩
                · rw [e, hjn] at yj; cases yj
                · by_cases e : i = j
                  · rw [e]; exact ⟨hj1, bI_1 h3⟩
                  · have := y4 i hi1 (by rw [tb_or1, hi2, decide_eq_false (fun h => e h.symm)]; rfl)
                    rw [nd, Bool.and_eq_true] at this
                    exact ⟨by omega, this.2.1⟩
              refine ⟨⟨by omega, by omega⟩, ⟨t3, j + 1, rfl, rfl, rfl, rfl, by omega, .inl (by omega), ht3, ?_, ble_trans hb3 (ble_trans hb1 htb), fun y hy hi => ?_⟩, by omega⟩
              · rcases ht3e with e | e
                · rw [e]; exact ht2F
                · exact .inr (sub t3 e)
              · by_cases hold : ∃ i, i < j ∧ y.testBit i = true ∧ set.testBit i = false
                · exact ble_trans hb3 (ble_trans hb1 (hty y hy hold))
                · obtain ⟨i, g1, g2, g3⟩ := hi
                  have eij : i = j := by
                    rcases Nat.lt_or_ge i j with e | e
                    · exact absurd ⟨i, e, g2, g3⟩ hold
                    · omega
                  rw [eij] at g2
                  by_cases ey : y = set ||| 2 ^ j
                  · rw [ey]; exact ble_trans hb3 hb2
                  · refine hb4 y ⟨hy.1, ey, fun k hk => ?_, fun k hk1 hk2 => ?_, hy.2.2.2.2⟩
                    · rw [tb_or1] at hk
                      rcases Bool.or_eq_true_iff.mp hk with g | g
                      · exact hy.2.2.1 k g
                      · rw [← of_decide_eq_true g]; exact g2
                    · rw [tb_or1, Bool.or_eq_false_iff] at hk2
                      have h5 := hy.2.2.2.1 k hk1 hk2.1
                      have h6 := of_decide_eq_false hk2.2
                      have h7 : ¬ k < j := fun e => hold ⟨k, e, hk1, hk2.1⟩
                      have hkS := lt_bit hy.1 hk1
                      refine ⟨by omega, ?_⟩
                      rw [nd, h5.2, bs_in hkS, (may_iff.mp hy.2.2.2.2).2.2 j hjS g2 k hkS hk1]
                      rfl
          refine b_keep (fun hbb => ⟨⟨by omega, by omega⟩, ⟨by omega, by omega⟩, go _ hlo (.inr rfl) ?_ (ble_refl _ _ _)⟩) (fun hbb => ⟨⟨by omega, by omega⟩, ⟨by omega, by omega⟩, go _ ht (.inl rfl) (ble_refl _ _ _) ?_⟩)
          · unfold ble; dsimp only; omega
          · unfold ble; dsimp only; omega
    · exfalso
      obtain ⟨i, g1, g2⟩ := ne_bit hy.2.2.1 hy.2.1
      have g3 := lt_bit hy.1 g1
      have g4 := bc_sub hy.2.2.1 g1 g2 (by omega)
      have g5 := (may_iff.mp hy.2.2.2.2).1
      omega
