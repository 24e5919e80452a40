/-! B64: count -/
def cv14 (S I : Nat) (wt le : Nat → Nat) (ta : Nat → Nat → Nat) (tk : Nat → Nat → Bool) (mo bu x : Nat) : Int := if wZ S I wt ta x = 0 then 100 else ((wZ S I wt ta (grd S I wt le ta tk mo bu) * 100 / wZ S I wt ta x : Nat) : Int)
def cvb (b : Nat → Int) (N I M : Nat) (wt : Nat → Nat) (ta : Nat → Nat → Nat) (mo bu li ch : Nat) (ol : Int) (a : Int) : Int :=
  if a = 0 then (N : Int) else if a = 1 then (sgn b N N : Int) else if a = 2 then (Wn b N : Int) else if a = 3 then (Sn b N : Int) else if a = 4 then (I : Int) else if a = 5 then (M : Int) else if a = 6 then (bu : Int) else if a = 7 then (mo : Int) else if a = 8 then (li : Int) else if a = 9 then (ch : Int) else if a = 10 then ((cn (fun w => decide (lko b N w = w)) (Wn b N) : Nat) : Int) else if a = 11 then (wZ (Sn b N) I wt ta (2 ^ Sn b N - 1) : Int) else if a = 12 then ol else -1
def cnP (b : Nat → Int) (N I M : Nat) (wt : Nat → Nat) (ta : Nat → Nat → Nat) (tk : Nat → Nat → Bool) (mo bu li ch : Nat) (ol : Int) (a r : Int) : Prop :=
  (a = 13 → ∃ x : Nat, r = x ∧ Vst (Sn b N) tk x) ∧ (a = 14 → ∃ x : Nat, r = cv14 (Sn b N) I wt (leN b N) ta tk mo bu x ∧ BsP (Sn b N) I wt (leN b N) ta tk mo bu 0 x) ∧ (¬ a = 13 → ¬ a = 14 → r = cvb b N I M wt ta mo bu li ch ol a)
theorem cnP.uniq {b : Nat → Int} {N I M : Nat} {wt : Nat → Nat} {ta : Nat → Nat → Nat} {tk : Nat → Nat → Bool} {mo bu li ch : Nat} {ol a r r' : Int} (h : cnP b N I M wt ta tk mo bu li ch ol a r) (g : cnP b N I M wt ta tk mo bu li ch ol a r') : r = r' := by
  by_cases e1 : a = 13
  · obtain ⟨x, h1, h2⟩ := h.1 e1
    obtain ⟨y, g1, g2⟩ := g.1 e1
    rw [h1, g1, h2.uniq g2]
  · by_cases e2 : a = 14
    · obtain ⟨x, h1, h2⟩ := h.2.1 e2
      obtain ⟨y, g1, g2⟩ := g.2.1 e2
      rw [h1, g1, Bst.uniq h2 g2]
    · rw [h.2.2 e1 e2, g.2.2 e1 e2]
theorem cnP.of {b : Nat → Int} {N I M : Nat} {wt : Nat → Nat} {ta : Nat → Nat → Nat} {tk : Nat → Nat → Bool} {mo bu li ch : Nat} {ol a r : Int} (e1 : ¬ a = 13) (e2 : ¬ a = 14) (h : r = cvb b N I M wt ta mo bu li ch ol a) : cnP b N I M wt ta tk mo bu li ch ol a r := ⟨fun k => absurd k e1, fun k => absurd k e2, fun _ _ => h⟩
theorem dv_le {x y : Nat} (h : x ≤ 1008) : x * 100 / y ≤ 100800 := Nat.le_trans (Nat.div_le_self _ _) (by omega)
theorem rng_n {n : Nat} (h : n ≤ 100800) : rng (n : Int) := ⟨by omega, by omega⟩
theorem b_count {b al ss qw tk9 sp : Nat → Int} {tal9 : Nat → Int64} {N I M mo bu li ch : Nat} {wt : Nat → Nat} {ta : Nat → Nat → Nat} {tk : Nat → Nat → Bool} {ol z bk be z1 z2 z3 z4 z5 z6 z7 a : Int} {Q : Int → (Nat → Int) → Int → Int → Int → Int → Int → Int → Int → Int → Int → Int → Prop} (hA : AlA b N al) (hw : QwA I wt qw) (hT : TaA (Sn b N) ta tal9) (hL : LeA (Sn b N) (leN b N) ss) (hK : TkA (Sn b N) tk tk9) (hsy : ∀ s o, tk s o = tk o s) (hir : ∀ s, tk s s = false) (hmo : mo ≤ 6) (hro : bu ≤ 700) (hk : bk = 0 ∨ (bk = 1 ∧ ∃ x : Nat, be = x ∧ BsP (Sn b N) I wt (leN b N) ta tk mo bu 0 x))
    (hq : ∀ (r : Int) (sp' : Nat → Int) (z' bk' be' y1 y2 y3 y4 y5 y6 y7 : Int), cnP b N I M wt ta tk mo bu li ch ol a r → (bk' = 0 ∨ (bk' = 1 ∧ ∃ x : Nat, be' = x ∧ BsP (Sn b N) I wt (leN b N) ta tk mo bu 0 x)) → Q r sp' z' bk' be' y1 y2 y3 y4 y5 y6 y7) : wp_Picker_count al ss qw sp tk9 N (sgn b N N) (Wn b N) (Sn b N) I M bu mo li ch z bk be z1 z2 z3 z4 z5 z6 z7 ol tal9 a Q := by
  have h14 := Sn_le b N
  have hp : 2 ^ Sn b N ≤ 2 ^ 14 := Nat.pow_le_pow_right (by omega) h14
  have hp0 := Nat.two_pow_pos (Sn b N)
  have wb := fun x => wZ_le (S := Sn b N) (ta := ta) hw x
  unfold wp_Picker_count
  have hq0 : ∀ r : Int, ¬ a = 13 → ¬ a = 14 → r = cvb b N I M wt ta mo bu li ch ol a → Q r sp z bk be z1 z2 z3 z4 z5 z6 z7 := fun r e1 e2 h => hq r _ _ _ _ _ _ _ _ _ _ _ (cnP.of e1 e2 h) hk
  unfold cvb at hq0
  refine ⟨fun k => hq0 _ (by omega) (by omega) (by rw [if_pos k]), fun k0 => ⟨fun k => hq0 _ (by omega) (by omega) (by rw [if_neg k0, if_pos k]), fun k1 => ⟨fun k => hq0 _ (by omega) (by omega) (by rw [if_neg k0, if_neg k1, if_pos k]), fun k2 => ⟨fun k => hq0 _ (by omega) (by omega) (by rw [if_neg k0, if_neg k1, if_neg k2, if_pos k]), fun k3 => ⟨fun k => hq0 _ (by omega) (by omega) (by rw [if_neg k0, if_neg k1, if_neg k2, if_neg k3, if_pos k]), fun k4 => ⟨fun k => hq0 _ (by omega) (by omega) (by rw [if_neg k0, if_neg k1, if_neg k2, if_neg k3, if_neg k4, if_pos k]), fun k5 => ?_⟩⟩⟩⟩⟩⟩
  have hq0 : ∀ r : Int, ¬ a = 13 → ¬ a = 14 → r = (if a = 6 then (bu : Int) else if a = 7 then (mo : Int) else if a = 8 then (li : Int) else if a = 9 then (ch : Int) else if a = 10 then ((cn (fun w => decide (lko b N w = w)) (Wn b N) : Nat) : Int) else if a = 11 then (wZ (Sn b N) I wt ta (2 ^ Sn b N - 1) : Int) else if a = 12 then ol else -1) → Q r sp z bk be z1 z2 z3 z4 z5 z6 z7 := fun r e1 e2 h => hq0 r e1 e2 (by rw [if_neg k0, if_neg k1, if_neg k2, if_neg k3, if_neg k4, if_neg k5]; exact h)
  refine ⟨fun k => hq0 _ (by omega) (by omega) (by rw [if_pos k]), fun k6 => ⟨fun k => hq0 _ (by omega) (by omega) (by rw [if_neg k6, if_pos k]), fun k7 => ⟨fun k => hq0 _ (by omega) (by omega) (by rw [if_neg k6, if_neg k7, if_pos k]), fun k8 => ⟨fun k => hq0 _ (by omega) (by omega) (by rw [if_neg k6, if_neg k7, if_neg k8, if_pos k]), fun k9 => ?_⟩⟩⟩⟩
  have hq0 : ∀ r : Int, ¬ a = 13 → ¬ a = 14 → r = (if a = 10 then ((cn (fun w => decide (lko b N w = w)) (Wn b N) : Nat) : Int) else if a = 11 then (wZ (Sn b N) I wt ta (2 ^ Sn b N - 1) : Int) else if a = 12 then ol else -1) → Q r sp z bk be z1 z2 z3 z4 z5 z6 z7 := fun r e1 e2 h => hq0 r e1 e2 (by rw [if_neg k6, if_neg k7, if_neg k8, if_neg k9]; exact h)
  refine ⟨fun k => b_unlikeAll hA (hq0 _ (by omega) (by omega) (by rw [if_pos k])), fun k10 => ⟨fun k => b_allS h14 (b_worthSet h14 hw hT (by omega) (hq0 _ (by omega) (by omega) (by rw [if_neg k10, if_pos k]))), fun k11 => ⟨fun k => hq0 _ (by omega) (by omega) (by rw [if_neg k10, if_neg k11, if_pos k]), fun k12 => ⟨fun k => ?_, fun k13 => ⟨fun k => ?_, fun k14 => hq0 _ k13 k14 (by rw [if_neg k10, if_neg k11, if_neg k12])⟩⟩⟩⟩⟩
  · unfold wp_Sets_variety
    exact b_largest h14 hK hsy hir fun x hx => hq _ _ _ _ _ _ _ _ _ _ _ _ ⟨fun _ => ⟨x, rfl, hx⟩, fun e => by omega, fun e => absurd k e⟩ hk
  · refine b_greedy hw hT hL hK fun sp' => b_best hw hT hL hK hsy hir hmo hro hk fun x y1 y2 y3 y4 y5 y6 hx => ?_
    have hx0 := hx.1
    have hg := grd_lt (S := Sn b N) (I := I) (wt := wt) (le := leN b N) (ta := ta) (tk := tk) (mo := mo) (bu := bu)
    have hq := hq (cv14 (Sn b N) I wt (leN b N) ta tk mo bu x) sp' (gK (nX (Sn b N) I wt (leN b N) ta tk mo bu) : Nat) 1 x y1 y2 y3 y4 y5 y6 z7 ⟨fun e => by omega, fun _ => ⟨x, rfl, hx⟩, fun _ e => absurd k e⟩ (.inr ⟨rfl, x, rfl, hx⟩)
    unfold cv14 at hq
    unfold wp_Sets_hundredths
    refine b_worthSet h14 hw hT (by omega) ⟨fun e => b_worthSet h14 hw hT (by omega) ?_, fun e => ?_⟩
    · have w1 := wb (grd (Sn b N) I wt (leN b N) ta tk mo bu)
      have d1 := dv_le (y := wZ (Sn b N) I wt ta x) w1
      rw [if_neg (by omega)] at hq
      rw [show ((wZ (Sn b N) I wt ta (grd (Sn b N) I wt (leN b N) ta tk mo bu) : Nat) : Int) * 100 = ((wZ (Sn b N) I wt ta (grd (Sn b N) I wt (leN b N) ta tk mo bu) * 100 : Nat) : Int) by omega, td_n]
      exact ⟨⟨by omega, by omega⟩, ⟨e, rng_n d1⟩, hq⟩
    · rw [if_pos (by omega)] at hq; exact hq
theorem b_Mcount {b so0 lk fr to hwa mw mi mf ml im wo ln9 ins tk sp : Nat → Int} {N I li mo bu ch : Nat} {wt tc : Nat → Nat} {R : Nat → Nat → Bool} {thr al ak z ol a : Int} {Q : Int → (Nat → Int) → (Nat → Int) → (Nat → Int) → (Nat → Int) → (Nat → Int) → Int → Int → Int → Int → Prop} (hB : MBs b N I wt tc R so0 lk fr to hwa mw mi mf ml im) (hal : al = 0 ∨ (al = 1 ∧ StA (Sn b N) I wt (taN b N I R) (leN b N) wo ln9)) (hak : ak = 0 ∨ (ak = 1 ∧ TkA (Sn b N) (tkl b N li) tk)) (hmo : mo ≤ 6)
    (hq : ∀ (r : Int) (wo' ln' ins' tk' sp' : Nat → Int) (z' : Int), StA (Sn b N) I wt (taN b N I R) (leN b N) wo' ln' → TkA (Sn b N) (tkl b N li) tk' → cnP b N I (M0 (Wn b N) I R) wt (taN b N I R) (tkl b N li) mo bu li ch ol a r → Q r wo' ln' ins' tk' sp' 0 1 1 z') : wp_M_count so0 lk fr to hwa mw mi mf wo ln9 ins tk sp thr N (sgn b N N) (Wn b N) (Sn b N) I (M0 (Wn b N) I R) al ak bu mo li ch z ol a Q := by
  have h14 := Sn_le b N
  have hP := p14 h14
  have hp0 := Nat.two_pow_pos (Sn b N)
  have hA := hB.2.2.2.2.1
  have wb := fun x => wZ_le (S := Sn b N) (ta := taN b N I R) hB.2.1 x
  unfold wp_M_count
  refine b_MLike hB hal hak fun wo' ln' ins' tk' hSt hTk => ?_
  have hq0 : ∀ r : Int, ¬ a = 13 → ¬ a = 14 → r = cvb b N I (M0 (Wn b N) I R) wt (taN b N I R) mo bu li ch ol a → Q r wo' ln' ins' tk' sp 0 1 1 z := fun r e1 e2 h => hq r _ _ _ _ _ _ hSt hTk (cnP.of e1 e2 h)
  unfold cvb at hq0
  refine ⟨fun k => hq0 _ (by omega) (by omega) (by rw [if_pos k]), fun k0 => ⟨fun k => hq0 _ (by omega) (by omega) (by rw [if_neg k0, if_pos k]), fun k1 => ⟨fun k => hq0 _ (by omega) (by omega) (by rw [if_neg k0, if_neg k1, if_pos k]), fun k2 => ⟨fun k => hq0 _ (by omega) (by omega) (by rw [if_neg k0, if_neg k1, if_neg k2, if_pos k]), fun k3 => ⟨fun k => hq0 _ (by omega) (by omega) (by rw [if_neg k0, if_neg k1, if_neg k2, if_neg k3, if_pos k]), fun k4 => ⟨fun k => hq0 _ (by omega) (by omega) (by rw [if_neg k0, if_neg k1, if_neg k2, if_neg k3, if_neg k4, if_pos k]), fun k5 => ?_⟩⟩⟩⟩⟩⟩
  have hq0 : ∀ r : Int, ¬ a = 13 → ¬ a = 14 → r = (if a = 6 then (bu : Int) else if a = 7 then (mo : Int) else if a = 8 then (li : Int) else if a = 9 then (ch : Int) else if a = 10 then ((cn (fun w => decide (lko b N w = w)) (Wn b N) : Nat) : Int) else if a = 11 then (wZ (Sn b N) I wt (taN b N I R) (2 ^ Sn b N - 1) : Int) else if a = 12 then ol else -1) → Q r wo' ln' ins' tk' sp 0 1 1 z := fun r e1 e2 h => hq0 r e1 e2 (by rw [if_neg k0, if_neg k1, if_neg k2, if_neg k3, if_neg k4, if_neg k5]; exact h)
  refine ⟨fun k => hq0 _ (by omega) (by omega) (by rw [if_pos k]), fun k6 => ⟨fun k => hq0 _ (by omega) (by omega) (by rw [if_neg k6, if_pos k]), fun k7 => ⟨fun k => hq0 _ (by omega) (by omega) (by rw [if_neg k6, if_neg k7, if_pos k]), fun k8 => ⟨fun k => hq0 _ (by omega) (by omega) (by rw [if_neg k6, if_neg k7, if_neg k8, if_pos k]), fun k9 => ?_⟩⟩⟩⟩
  have hq0 : ∀ r : Int, ¬ a = 13 → ¬ a = 14 → r = (if a = 10 then ((cn (fun w => decide (lko b N w = w)) (Wn b N) : Nat) : Int) else if a = 11 then (wZ (Sn b N) I wt (taN b N I R) (2 ^ Sn b N - 1) : Int) else if a = 12 then ol else -1) → Q r wo' ln' ins' tk' sp 0 1 1 z := fun r e1 e2 h => hq0 r e1 e2 (by rw [if_neg k6, if_neg k7, if_neg k8, if_neg k9]; exact h)
  refine ⟨fun k => b_MunlikeA hA (hq0 _ (by omega) (by omega) (by rw [if_pos k])), fun k10 => ⟨fun k => ?_, fun k11 => ⟨fun k => hq0 _ (by omega) (by omega) (by rw [if_neg k10, if_neg k11, if_pos k]), fun k12 => ⟨fun k => ?_, fun k13 => ⟨fun k => ?_, fun k14 => hq0 _ k13 k14 (by rw [if_neg k10, if_neg k11, if_neg k12])⟩⟩⟩⟩⟩
  · rw [b_shl1 (by omega), show ((2 ^ Sn b N : Nat) : Int) - 1 = ((2 ^ Sn b N - 1 : Nat) : Int) by omega, Int.toNat_natCast, (hSt _ (by omega)).1]
    exact ⟨⟨by omega, by omega⟩, ⟨by omega, by omega⟩, hq0 _ (by omega) (by omega) (by rw [if_neg k10, if_pos k])⟩
  · exact b_Mvariety hB (.inr ⟨rfl, hSt⟩) (.inr ⟨rfl, hTk⟩) fun x wo2 ln2 ins2 tk2 hSt2 hTk2 hx => hq _ _ _ _ _ _ _ hSt2 hTk2 ⟨fun _ => ⟨x, rfl, hx⟩, fun e => by omega, fun e => absurd k e⟩
  · unfold wp_M_merit
    refine b_Mbest (wi := 0) (mo := mo) (bu := bu) hB (.inr ⟨rfl, hSt⟩) (.inr ⟨rfl, hTk⟩) (by decide) fun x wo2 ln2 ins2 tk2 hSt2 hTk2 hx => ?_
    have hx0 := hx.1
    have hq := fun (wo' ln' ins' tk' sp' : Nat → Int) (z' : Int) h1 h2 => hq (cv14 (Sn b N) I wt (leN b N) (taN b N I R) (tkl b N li) mo bu x) wo' ln' ins' tk' sp' z' h1 h2 ⟨fun e => by omega, fun _ => ⟨x, rfl, hx⟩, fun _ e => absurd k e⟩
    unfold cv14 at hq
    have hg := grd_lt (S := Sn b N) (I := I) (wt := wt) (le := leN b N) (ta := taN b N I R) (tk := tkl b N li) (mo := mo) (bu := bu)
    rw [Int.toNat_natCast, (hSt2 x hx0).1]
    refine ⟨⟨by omega, by omega⟩, fun e => b_MGreedy hB (.inr ⟨rfl, hSt2⟩) (.inr ⟨rfl, hTk2⟩) hmo fun wo3 ln3 ins3 tk3 sp3 z3 hSt3 hTk3 => ?_, fun e => ?_⟩
    · have w1 := wb (grd (Sn b N) I wt (leN b N) (taN b N I R) (tkl b N li) mo bu)
      have d1 := dv_le (y := wZ (Sn b N) I wt (taN b N I R) x) w1
      have hq := hq wo3 ln3 ins3 tk3 sp3 z3 hSt3 hTk3
      rw [if_neg (by omega)] at hq
      rw [Int.toNat_natCast, (hSt3 _ hg).1, show 100 * ((wZ (Sn b N) I wt (taN b N I R) (grd (Sn b N) I wt (leN b N) (taN b N I R) (tkl b N li) mo bu) : Nat) : Int) = ((wZ (Sn b N) I wt (taN b N I R) (grd (Sn b N) I wt (leN b N) (taN b N I R) (tkl b N li) mo bu) * 100 : Nat) : Int) by omega, td_n]
      exact ⟨⟨by omega, by omega⟩, ⟨by omega, by omega⟩, ⟨e, rng_n d1⟩, hq⟩
    · have hq := hq wo2 ln2 ins2 tk2 sp z hSt2 hTk2
      rw [if_pos (by omega)] at hq; exact hq
