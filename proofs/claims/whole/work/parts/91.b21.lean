/-! B21: need, exchange, rank, merit -/
def NdP (S I : Nat) (wt le : Nat → Nat) (ta : Nat → Nat → Nat) (tk : Nat → Nat → Bool) (mo v : Nat) (r : Int) : Prop := (r = -1 ∧ ∀ y, y < 2 ^ S → may S le tk mo 700 y = true → wZ S I wt ta y < v) ∨ (∃ x, x < 2 ^ S ∧ may S le tk mo 700 x = true ∧ v ≤ wZ S I wt ta x ∧ r = max (lS S le x : Int) 20 ∧ ∀ y, y < 2 ^ S → may S le tk mo 700 y = true → v ≤ wZ S I wt ta y → lS S le x ≤ lS S le y)
theorem NdP.uniq {S I : Nat} {wt le : Nat → Nat} {ta : Nat → Nat → Nat} {tk : Nat → Nat → Bool} {mo v : Nat} {r r' : Int} (h : NdP S I wt le ta tk mo v r) (g : NdP S I wt le ta tk mo v r') : r = r' := by
  rcases h with ⟨h1, h2⟩ | ⟨x, h1, h2, h3, h4, h5⟩ <;> rcases g with ⟨g1, g2⟩ | ⟨y, g1, g2, g3, g4, g5⟩
  · rw [h1, g1]
  · have := h2 y g1 g2; omega
  · have := g2 x h1 h2; omega
  · have a := h5 y g1 g2 g3
    have b := g5 x h1 h2 h3
    omega
theorem w_zero {S I : Nat} {wt : Nat → Nat} {ta : Nat → Nat → Nat} : wZ S I wt ta 0 = 0 := by
  refine sm_zero fun k _ => ?_
  have : sS S (fun s => ta s k) 0 = 0 := sm_zero fun i _ => by rw [Nat.zero_testBit]; rfl
  show wt k * tms (sS S (fun s => ta s k) 0) = 0
  rw [this]; rfl
theorem b_Mneed {b : Nat → Int} {N I : Nat} {wt tc : Nat → Nat} {R : Nat → Nat → Bool} {wo ln9 tk : Nat → Int} {li mo v : Nat} {Q : Int → Prop} (hst : StA (Sn b N) I wt (taN b N I R) (leN b N) wo ln9) (htk : TkA (Sn b N) (tkl b N li) tk) (hv : 1 ≤ v)
    (hq : ∀ r, NdP (Sn b N) I wt (leN b N) (taN b N I R) (tkl b N li) mo v r → Q r) : lpw2 (fun (x11 x12 : Int) (k2 : Int → Int → Prop) => ((iShl 1 (Sn b N)) ≤ x12 → (¬ x11 = 268435456 → (20 ≤ x11 → Q x11) ∧ (¬ 20 ≤ x11 → Q 20)) ∧ (x11 = 268435456 → Q (-1))) ∧ (¬ (iShl 1 (Sn b N)) ≤ x12 → (0 ≤ x12 ∧ x12 < 16384) ∧ (jn1 (fun (J3 : Int → Prop) => ((wo (Int.toNat x12)) < (v : Int) → J3 x11) ∧ (¬ (wo (Int.toNat x12)) < (v : Int) → (0 ≤ x12 ∧ x12 < 16384) ∧ ((x11 ≤ (ln9 (Int.toNat x12)) → J3 x11) ∧ (¬ x11 ≤ (ln9 (Int.toNat x12)) → wp_M_mayBe ln9 tk (Sn b N) mo x12 700 (fun (r14 : Int) => (r14 = 0 → J3 x11) ∧ (¬ r14 = 0 → (0 ≤ x12 ∧ x12 < 16384) ∧ (J3 (ln9 (Int.toNat x12))))))))) (fun (x13 : Int) => (rng (x12 + 1)) ∧ (k2 x13 (x12 + 1)))))) 268435456 1 := by
  have h14 := Sn_le b N
  have hP := p14 h14
  have p1 := Nat.two_pow_pos (Sn b N)
  rw [b_shl1 (by omega)]
  have hw0 := w_zero (S := Sn b N) (I := I) (wt := wt) (ta := taN b N I R)
  have mle : ∀ y, may (Sn b N) (leN b N) (tkl b N li) mo 700 y = true → lS (Sn b N) (leN b N) y ≤ 700 := fun y h => (may_iff.mp h).2.1
  refine ⟨fun x11 x12 => ∃ n : Nat, x12 = n ∧ 1 ≤ n ∧ n ≤ 2 ^ Sn b N ∧ ((x11 = 268435456 ∧ ∀ y, y < n → may (Sn b N) (leN b N) (tkl b N li) mo 700 y = true → wZ (Sn b N) I wt (taN b N I R) y < v) ∨ (∃ x, x < 2 ^ Sn b N ∧ may (Sn b N) (leN b N) (tkl b N li) mo 700 x = true ∧ v ≤ wZ (Sn b N) I wt (taN b N I R) x ∧ x11 = (lS (Sn b N) (leN b N) x : Int) ∧ ∀ y, y < n → may (Sn b N) (leN b N) (tkl b N li) mo 700 y = true → v ≤ wZ (Sn b N) I wt (taN b N I R) y → lS (Sn b N) (leN b N) x ≤ lS (Sn b N) (leN b N) y)), fun _ x12 => 2 ^ Sn b N - x12.toNat, ⟨1, rfl, by omega, p1, .inl ⟨rfl, fun y hy _ => by rw [show y = 0 by omega]; omega⟩⟩, ?_⟩
  rintro x11 x12 ⟨n, rfl, hn1, hn, hx⟩
  refine ⟨fun h => ?_, fun h => ?_⟩
  · have en : n = 2 ^ Sn b N := by omega
    subst en
    rcases hx with ⟨rfl, h1⟩ | ⟨x, h1, h2, h3, rfl, h5⟩
    · exact ⟨fun h2 => absurd rfl h2, fun _ => hq _ (.inl ⟨rfl, h1⟩)⟩
    · have h6 := mle x h2
      refine ⟨fun _ => ⟨fun h7 => hq _ (.inr ⟨x, h1, h2, h3, by omega, h5⟩), fun h7 => hq _ (.inr ⟨x, h1, h2, h3, by omega, h5⟩)⟩, fun h7 => by omega⟩
  · have hnl : n < 2 ^ Sn b N := by omega
    simp only [Int.toNat_natCast]
    rw [(hst n hnl).1, (hst n hnl).2]
    have stay : (may (Sn b N) (leN b N) (tkl b N li) mo 700 n = true → wZ (Sn b N) I wt (taN b N I R) n < v ∨ x11 ≤ lS (Sn b N) (leN b N) n) → rng ((n : Int) + 1) ∧ (∃ n' : Nat, (n : Int) + 1 = n' ∧ 1 ≤ n' ∧ n' ≤ 2 ^ Sn b N ∧ ((x11 = 268435456 ∧ ∀ y, y < n' → may (Sn b N) (leN b N) (tkl b N li) mo 700 y = true → wZ (Sn b N) I wt (taN b N I R) y < v) ∨ (∃ x, x < 2 ^ Sn b N ∧ may (Sn b N) (leN b N) (tkl b N li) mo 700 x = true ∧ v ≤ wZ (Sn b N) I wt (taN b N I R) x ∧ x11 = (lS (Sn b N) (leN b N) x : Int) ∧ ∀ y, y < n' → may (Sn b N) (leN b N) (tkl b N li) mo 700 y = true → v ≤ wZ (Sn b N) I wt (taN b N I R) y → lS (Sn b N) (leN b N) x ≤ lS (Sn b N) (leN b N) y))) ∧ 2 ^ Sn b N - ((n : Int) + 1).toNat < 2 ^ Sn b N - (n : Int).toNat := by
      intro hc
      refine ⟨⟨by omega, by omega⟩, ⟨n + 1, by omega, by omega, by omega, ?_⟩, by omega⟩
      rcases hx with ⟨rfl, h1⟩ | ⟨x, h1, h2, h3, rfl, h5⟩
      · refine .inl ⟨rfl, fun y hy hm => ?_⟩
        by_cases e : y = n
        · rw [e] at hm ⊢
          have := mle n hm
          rcases hc hm with g | g
          · exact g
          · omega
        · exact h1 y (by omega) hm
      · refine .inr ⟨x, h1, h2, h3, rfl, fun y hy hm hv2 => ?_⟩
        by_cases e : y = n
        · rw [e] at hm hv2 ⊢
          rcases hc hm with g | g <;> omega
        · exact h5 y (by omega) hm hv2
    refine ⟨⟨by omega, by omega⟩, jn1_i ⟨fun h2 => stay fun _ => .inl (by omega), fun h2 => ⟨⟨by omega, by omega⟩, fun h3 => stay fun _ => .inr h3, fun h3 => b_MmayBe (bu := 700) h14 (hst n hnl).2 htk (by omega) ⟨fun h4 => stay fun hm => ?_, fun h4 => ⟨⟨by omega, by omega⟩, ⟨by omega, by omega⟩, ⟨n + 1, by omega, by omega, by omega, .inr ⟨n, hnl, bI_1 h4, by omega, rfl, fun y hy hm hv2 => ?_⟩⟩, by (try dsimp only); omega⟩⟩⟩⟩⟩
    · rw [bI_0 h4] at hm; cases hm
    · by_cases e : y = n
      · rw [e]; exact Nat.le_refl _
      · rcases hx with ⟨rfl, h5⟩ | ⟨x, h5, h6, h7, rfl, h8⟩
        · have := h5 y (by omega) hm; omega
        · have := h8 y (by omega) hm hv2; omega
/-! exchange -/
def xse (ch a b : Nat) : Nat := ndiff ch (2 ^ a) ||| 2 ^ b
theorem xse_lt {S ch a b : Nat} (h : ch < 2 ^ S) (hb : b < S) : xse ch a b < 2 ^ S := Nat.or_lt_two_pow (Nat.lt_of_le_of_lt (by unfold ndiff; exact Nat.and_le_left) h) (Nat.pow_lt_pow_right (by omega) hb)
theorem i_xse {ch a b : Nat} (h : ch < 2 ^ 14) (ha : a < 14) (hb : b < 14) : iOr (iAnd ch (iXor (iShl 1 a) (-1))) (iShl 1 b) = ((xse ch a b : Nat) : Int) := by
  rw [b_shl1 (by omega), b_andn (by omega), b_orb (by unfold ndiff; exact and_lt31 (by omega)) (by omega)]
  rfl
def exi (wf : Nat → Nat) (my : Nat → Bool) (ch a : Nat) (st : Int × Int × Nat) : Nat → Int × Int × Nat
  | 0 => st
  | b + 1 => if ch.testBit a = true ∧ ch.testBit b = false ∧ wf ch + (exi wf my ch a st b).2.2 < wf (xse ch a b) ∧ my (xse ch a b) = true then ((a : Int), (b : Int), wf (xse ch a b) - wf ch) else exi wf my ch a st b
theorem exi_s (wf : Nat → Nat) (my : Nat → Bool) (ch a : Nat) (st : Int × Int × Nat) (b : Nat) : exi wf my ch a st (b + 1) = if ch.testBit a = true ∧ ch.testBit b = false ∧ wf ch + (exi wf my ch a st b).2.2 < wf (xse ch a b) ∧ my (xse ch a b) = true then ((a : Int), (b : Int), wf (xse ch a b) - wf ch) else exi wf my ch a st b := rfl
theorem exi_no {wf : Nat → Nat} {my : Nat → Bool} {ch a : Nat} {st : Int × Int × Nat} (h : ch.testBit a = false) : ∀ n, exi wf my ch a st n = st
  | 0 => rfl
  | n + 1 => by rw [exi_s, if_neg (by rw [h]; intro g; cases g.1), exi_no h n]
def exo (S : Nat) (wf : Nat → Nat) (my : Nat → Bool) (ch : Nat) : Nat → Int × Int × Nat
  | 0 => (-1, -1, 0)
  | a + 1 => exi wf my ch a (exo S wf my ch a) S
/-- what an exchange is: none, or one that is worth more -/
def ExP (S : Nat) (wf : Nat → Nat) (my : Nat → Bool) (ch : Nat) (st : Int × Int × Nat) : Prop := (st = (-1, -1, 0)) ∨ ∃ a b : Nat, st = ((a : Int), (b : Int), wf (xse ch a b) - wf ch) ∧ a < S ∧ b < S ∧ ch.testBit a = true ∧ ch.testBit b = false ∧ wf ch < wf (xse ch a b) ∧ my (xse ch a b) = true
theorem exi_P {S : Nat} {wf : Nat → Nat} {my : Nat → Bool} {ch a : Nat} {st : Int × Int × Nat} (ha : a < S) (h : ExP S wf my ch st) : ∀ n, n ≤ S → ExP S wf my ch (exi wf my ch a st n)
  | 0, _ => h
  | n + 1, hn => by
    rw [exi_s]
    split
    · rename_i hc
      exact .inr ⟨a, n, rfl, ha, by omega, hc.1, hc.2.1, by omega, hc.2.2.2⟩
    · exact exi_P ha h n (by omega)
theorem exo_P {S : Nat} {wf : Nat → Nat} {my : Nat → Bool} {ch : Nat} : ∀ n, n ≤ S → ExP S wf my ch (exo S wf my ch n)
  | 0, _ => .inl rfl
  | n + 1, hn => exi_P (by omega) (exo_P n (by omega)) S (Nat.le_refl _)
theorem ExP.le {S : Nat} {wf : Nat → Nat} {my : Nat → Bool} {ch : Nat} {st : Int × Int × Nat} (h : ExP S wf my ch st) (hb : ∀ x, wf x ≤ 1008) : st.2.2 ≤ 1008 := by
  rcases h with e | ⟨a, b, e, _⟩
  · rw [e]; show 0 ≤ 1008; omega
  · rw [e]
    have := hb (xse ch a b)
    show wf (xse ch a b) - wf ch ≤ 1008
    omega
theorem b_seekEx {S I : Nat} {wt le : Nat → Nat} {ta : Nat → Nat → Nat} {tk : Nat → Nat → Bool} {qw ss tl : Nat → Int} {tal9 : Nat → Int64} {mo bu ch : Nat} {z1 z2 z3 : Int} {Q : Int → Int → Int → Prop} (hw : QwA I wt qw) (hT : TaA S ta tal9) (hL : LeA S le ss) (hK : TkA S tk tl) (hch : ch < 2 ^ S)
    (hq : Q (exo S (wZ S I wt ta) (may S le tk mo bu) ch S).1 (exo S (wZ S I wt ta) (may S le tk mo bu) ch S).2.1 ((exo S (wZ S I wt ta) (may S le tk mo bu) ch S).2.2 : Nat)) : wp_Sets_seekExchange ss qw tl S I bu mo ch z1 z2 z3 tal9 Q := by
  have hS := hL.1
  have hP := p14 hS
  have wb := fun x => wZ_le (S := S) (ta := ta) hw x
  have w0 := wb ch
  unfold wp_Sets_seekExchange
  refine b_worthSet hS hw hT (by omega) ?_
  refine ⟨fun a1 a2 a3 x => ∃ a : Nat, x = a ∧ a ≤ S ∧ a1 = (exo S (wZ S I wt ta) (may S le tk mo bu) ch a).1 ∧ a2 = (exo S (wZ S I wt ta) (may S le tk mo bu) ch a).2.1 ∧ a3 = ((exo S (wZ S I wt ta) (may S le tk mo bu) ch a).2.2 : Nat), fun _ _ _ x => S - x.toNat, ⟨0, rfl, by omega, rfl, rfl, rfl⟩, ?_⟩
  rintro a1 a2 a3 x ⟨a, rfl, ha, rfl, rfl, rfl⟩
  refine ⟨fun h => by rw [show a = S by omega]; exact hq, fun h => ?_⟩
  have hso := exo_P (S := S) (wf := wZ S I wt ta) (my := may S le tk mo bu) (ch := ch) a ha
  have e1 : exo S (wZ S I wt ta) (may S le tk mo bu) ch (a + 1) = exi (wZ S I wt ta) (may S le tk mo bu) ch a (exo S (wZ S I wt ta) (may S le tk mo bu) ch a) S := rfl
  generalize exo S (wZ S I wt ta) (may S le tk mo bu) ch a = st at *
  refine ⟨fun a1 a2 a3 x => ∃ b : Nat, x = b ∧ b ≤ S ∧ a1 = (exi (wZ S I wt ta) (may S le tk mo bu) ch a st b).1 ∧ a2 = (exi (wZ S I wt ta) (may S le tk mo bu) ch a st b).2.1 ∧ a3 = ((exi (wZ S I wt ta) (may S le tk mo bu) ch a st b).2.2 : Nat), fun _ _ _ x => S - x.toNat, ⟨0, rfl, by omega, rfl, rfl, rfl⟩, ?_⟩
  rintro a1 a2 a3 x ⟨b, rfl, hb, rfl, rfl, rfl⟩
  have hsi := (exi_P (S := S) (wf := wZ S I wt ta) (my := may S le tk mo bu) (ch := ch) (a := a) (by omega) hso b hb).le wb
  have es := exi_s (wZ S I wt ta) (may S le tk mo bu) ch a st b
  refine ⟨exi (wZ S I wt ta) (may S le tk mo bu) ch a st b = exi (wZ S I wt ta) (may S le tk mo bu) ch a st S, fun hend => ⟨⟨by omega, by omega⟩, ⟨a + 1, by omega, by omega, ?_, ?_, ?_⟩, by (try dsimp only); omega⟩, fun h2 => by rw [show b = S by omega], fun h2 => b_Has (by omega) (by omega) ⟨fun h3 => by rw [exi_no (bI_0 h3), exi_no (bI_0 h3)], fun h3 => b_Has (by omega) (by omega) ?_⟩⟩
  · rw [e1, hend]
  · rw [e1, hend]
  · rw [e1, hend]
  · have stay : ¬ (ch.testBit a = true ∧ ch.testBit b = false ∧ wZ S I wt ta ch + (exi (wZ S I wt ta) (may S le tk mo bu) ch a st b).2.2 < wZ S I wt ta (xse ch a b) ∧ may S le tk mo bu (xse ch a b) = true) → rng ((b : Int) + 1) ∧ (∃ b' : Nat, (b : Int) + 1 = b' ∧ b' ≤ S ∧ (exi (wZ S I wt ta) (may S le tk mo bu) ch a st b).1 = (exi (wZ S I wt ta) (may S le tk mo bu) ch a st b').1 ∧ (exi (wZ S I wt ta) (may S le tk mo bu) ch a st b).2.1 = (exi (wZ S I wt ta) (may S le tk mo bu) ch a st b').2.1 ∧ (((exi (wZ S I wt ta) (may S le tk mo bu) ch a st b).2.2 : Nat) : Int) = ((exi (wZ S I wt ta) (may S le tk mo bu) ch a st b').2.2 : Nat)) ∧ S - ((b : Int) + 1).toNat < S - (b : Int).toNat := by
      intro hc
      rw [if_neg hc] at es
      exact ⟨⟨by omega, by omega⟩, ⟨b + 1, by omega, by omega, by rw [es], by rw [es], by rw [es]⟩, by omega⟩
    refine jn3_i ⟨fun h4 => stay fun hc => ?_, fun h4 => ?_⟩
    · rw [bI_1 h4] at hc; cases hc.2.1
    · unfold wp_Sets_tryExchange wp_Sets_exchanged
      rw [i_xse (by omega) (by omega) (by omega)]
      have hxl := xse_lt (a := a) hch (show b < S by omega)
      have w1 := wb (xse ch a b)
      refine b_worthSet hS hw hT (by omega) ⟨⟨by omega, by omega⟩, fun h5 => stay fun hc => by omega, fun h5 => b_mayBe hL hK (by omega) ⟨fun h6 => stay fun hc => ?_, fun h6 => ?_⟩⟩
      · rw [bI_0 h6] at hc; cases hc.2.2.2
      · rw [if_pos ⟨bI_1 h3, bI_0 h4, by omega, bI_1 h6⟩] at es
        exact ⟨⟨by omega, by omega⟩, ⟨b + 1, by omega, by omega, by rw [es], by rw [es], by rw [es]; dsimp only; omega⟩, by (try dsimp only); omega⟩
theorem b_Mtrades {b : Nat → Int} {N I : Nat} {wt tc : Nat → Nat} {R : Nat → Nat → Bool} {so0 lk fr to hwa mw mi mf ml im wo ln9 ins tk : Nat → Int} {al ak z1 z2 : Int} {li mo bu ch : Nat} {Q : Int → (Nat → Int) → (Nat → Int) → (Nat → Int) → (Nat → Int) → Int → Int → Int → Int → Prop} (hB : MBs b N I wt tc R so0 lk fr to hwa mw mi mf ml im) (hal : al = 0 ∨ (al = 1 ∧ StA (Sn b N) I wt (taN b N I R) (leN b N) wo ln9)) (hak : ak = 0 ∨ (ak = 1 ∧ TkA (Sn b N) (tkl b N li) tk)) (hch : ch < 2 ^ Sn b N)
    (hq : ∀ wo' ln' ins' tk', StA (Sn b N) I wt (taN b N I R) (leN b N) wo' ln' → TkA (Sn b N) (tkl b N li) tk' → Q ((exo (Sn b N) (wZ (Sn b N) I wt (taN b N I R)) (may (Sn b N) (leN b N) (tkl b N li) mo bu) ch (Sn b N)).2.2 : Nat) wo' ln' ins' tk' 1 1 (exo (Sn b N) (wZ (Sn b N) I wt (taN b N I R)) (may (Sn b N) (leN b N) (tkl b N li) mo bu) ch (Sn b N)).1 (exo (Sn b N) (wZ (Sn b N) I wt (taN b N I R)) (may (Sn b N) (leN b N) (tkl b N li) mo bu) ch (Sn b N)).2.1) : wp_M_trades so0 lk fr to hwa mw mi mf wo ln9 ins tk (Wn b N) (Sn b N) I (M0 (Wn b N) I R) al ak bu mo li ch z1 z2 Q := by
  have h14 := Sn_le b N
  have hP := p14 h14
  have hw := hB.2.1
  have wb := fun x => wZ_le (S := Sn b N) (ta := taN b N I R) hw x
  have w0 := wb ch
  unfold wp_M_trades
  refine b_MLike hB hal hak fun wo' ln' ins' tk' hst htk => ?_
  have hq := hq wo' ln' ins' tk' hst htk
  have hmay : ∀ (x : Nat) (P : Int → Prop), x < 2 ^ Sn b N → P (bI (may (Sn b N) (leN b N) (tkl b N li) mo bu x)) → wp_M_may ln' tk' (Sn b N) bu mo x P := fun x P hx hp => b_Mmay h14 (hst _ hx).2 htk (by omega) hp
  have hwo : ∀ x, x < 2 ^ Sn b N → wo' x = wZ (Sn b N) I wt (taN b N I R) x := fun x hx => (hst _ hx).1
  generalize wZ (Sn b N) I wt (taN b N I R) = wf at *
  generalize may (Sn b N) (leN b N) (tkl b N li) mo bu = my at *
  generalize hSS : Sn b N = S at *
  refine ⟨fun a1 a2 a3 x => ∃ a : Nat, x = a ∧ a ≤ S ∧ a1 = (exo S wf my ch a).1 ∧ a2 = (exo S wf my ch a).2.1 ∧ a3 = ((exo S wf my ch a).2.2 : Nat), fun _ _ _ x => S - x.toNat, ⟨0, rfl, by omega, rfl, rfl, rfl⟩, ?_⟩
  rintro a1 a2 a3 x ⟨a, rfl, ha, rfl, rfl, rfl⟩
  refine ⟨fun h => by rw [show a = S by omega]; exact hq, fun h => ?_⟩
  have hso := exo_P (S := S) (wf := wf) (my := my) (ch := ch) a ha
  have e1 : exo S wf my ch (a + 1) = exi wf my ch a (exo S wf my ch a) S := rfl
  generalize exo S wf my ch a = st at *
  refine ⟨fun a1 a2 a3 x => ∃ b : Nat, x = b ∧ b ≤ S ∧ a1 = (exi wf my ch a st b).1 ∧ a2 = (exi wf my ch a st b).2.1 ∧ a3 = ((exi wf my ch a st b).2.2 : Nat), fun _ _ _ x => S - x.toNat, ⟨0, rfl, by omega, rfl, rfl, rfl⟩, ?_⟩
  rintro a1 a2 a3 x ⟨b9, rfl, hb, rfl, rfl, rfl⟩
  have hsi := (exi_P (S := S) (wf := wf) (my := my) (ch := ch) (a := a) (by omega) hso b9 hb).le wb
  have es := exi_s wf my ch a st b9
  refine ⟨fun h2 => ⟨⟨by omega, by omega⟩, ⟨a + 1, by omega, by omega, by rw [e1, show b9 = S by omega], by rw [e1, show b9 = S by omega], by rw [e1, show b9 = S by omega]⟩, by (try dsimp only); omega⟩, fun h2 => b_Mholds (by omega) (by omega) ?_⟩
  have stay : ¬ (ch.testBit a = true ∧ ch.testBit b9 = false ∧ wf ch + (exi wf my ch a st b9).2.2 < wf (xse ch a b9) ∧ my (xse ch a b9) = true) → rng ((b9 : Int) + 1) ∧ (∃ b' : Nat, (b9 : Int) + 1 = b' ∧ b' ≤ S ∧ (exi wf my ch a st b9).1 = (exi wf my ch a st b').1 ∧ (exi wf my ch a st b9).2.1 = (exi wf my ch a st b').2.1 ∧ (((exi wf my ch a st b9).2.2 : Nat) : Int) = ((exi wf my ch a st b').2.2 : Nat)) ∧ S - ((b9 : Int) + 1).toNat < S - (b9 : Int).toNat := by
    intro hc
    rw [if_neg hc] at es
    exact ⟨⟨by omega, by omega⟩, ⟨b9 + 1, by omega, by omega, by rw [es], by rw [es], by rw [es]⟩, by omega⟩
  refine jn3_i ⟨fun h3 => stay fun hc => ?_, fun h3 => b_Mholds (by omega) (by omega) ⟨fun h4 => ?_, fun h4 => stay fun hc => ?_⟩⟩
  · rw [bI_0 h3] at hc; cases hc.1
  · rw [i_xse (by omega) (by omega) (by omega)]
    have hxl := xse_lt (a := a) hch (show b9 < S by omega)
    have w1 := wb (xse ch a b9)
    simp only [Int.toNat_natCast]
    rw [hwo _ hxl, hwo _ hch]
    refine ⟨⟨by omega, by omega⟩, ⟨by omega, by omega⟩, ⟨by omega, by omega⟩, fun h5 => stay fun hc => by omega, fun h5 => hmay _ _ hxl ⟨fun h6 => ⟨⟨by omega, by omega⟩, ⟨by omega, by omega⟩, ⟨by omega, by omega⟩, ?_⟩, fun h6 => stay fun hc => ?_⟩⟩
    · rw [if_pos ⟨bI_1 h3, bI_0 h4, by omega, bI_1 h6⟩] at es
      exact ⟨⟨by omega, by omega⟩, ⟨b9 + 1, by omega, by omega, by rw [es], by rw [es], by rw [es]; dsimp only; omega⟩, by (try dsimp only); omega⟩
    · rw [bI_0 h6] at hc; cases hc.2.2.2
  · rw [bI_1 h4] at hc; cases hc.2.1
/-! ranks -/
theorem sS_one {S : Nat} {f : Nat → Nat} {s : Nat} (hs : s < S) : sS S f (2 ^ s) = f s := by
  have h := sS_or (S := S) (f := f) (x := 0) hs (Nat.zero_testBit s)
  rw [Nat.zero_or] at h
  rw [h, show sS S f 0 = 0 from sm_zero fun i _ => by rw [Nat.zero_testBit]; rfl]
  omega
def ahd (S : Nat) (w1 : Nat → Nat) (s : Nat) : Nat := cn (fun o => decide (w1 s < w1 o ∨ (w1 o = w1 s ∧ o < s))) S
theorem ahd_lt {S : Nat} {w1 : Nat → Nat} {s : Nat} (hs : s < S) : ahd S w1 s < S := by
  have h1 : cn (fun o => decide (w1 s < w1 o ∨ (w1 o = w1 s ∧ o < s))) S + 1 ≤ cn (fun _ => true) S := by
    have := cn_upd (p := fun o => decide (w1 s < w1 o ∨ (w1 o = w1 s ∧ o < s))) (q := fun o => decide (w1 s < w1 o ∨ (w1 o = w1 s ∧ o < s)) || decide (o = s)) (w := s) (decide_eq_false (by omega)) (by simp) hs (fun i _ hi => by rw [decide_eq_false hi, Bool.or_false])
    rw [← this]
    exact cn_imp fun i _ _ => rfl
  have h2 := cn_le (fun _ => true) S
  unfold ahd
  omega
def rkI (S : Nat) (w1 : Nat → Nat) (k : Int) : Int := if sk (fun s => !decide ((ahd S w1 s : Int) = k)) S 0 < S then (sk (fun s => !decide ((ahd S w1 s : Int) = k)) S 0 : Int) else -1
theorem b_ranked {S I : Nat} {wt : Nat → Nat} {ta : Nat → Nat → Nat} {qw : Nat → Int} {tl : Nat → Int64} {k : Int} {Q : Int → Prop} (hS : S ≤ 14) (hw : QwA I wt qw) (hT : TaA S ta tl) (hq : Q (rkI S (fun s => wth I wt (ta s)) k)) : wp_Sets_ranked qw S I tl k Q := by
  have wb : ∀ s, wth I wt (ta s) ≤ 1008 := fun s => by have := wth_le (d := ta s) hw; have := hw.1; omega
  unfold wp_Sets_ranked
  refine ⟨fun x => ∃ s : Nat, x = s ∧ s ≤ S ∧ sk (fun s => !decide ((ahd S (fun s => wth I wt (ta s)) s : Int) = k)) S s = sk (fun s => !decide ((ahd S (fun s => wth I wt (ta s)) s : Int) = k)) S 0, fun x => S - x.toNat, ⟨0, rfl, by omega, rfl⟩, ?_⟩
  rintro x ⟨s, rfl, hs, hsk⟩
  refine ⟨fun h => qe hq ?_, fun h => ?_⟩
  · rw [sk_end (by omega)] at hsk
    unfold rkI
    rw [← hsk, if_neg (by omega)]
  · unfold wp_Sets_countAhead
    rw [Int.toNat_natCast]
    refine ⟨⟨by omega, by omega⟩, b_worthOf hw (hT.1 s (by omega)) ?_⟩
    refine ⟨fun x y => ∃ o : Nat, y = o ∧ o ≤ S ∧ x = (cn (fun o => decide (wth I wt (ta s) < wth I wt (ta o) ∨ (wth I wt (ta o) = wth I wt (ta s) ∧ o < s))) o : Nat), fun _ y => S - y.toNat, ⟨0, rfl, by omega, rfl⟩, ?_⟩
    rintro x y ⟨o, rfl, ho, rfl⟩
    have hc := cn_le (fun o => decide (wth I wt (ta s) < wth I wt (ta o) ∨ (wth I wt (ta o) = wth I wt (ta s) ∧ o < s))) o
    refine ⟨fun h2 => ⟨fun h3 => ⟨⟨by omega, by omega⟩, ⟨s + 1, by omega, by omega, ?_⟩, by (try dsimp only); omega⟩, fun h3 => qe hq ?_⟩, fun h2 => ⟨⟨by omega, by omega⟩, ?_⟩⟩
    · rw [← hsk, sk_step (i := s) (by omega)]
      rw [show o = S by omega] at h3
      rw [decide_eq_false (show ¬ (ahd S (fun s => wth I wt (ta s)) s : Int) = k from h3)]; rfl
    · rw [show o = S by omega] at h3
      rw [sk_stop (by rw [decide_eq_true (show (ahd S (fun s => wth I wt (ta s)) s : Int) = k from h3)]; rfl)] at hsk
      unfold rkI
      rw [← hsk, if_pos (by omega)]
    · rw [Int.toNat_natCast]
      refine b_worthOf hw (hT.1 o (by omega)) ?_
      refine ⟨fun x => x = (cn (fun o => decide (wth I wt (ta s) < wth I wt (ta o) ∨ (wth I wt (ta o) = wth I wt (ta s) ∧ o < s))) (o + 1) : Nat), ?_, ?_⟩
      · rintro x rfl
        exact ⟨⟨by omega, by omega⟩, ⟨o + 1, by omega, by omega, rfl⟩, by (try dsimp only); omega⟩
      · refine ⟨wth I wt (ta s) < wth I wt (ta o) ∨ (wth I wt (ta o) = wth I wt (ta s) ∧ o < s), fun hc2 => ⟨⟨by omega, by omega⟩, ?_⟩, fun h3 => .inl (by omega), fun h3 => ⟨fun h4 => ?_, fun h4 => ⟨fun h5 => ?_, fun h5 => .inr (by omega)⟩⟩⟩
        · show _ = _
          rw [cn_t (decide_eq_true hc2)]; omega
        · show _ = _
          rw [cn_f (decide_eq_false (by omega))]
        · show _ = _
          rw [cn_f (decide_eq_false (by omega))]
theorem rkI_out {S : Nat} {w1 : Nat → Nat} {k : Int} (h : k < 0 ∨ (S : Int) ≤ k) : rkI S w1 k = -1 := by
  unfold rkI
  rw [if_neg]
  intro h2
  have h3 := sk_not h2
  have h4 := ahd_lt (w1 := w1) h2
  have : (ahd S w1 (sk (fun s => !decide ((ahd S w1 s : Int) = k)) S 0) : Int) = k := by
    apply Classical.byContradiction
    intro h5
    rw [decide_eq_false h5] at h3; cases h3
  omega
