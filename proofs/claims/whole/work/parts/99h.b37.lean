/-! B37: the reference writes a passage -/
def MkA (b : Nat → Int) (N bg en : Nat) (S : Nat → Bool) (ov on : Nat → Int) : Prop := ∀ x, bg ≤ x → x < en → ov x = bI (S (ps b N x)) ∧ (x + 1 < en → S (ps b N x) = true → on x = bI (S (ps b N (x + 1))))
def FlP (b : Nat → Int) (N : Nat) (f l : Int) : Prop := (f = -1 ∧ l = -1) ∨ ∃ p q : Nat, f = p ∧ l = q ∧ p ≤ q ∧ q < Wn b N
theorem pB_b {P : Prop} {c : Bool} (h : P ↔ c = true) : pB P = c := by
  cases c
  · cases e : pB P
    · rfl
    · exact absurd (h.mp (pB_iff.mp e)) (by decide)
  · exact pB_iff.mpr (h.mpr rfl)
theorem MkA.of {b : Nat → Int} {N I bg en : Nat} {f l : Int} {tc : Nat → Nat} {R : Nat → Nat → Bool} {sel : Nat → Bool} {qt ov on : Nat → Int} (hT : TcA (Wn b N) I tc R qt) (hRs : ∀ k v, k < I → R k v = true → soN b N v < Sn b N ∧ v + tc k ≤ fW b N (soN b N v + 1)) (hfl : FlP b N f l) (hen : en ≤ sgn b N N) (hp : PrP b N bg en f l)
    (h : LmA bg en (fun x => sba b N I tc R sel f l x ∨ sgp b N bg en (sba b N I tc R sel f l) (sbo b N I tc R sel f l) en x) (fun x => sbo b N I tc R sel f l x ∨ sgp b N bg en (sba b N I tc R sel f l) (sbo b N I tc R sel f l) en x) ov on) : MkA b N bg en (mS b N I tc R sel f l) ov on := by
  intro x h1 h2
  have hx := h x h1 h2
  rcases hfl with ⟨rfl, rfl⟩ | ⟨p, q, rfl, rfl, hpq, hq⟩
  · have no : ∀ y, ¬ sba b N I tc R sel (-1) (-1) y := by
      rintro y ⟨k, v, k1, _, _, _, k5, _⟩
      have := (hT.2.1 k k1).2
      omega
    have e : mS b N I tc R sel (-1) (-1) = fun _ => false := if_pos rfl
    rw [e]
    refine ⟨?_, fun _ g => by cases g⟩
    rw [hx.1, pB_b (c := false) ⟨?_, fun g => by cases g⟩]
    rintro (g | ⟨s0, t, _, _, g, _⟩)
    · exact absurd g (no _)
    · exact absurd g (no _)
  · rw [mS_n]
    have e := mrk_sgn (sel := sel) hT hRs hq hen hp h1 h2
    refine ⟨by rw [hx.1, pB_b e], fun h3 h4 => ?_⟩
    have e2 := mrk_sgn (sel := sel) (x := x + 1) hT hRs hq hen hp (by omega) h3
    rw [hx.2, pB_b ((on_next hT hq h3 (e.mpr h4)).trans e2)]
theorem mS_sg {b : Nat → Int} {N I : Nat} {f l : Int} {tc : Nat → Nat} {R : Nat → Nat → Bool} {qt : Nat → Int} (sel : Nat → Bool) (hT : TcA (Wn b N) I tc R qt) (hfl : FlP b N f l) : SgM b N (mS b N I tc R sel f l) := by
  rcases hfl with ⟨rfl, rfl⟩ | ⟨p, q, rfl, rfl, hpq, hq⟩
  · rw [show mS b N I tc R sel (-1) (-1) = fun _ => false from if_pos rfl]
    intro i _ _; rfl
  · rw [mS_n]; exact mrk_sg sel hT hq
def rwl (b : Nat → Int) (B : Nat) : Nat → List Int
  | 0 => []
  | n + 1 => rwl b B n ++ [b (B + n)]
theorem rwl_len (b : Nat → Int) (B : Nat) : ∀ n, (rwl b B n).length = n
  | 0 => rfl
  | n + 1 => by show List.length (_ ++ _) = _; rw [List.length_append, rwl_len b B n]; rfl
def spl (b : Nat → Int) (N x : Nat) : List Int := if sec b N (ps b N x + 1) = true then rwl b (ps b N x) 2 else esc (b (ps b N x))
theorem spl_len (b : Nat → Int) (N x : Nat) : (spl b N x).length ≤ 6 := by
  unfold spl
  split
  · rw [rwl_len]; omega
  · exact esc_len _
theorem b_Mraw {b pg mo : Nat → Int} {N B n : Nat} {o : List Int} {E : Int} {Q : (Nat → Int) → Int → Prop} {F : Int → Prop → Prop} (hN : Byt b N) (hp : PgE b N pg) (hE : E = ((B + n : Nat) : Int)) (hBn : B + n ≤ N) (h : MrL o mo) (hl : o.length + n ≤ 9000) (hq : ∀ mo', MrL (o ++ rwl b B n) mo' → Q mo' ((o ++ rwl b B n).length : Nat)) (hF : ∀ x p, p → F x p) : lpw3 (fun m_out_2 m_outMany_3 x4 k1 => F x4 ((E ≤ x4 → Q m_out_2 m_outMany_3) ∧ (¬ E ≤ x4 → (0 ≤ x4 ∧ x4 < 600) ∧ (wp_M_puts m_out_2 m_outMany_3 (pg (Int.toNat x4)) (fun m_out_5 m_outMany_6 => (rng (x4 + 1)) ∧ (k1 m_out_5 m_outMany_6 (x4 + 1))))))) mo (o.length : Nat) (B : Nat) := by
  refine ⟨fun mo len x => ∃ j : Nat, x = ((B + j : Nat) : Int) ∧ j ≤ n ∧ len = ((o ++ rwl b B j).length : Nat) ∧ MrL (o ++ rwl b B j) mo, fun _ _ x => B + n - x.toNat, ⟨0, rfl, Nat.zero_le _, by show _ = (((o ++ []).length : Nat) : Int); rw [List.append_nil], by show MrL (o ++ []) mo; rw [List.append_nil]; exact h⟩, ?_⟩
  rintro mo len x ⟨j, rfl, hj, rfl, h1⟩
  refine hF _ _ ⟨fun h2 => ?_, fun h2 => ?_⟩
  · have ej : j = n := by omega
    subst ej
    exact hq _ h1
  · have hlen : (o ++ rwl b B j).length = o.length + j := by rw [List.length_append, rwl_len]
    have hN1 := hN.1
    have hb := hN.2 (B + j) (by omega)
    refine ⟨⟨by omega, by omega⟩, ?_⟩
    rw [Int.toNat_natCast, hp (B + j) (by omega)]
    refine b_Mputs h1 (by omega) (by omega) fun mo' h3 => ⟨⟨by omega, by omega⟩, ⟨j + 1, by omega, by omega, ?_, ?_⟩, by (try dsimp only); omega⟩
    · show _ = (((o ++ (rwl b B j ++ [b (B + j)])).length : Nat) : Int)
      rw [List.append_assoc]
    · show MrL (o ++ (rwl b B j ++ [b (B + j)])) mo'
      rw [← List.append_assoc]; exact h3
theorem b_Mplain1 {b pg sa : Nat → Int} {N x : Nat} {Q : Int → Prop} (hB : Byt b N) (hp : PgE b N pg) (hm : MsA b N sa) (hx : x < sgn b N N) (hs : sec b N (ps b N x + 1) = false) (hq : Q (b (ps b N x))) : wp_M_plain pg sa (sgn b N N) x Q := by
  have h1 := ps_1 hx hs
  refine b_pln hB.1 hp hm (by omega) fun r hr => ?_
  rcases hr with ⟨g, _⟩ | ⟨_, _, _, g⟩
  · rw [g, atv_n (ps_lt hx).1]; exact hq
  · omega
theorem b_Mplain2 {b pg sa : Nat → Int} {N x : Nat} {Q : Int → Prop} (hB : Byt b N) (hp : PgE b N pg) (hm : MsA b N sa) (hx : x < sgn b N N) (hs : sec b N (ps b N x + 1) = true) (hq : Q (-1)) : wp_M_plain pg sa (sgn b N N) x Q := by
  have h1 := ps_2 hx hs
  refine b_pln hB.1 hp hm (by omega) fun r hr => ?_
  rcases hr with ⟨_, g⟩ | ⟨g, _⟩
  · have := g hx; omega
  · rw [g]; exact hq
theorem b_Mspells {b pg sa mo : Nat → Int} {N x : Nat} {o : List Int} {Q : (Nat → Int) → Int → Prop} (hB : Byt b N) (hp : PgE b N pg) (hm : MsA b N sa) (hx : x < sgn b N N) (h : MrL o mo) (hl : o.length + 6 ≤ 9000) (hq : ∀ mo', MrL (o ++ spl b N x) mo' → Q mo' ((o ++ spl b N x).length : Nat)) : wp_M_spells pg sa mo (sgn b N N) (o.length : Nat) x Q := by
  have hN := hB.1
  have hsN := sgn_le b N N
  have h1 := ps_lt hx
  have e1 := hm x (by omega)
  have e2 := hm (x + 1) (by omega)
  have raw : ∀ n, ps b N (x + 1) = ps b N x + n → spl b N x = rwl b (ps b N x) n → (0 ≤ (x : Int) ∧ (x : Int) < 601) ∧ lpw3 (fun (m_out_2 : Nat → Int) (m_outMany_3 x4 : Int) k1 => (rng ((x : Int) + 1)) ∧ ((0 ≤ ((x : Int) + 1) ∧ ((x : Int) + 1) < 601) ∧ (((sa (Int.toNat ((x : Int) + 1))) ≤ x4 → Q m_out_2 m_outMany_3) ∧ (¬ (sa (Int.toNat ((x : Int) + 1))) ≤ x4 → (0 ≤ x4 ∧ x4 < 600) ∧ (wp_M_puts m_out_2 m_outMany_3 (pg (Int.toNat x4)) (fun m_out_5 m_outMany_6 => (rng (x4 + 1)) ∧ (k1 m_out_5 m_outMany_6 (x4 + 1)))))))) mo (o.length : Nat) (sa (Int.toNat (x : Int))) := by
    intro n hn hs
    have hle := ps_le b N (x + 1)
    have hl6 := spl_len b N x
    rw [hs, rwl_len] at hl6
    rw [hs] at hq
    refine ⟨⟨by omega, by omega⟩, ?_⟩
    rw [show Int.toNat (x : Int) = x from rfl, show Int.toNat ((x : Int) + 1) = x + 1 from rfl, e1, e2]
    exact b_Mraw (F := fun _ p => (rng ((x : Int) + 1)) ∧ ((0 ≤ ((x : Int) + 1) ∧ ((x : Int) + 1) < 601) ∧ p)) hB hp (by rw [hn]) (by omega) h (by omega) hq (fun _ p hp => ⟨⟨by omega, by omega⟩, ⟨by omega, by omega⟩, hp⟩)
  unfold wp_M_spells
  cases hsec : sec b N (ps b N x + 1)
  · have hn := ps_1 hx hsec
    have hs : spl b N x = esc (b (ps b N x)) := by unfold spl; rw [hsec]; rfl
    refine b_Mplain1 hB hp hm hx hsec ?_
    rw [hs] at hq
    unfold esc at hs hq
    refine ⟨fun g1 => ⟨fun g2 => ⟨fun g3 => ⟨fun g4 => raw 1 hn ?_, fun g4 => ?_⟩, fun g3 => ?_⟩, fun g2 => ?_⟩, fun g1 => ?_⟩
    · rw [hs, if_neg g4, if_neg g3, if_neg g1, if_neg g2]; rfl
    · rw [if_pos g4] at hq
      exact b_Msays (a := 36) (by decide) (by decide) h (by rw [show (sBy 36).length = 6 from rfl]; omega) hq
    · rw [if_neg (by omega), if_pos g3] at hq
      exact b_Msays (a := 35) (by decide) (by decide) h (by rw [show (sBy 35).length = 5 from rfl]; omega) hq
    · rw [if_neg (by omega), if_neg (by omega), if_neg (by omega), if_pos g2] at hq
      exact b_Msays (a := 34) (by decide) (by decide) h (by rw [show (sBy 34).length = 4 from rfl]; omega) hq
    · rw [if_neg (by omega), if_neg (by omega), if_pos g1] at hq
      exact b_Msays (a := 33) (by decide) (by decide) h (by rw [show (sBy 33).length = 4 from rfl]; omega) hq
  · have hn := ps_2 hx hsec
    have hs : spl b N x = rwl b (ps b N x) 2 := by unfold spl; rw [hsec]; rfl
    refine b_Mplain2 hB hp hm hx hsec ?_
    exact ⟨fun g1 => ⟨fun g2 => ⟨fun g3 => ⟨fun g4 => raw 2 hn hs, fun g4 => absurd g4 (by decide)⟩, fun g3 => absurd g3 (by decide)⟩, fun g2 => absurd g2 (by decide)⟩, fun g1 => absurd g1 (by decide)⟩

/-! a passage, sign by sign -/
theorem sg_two {b : Nat → Int} {N i : Nat} {S : Nat → Bool} (hS : SgM b N S) (h : sec b N (i + 1) = true) : S (i + 1) = S i :=
  hS i (fun w hw e => by have := wBg_sec (b := b) (N := N) hw; rw [e, h] at this; cases this) (fun w hw e => by have := wEn_sec (b := b) (N := N) hw; rw [e, h] at this; cases this)
theorem pv_sg {b : Nat → Int} {N bg x : Nat} {S : Nat → Bool} (hS : SgM b N S) (hb : bg ≤ x) (hx : x < sgn b N N) : pv S (ps b N bg) (ps b N (x + 1) - ps b N bg) = S (ps b N x) := by
  have hm : ps b N bg ≤ ps b N x := by
    rcases Nat.eq_or_lt_of_le hb with e | e
    · rw [e]; exact Nat.le_refl _
    · exact Nat.le_of_lt (ps_mono e (by omega))
  cases hs : sec b N (ps b N x + 1)
  · rw [ps_1 hx hs, show ps b N x + 1 - ps b N bg = (ps b N x - ps b N bg) + 1 by omega]
    show S (ps b N bg + (ps b N x - ps b N bg)) = _
    rw [show ps b N bg + (ps b N x - ps b N bg) = ps b N x by omega]
  · rw [ps_2 hx hs, show ps b N x + 2 - ps b N bg = (ps b N x + 1 - ps b N bg) + 1 by omega]
    show S (ps b N bg + (ps b N x + 1 - ps b N bg)) = _
    rw [show ps b N bg + (ps b N x + 1 - ps b N bg) = ps b N x + 1 by omega]
    exact sg_two hS hs
theorem esc_big {c : Int} (h : 128 ≤ c) : esc c = [c] := by
  unfold esc
  rw [if_neg (by omega), if_neg (by omega), if_neg (by omega), if_neg (by omega)]
def addL (L : List Int) (st : WSt) : WSt := (st.1 ++ L, st.2)
theorem psg_sg {b : Nat → Int} {N bg x : Nat} {S T : Nat → Bool} (hS : SgM b N S) (hT : SgM b N T) (hb : bg ≤ x) (hx : x < sgn b N N) (st : WSt) : psg S T b (ps b N bg) (ps b N (x + 1) - ps b N bg) st = addL (spl b N x) (stC (pv S (ps b N bg) (ps b N x - ps b N bg)) (pv T (ps b N bg) (ps b N x - ps b N bg)) (S (ps b N x)) (T (ps b N x)) (psg S T b (ps b N bg) (ps b N x - ps b N bg) st)) := by
  have hm : ps b N bg ≤ ps b N x := by
    rcases Nat.eq_or_lt_of_le hb with e | e
    · rw [e]; exact Nat.le_refl _
    · exact Nat.le_of_lt (ps_mono e (by omega))
  generalize hB : ps b N bg = B at *
  have ea : B + (ps b N x - B) = ps b N x := by omega
  have one : psg S T b B (ps b N x - B + 1) st = stE (b (ps b N x)) (stC (pv S B (ps b N x - B)) (pv T B (ps b N x - B)) (S (ps b N x)) (T (ps b N x)) (psg S T b B (ps b N x - B) st)) := by
    show stE (b (B + (ps b N x - B))) (stC _ _ (S (B + (ps b N x - B))) (T (B + (ps b N x - B))) _) = _
    rw [ea]
  cases hs : sec b N (ps b N x + 1)
  · rw [ps_1 hx hs, show ps b N x + 1 - B = (ps b N x - B) + 1 by omega, one]
    unfold spl
    rw [hs]
    rfl
  · have hg := sec_ge hs
    rw [Nat.add_sub_cancel] at hg
    rw [ps_2 hx hs, show ps b N x + 2 - B = (ps b N x - B + 1) + 1 by omega]
    show stE (b (B + (ps b N x - B + 1))) (stC (S (B + (ps b N x - B))) (T (B + (ps b N x - B))) (S (B + (ps b N x - B + 1))) (T (B + (ps b N x - B + 1))) (psg S T b B (ps b N x - B + 1) st)) = _
    rw [show B + (ps b N x - B + 1) = ps b N x + 1 by omega, ea, sg_two hS hs, sg_two hT hs, stC_same, one]
    unfold spl
    rw [hs]
    show ((_ ++ esc (b (ps b N x))) ++ esc (b (ps b N x + 1)), _) = (_ ++ (([] ++ [b (ps b N x + 0)]) ++ [b (ps b N x + 1)]), _)
    rw [esc_big (by omega), esc_big (by omega), List.append_assoc]
    rfl
def MrC (st : WSt) (mo : Nat → Int) (len sb tb : Int) : Prop := len = (st.1.length : Nat) ∧ sb = (st.2.1 : Nat) ∧ tb = (st.2.2 : Nat) ∧ MrL st.1 mo
theorem b_MaddS {st : WSt} {mo : Nat → Int} {len sb tb : Int} {a c : Nat} {Q : (Nat → Int) → Int → Prop} (ha : a < 37) (hg : sGd a = true) (hac : sBy a = sBy c) (h : MrC st mo len sb tb) (hl : st.1.length + (sBy a).length ≤ 9000) (hq : ∀ mo' len', MrC (addS c st) mo' len' sb tb → Q mo' len') : wp_M_says mo len a Q := by
  rw [h.1]
  refine b_Msays ha hg h.2.2.2 hl fun mo' hw => hq _ _ ⟨?_, h.2.1, h.2.2.1, ?_⟩
  · show _ = ((List.length (_ ++ sBy c) : Nat) : Int); rw [hac]
  · show MrL (_ ++ sBy c) mo'; rw [← hac]; exact hw
theorem lays_e : @wp_M_laysMarks_0_37_39 = @wp_M_laysMarks_0_36_38 := rfl
theorem merges_e : @wp_M_merges_0_37_39 = @wp_M_merges_0_36_38 := rfl
