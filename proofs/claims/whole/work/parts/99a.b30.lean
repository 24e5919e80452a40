/-! B30: what is written -/
theorem gd_l {o p : List Int} {j : Nat} (h : j < o.length) : (o ++ p).getD j 0 = o.getD j 0 := by
  rw [List.getD_eq_getElem?_getD, List.getD_eq_getElem?_getD, List.getElem?_append_left h]
theorem gd_r {o p : List Int} {j : Nat} : (o ++ p).getD (o.length + j) 0 = p.getD j 0 := by
  rw [List.getD_eq_getElem?_getD, List.getD_eq_getElem?_getD, List.getElem?_append_right (by omega), Nat.add_sub_cancel_left]
def WrL (o : List Int) (wb : Nat → Int) : Prop := ∀ j, j < o.length → wb j = o.getD j 0
def MrL (o : List Int) (mo : Nat → Int) : Prop := ∀ j, j < o.length → mo j = sgb (o.getD j 0)
theorem b_putByte {o : List Int} {wb : Nat → Int} {c : Int} {Q : (Nat → Int) → Int → Prop} (h : WrL o wb) (hl : o.length < 5760) (hq : ∀ wb', WrL (o ++ [c]) wb' → Q wb' ((o ++ [c]).length : Nat)) : wp_Writer_putByte wb (o.length : Nat) c Q := by
  have e : (((o ++ [c]).length : Nat) : Int) = (o.length : Int) + 1 := by rw [List.length_append]; rfl
  unfold wp_Writer_putByte
  refine ⟨fun g => by omega, fun _ => ⟨⟨by omega, by omega⟩, ⟨by omega, by omega⟩, ?_⟩⟩
  rw [← e]
  refine hq _ fun j hj => ?_
  rw [List.length_append] at hj
  have hj : j < o.length + 1 := hj
  by_cases ej : j = o.length
  · subst ej
    rw [uI_e rfl]
    have := gd_r (o := o) (p := [c]) (j := 0)
    rw [Nat.add_zero] at this
    rw [this]; rfl
  · rw [uI_n (by omega) (by omega), gd_l (by omega)]
    exact h j (by omega)
theorem b_put {o : List Int} {wb : Nat → Int} {a : Nat} {Q : (Nat → Int) → Int → Prop} (ha : a < 37) (h : WrL o wb) (hl : o.length + (sBy a).length ≤ 5760) (hq : ∀ wb', WrL (o ++ sBy a) wb' → Q wb' ((o ++ sBy a).length : Nat)) : wp_Writer_put wb (o.length : Nat) a Q := by
  have e : (((o ++ sBy a).length : Nat) : Int) = (o.length : Int) + ((sBy a).length : Int) := by rw [List.length_append]; omega
  have es : sLen a = ((sBy a).length : Int) := rfl
  unfold wp_Writer_put
  refine ⟨fun wb len x => ∃ j : Nat, x = j ∧ j ≤ (sBy a).length ∧ len = ((o.length + j : Nat) : Int) ∧ WrL o wb ∧ ∀ i, i < j → wb (o.length + i) = (sBy a).getD i 0, fun _ _ x => (sBy a).length - x.toNat, ⟨0, rfl, by omega, rfl, h, fun i hi => by omega⟩, ?_⟩
  rintro wb len x ⟨j, rfl, hj, rfl, h1, h2⟩
  rw [es]
  refine ⟨ha, fun h3 => ?_, fun h3 => ⟨⟨ha, by omega, by omega⟩, ?_⟩⟩
  · have ej : j = (sBy a).length := by omega
    subst ej
    rw [show ((o.length + (sBy a).length : Nat) : Int) = (((o ++ sBy a).length : Nat) : Int) by omega]
    refine hq _ fun i hi => ?_
    rw [List.length_append] at hi
    by_cases ei : i < o.length
    · rw [gd_l ei]; exact h1 i ei
    · have e9 : i = o.length + (i - o.length) := by omega
      rw [e9, gd_r]
      exact h2 _ (by omega)
  · unfold wp_Writer_putByte
    refine ⟨fun g => by omega, fun _ => ⟨⟨by omega, by omega⟩, ⟨by omega, by omega⟩, ⟨by omega, by omega⟩, ⟨j + 1, by omega, by omega, by omega, fun i hi => ?_, fun i hi => ?_⟩, by (try dsimp only); omega⟩⟩
    · rw [uI_n (by omega) (by omega)]; exact h1 i hi
    · by_cases ei : i = j
      · rw [uI_e (by omega), ei]; rfl
      · rw [uI_n (by omega) (by omega)]; exact h2 i (by omega)
theorem i2b_s : ∀ c : Nat, c < 256 → i2b (c : Int) = sgb (c : Int) := by decide +kernel
theorem i2b_z {c : Int} (h : 0 ≤ c ∧ c ≤ 255) : i2b c = sgb c := by
  have := i2b_s c.toNat (by omega)
  rw [show ((c.toNat : Nat) : Int) = c by omega] at this
  exact this
theorem sgb_b {c : Int} (h : 0 ≤ c ∧ c ≤ 255) : -128 ≤ sgb c ∧ sgb c < 128 := by unfold sgb; split <;> omega
theorem b_Mputs {o : List Int} {mo : Nat → Int} {c : Int} {Q : (Nat → Int) → Int → Prop} (h : MrL o mo) (hc : 0 ≤ c ∧ c ≤ 255) (hl : o.length < 9000) (hq : ∀ mo', MrL (o ++ [c]) mo' → Q mo' ((o ++ [c]).length : Nat)) : wp_M_puts mo (o.length : Nat) c Q := by
  have e : (((o ++ [c]).length : Nat) : Int) = (o.length : Int) + 1 := by rw [List.length_append]; rfl
  have hb := sgb_b hc
  unfold wp_M_puts
  rw [i2b_z hc]
  refine ⟨⟨⟨by omega, by omega⟩, hb⟩, ⟨by omega, by omega⟩, ?_⟩
  rw [← e]
  refine hq _ fun j hj => ?_
  rw [List.length_append] at hj
  have hj : j < o.length + 1 := hj
  by_cases ej : j = o.length
  · subst ej
    rw [uI_e rfl]
    have := gd_r (o := o) (p := [c]) (j := 0)
    rw [Nat.add_zero] at this
    rw [this]; rfl
  · rw [uI_n (by omega) (by omega), gd_l (by omega)]
    exact h j (by omega)
def sGd (a : Nat) : Bool := (sBy a).all (fun c => decide (0 ≤ c ∧ c ≤ 127))
theorem sGd_at {a i : Nat} (h : sGd a = true) (hi : i < (sBy a).length) : 0 ≤ (sBy a).getD i 0 ∧ (sBy a).getD i 0 ≤ 127 := by
  rw [List.getD_eq_getElem?_getD, List.getElem?_eq_getElem hi]
  exact of_decide_eq_true (List.all_eq_true.mp h _ (List.getElem_mem hi))
theorem b_Msays {o : List Int} {mo : Nat → Int} {a : Nat} {Q : (Nat → Int) → Int → Prop} (ha : a < 37) (hg : sGd a = true) (h : MrL o mo) (hl : o.length + (sBy a).length ≤ 9000) (hq : ∀ mo', MrL (o ++ sBy a) mo' → Q mo' ((o ++ sBy a).length : Nat)) : wp_M_says mo (o.length : Nat) a Q := by
  have e : (((o ++ sBy a).length : Nat) : Int) = (o.length : Int) + ((sBy a).length : Int) := by rw [List.length_append]; omega
  have es : sLen a = ((sBy a).length : Int) := rfl
  unfold wp_M_says
  refine ⟨fun mo len x => ∃ j : Nat, x = j ∧ j ≤ (sBy a).length ∧ len = ((o.length + j : Nat) : Int) ∧ MrL o mo ∧ ∀ i, i < j → mo (o.length + i) = sgb ((sBy a).getD i 0), fun _ _ x => (sBy a).length - x.toNat, ⟨0, rfl, by omega, rfl, h, fun i hi => by omega⟩, ?_⟩
  rintro mo len x ⟨j, rfl, hj, rfl, h1, h2⟩
  rw [es]
  refine ⟨ha, fun h3 => ?_, fun h3 => ⟨⟨ha, by omega, by omega⟩, ?_⟩⟩
  · have ej : j = (sBy a).length := by omega
    subst ej
    rw [show ((o.length + (sBy a).length : Nat) : Int) = (((o ++ sBy a).length : Nat) : Int) by omega]
    refine hq _ fun i hi => ?_
    rw [List.length_append] at hi
    by_cases ei : i < o.length
    · rw [gd_l ei]; exact h1 i ei
    · have e9 : i = o.length + (i - o.length) := by omega
      rw [e9, gd_r]
      exact h2 _ (by omega)
  · have hc := sGd_at hg (show j < (sBy a).length by omega)
    have hsa : sAt a (j : Int) = (sBy a).getD j 0 := rfl
    have hb := sgb_b (c := (sBy a).getD j 0) (by omega)
    unfold wp_M_puts
    rw [hsa, i2b_z (by omega)]
    refine ⟨⟨⟨by omega, by omega⟩, hb⟩, ⟨by omega, by omega⟩, ⟨by omega, by omega⟩, ⟨j + 1, by omega, by omega, by omega, fun i hi => ?_, fun i hi => ?_⟩, by (try dsimp only); omega⟩
    · rw [uI_n (by omega) (by omega)]; exact h1 i hi
    · by_cases ei : i = j
      · rw [uI_e (by omega), ei]
      · rw [uI_n (by omega) (by omega)]; exact h2 i (by omega)
/-! marks that change -/
def mkk (s t : Bool) : Nat := (if s then 1 else 0) ||| (if t then 2 else 0)
def ch1 (s t s' t' : Bool) : List Int := if (t && (s != s' || !t')) then sBy 12 else []
def ch2 (s s' : Bool) : List Int := if (s != s') then (if s' then sBy 13 else sBy 14) else []
def ch3 (s t s' t' : Bool) : List Int := if (t' && (s != s' || !t)) then sBy 15 else []
def chg (s t s' t' : Bool) : List Int := ch1 s t s' t' ++ (ch2 s s' ++ ch3 s t s' t')
def csS (s s' : Bool) : Nat := if (s' && !s) then 1 else 0
def csT (s t s' t' : Bool) : Nat := if (t' && (s != s' || !t)) then 1 else 0
theorem chg_len : ∀ s t s' t' : Bool, (ch1 s t s' t').length ≤ 4 ∧ (ch2 s s').length ≤ 4 ∧ (ch3 s t s' t').length ≤ 3 ∧ (chg s t s' t').length ≤ 11 := by decide +kernel
theorem chg_same : ∀ s t : Bool, chg s t s t = [] ∧ csS s s = 0 ∧ csT s t s t = 0 := by decide +kernel
theorem mkk_x : ∀ s t s' t' : Bool, (iAnd (iXor ((mkk s t : Nat) : Int) ((mkk s' t' : Nat) : Int)) 1 = 0 ↔ (s != s') = false) ∧ (iAnd ((mkk s t : Nat) : Int) 2 = 0 ↔ t = false) ∧ (iAnd ((mkk s t : Nat) : Int) 1 = 0 ↔ s = false) := by decide +kernel
abbrev WSt : Type := List Int × Nat × Nat
def stC (s t s' t' : Bool) (st : WSt) : WSt := (st.1 ++ chg s t s' t', st.2.1 + csS s s', st.2.2 + csT s t s' t')
def WrC (st : WSt) (wb : Nat → Int) (len sb tb : Int) : Prop := len = (st.1.length : Nat) ∧ sb = (st.2.1 : Nat) ∧ tb = (st.2.2 : Nat) ∧ WrL st.1 wb
theorem bI_i {b : Bool} {P : Prop} (h : P ↔ b = false) (J : Int → Prop) (hj : J (bI b)) : (P → J 0) ∧ (¬ P → J 1) := by
  cases b
  · exact ⟨fun _ => hj, fun g => absurd (h.mpr rfl) g⟩
  · exact ⟨fun g => (by cases h.mp g), fun _ => hj⟩
theorem b_change {st : WSt} {wb : Nat → Int} {len sb tb : Int} {s t s' t' : Bool} {Q : (Nat → Int) → Int → Int → Int → Prop} (h : WrC st wb len sb tb) (hl : st.1.length + 11 ≤ 5760) (hs : st.2.1 ≤ 10000 ∧ st.2.2 ≤ 10000) (hq : ∀ wb' len' sb' tb', WrC (stC s t s' t' st) wb' len' sb' tb' → Q wb' len' sb' tb') : wp_Writer_changeMarks wb len sb tb ((mkk s t : Nat) : Int) ((mkk s' t' : Nat) : Int) Q := by
  obtain ⟨rfl, rfl, rfl, h4⟩ := h
  obtain ⟨o, cs, ct⟩ := st
  dsimp only at *
  have hc := chg_len s t s' t'
  have m1 := mkk_x s t s' t'
  have m2 := mkk_x s' t' s' t'
  have hfin : ∀ (wb' : Nat → Int) (len' sb' tb' : Int), len' = (((o ++ ch1 s t s' t') ++ ch2 s s' ++ ch3 s t s' t').length : Nat) → sb' = ((cs + csS s s' : Nat) : Int) → tb' = ((ct + csT s t s' t' : Nat) : Int) → WrL ((o ++ ch1 s t s' t') ++ ch2 s s' ++ ch3 s t s' t') wb' → Q wb' len' sb' tb' := by
    intro wb' len' sb' tb' e1 e2 e3 e4
    have ea : (o ++ ch1 s t s' t') ++ ch2 s s' ++ ch3 s t s' t' = o ++ chg s t s' t' := by
      unfold chg; simp only [List.append_assoc]
    rw [ea] at e1 e4
    exact hq _ _ _ _ ⟨e1, e2, e3, e4⟩
  unfold wp_Writer_changeMarks
  refine ⟨fun y => y = bI (s != s'), ?_, bI_i m1.1 (fun y => y = bI (s != s')) rfl⟩
  rintro _ rfl
  refine ⟨fun y => y = bI t, ?_, bI_i m1.2.1 (fun y => y = bI t) rfl⟩
  rintro _ rfl
  refine ⟨fun y => y = bI t', ?_, bI_i m2.2.1 (fun y => y = bI t') rfl⟩
  rintro _ rfl
  refine ⟨fun wb' len' => len' = ((o ++ ch1 s t s' t').length : Nat) ∧ WrL (o ++ ch1 s t s' t') wb', ?_, ?_⟩
  · rintro wb1 _ ⟨rfl, h1⟩
    have l1 : (o ++ ch1 s t s' t').length ≤ o.length + 4 := by rw [List.length_append]; omega
    refine ⟨fun wb' len' sb' => len' = ((o ++ ch1 s t s' t' ++ ch2 s s').length : Nat) ∧ WrL (o ++ ch1 s t s' t' ++ ch2 s s') wb' ∧ sb' = ((cs + csS s s' : Nat) : Int), ?_, ?_⟩
    · rintro wb2 _ _ ⟨rfl, h2, rfl⟩
      have l2 : (o ++ ch1 s t s' t' ++ ch2 s s').length ≤ o.length + 8 := by rw [List.length_append]; omega
      have no : (t' && (s != s' || !t)) = false → Q wb2 ((o ++ ch1 s t s' t' ++ ch2 s s').length : Nat) ((cs + csS s s' : Nat) : Int) (ct : Nat) := by
        intro e
        have e3 : ch3 s t s' t' = [] := by unfold ch3; rw [e]; rfl
        have e4 : csT s t s' t' = 0 := by unfold csT; rw [e]; rfl
        refine hfin _ _ _ _ ?_ rfl ?_ ?_
        · rw [e3, List.append_nil]
        · rw [e4]; rfl
        · rw [e3, List.append_nil]; exact h2
      have yes : (t' && (s != s' || !t)) = true → wp_Writer_put wb2 ((o ++ ch1 s t s' t' ++ ch2 s s').length : Nat) 15 (fun wb9 len9 => rng ((ct : Int) + 1) ∧ Q wb9 len9 ((cs + csS s s' : Nat) : Int) ((ct : Int) + 1)) := by
        intro e
        have e3 : ch3 s t s' t' = sBy 15 := by unfold ch3; rw [e]; rfl
        have e4 : csT s t s' t' = 1 := by unfold csT; rw [e]; rfl
        refine b_put (by omega) h2 (by rw [show (sBy 15).length = 3 from rfl]; omega) fun wb3 h3 => ⟨⟨by omega, by omega⟩, hfin _ _ _ _ ?_ rfl ?_ ?_⟩
        · rw [e3]
        · rw [e4]; rfl
        · rw [e3]; exact h3
      refine ⟨fun g => no (by rw [bI_0 g]; rfl), fun g => ⟨(t' && (s != s' || !t)) = true, yes, fun g2 => by rw [bI_1 g, bI_1 g2]; rfl, fun g2 => ⟨fun g3 => no (by rw [bI_0 g2, bI_1 g3]; simp), fun g3 => by rw [bI_1 g, bI_0 g3]; simp⟩⟩⟩
    · refine ⟨fun g => ?_, fun g => ?_⟩
      · have g := bI_0 g
        have e2 : ch2 s s' = [] := by unfold ch2; rw [g]; rfl
        have e3 : csS s s' = 0 := by cases s <;> cases s' <;> first | rfl | cases g
        show _ ∧ _ ∧ _
        rw [e2, List.append_nil, e3]
        exact ⟨rfl, h1, rfl⟩
      · have g := bI_1 g
        refine ⟨fun y => y = bI s', ?_, bI_i m2.2.2 (fun y => y = bI s') rfl⟩
        rintro _ rfl
        unfold wp_Writer_putStrong
        cases hs' : s'
        · have e2 : ch2 s s' = sBy 14 := by unfold ch2; rw [g, hs']; rfl
          have e3 : csS s s' = 0 := by unfold csS; rw [hs']; rfl
          rw [hs'] at e2 e3 h1 l1
          refine jn1_i ⟨fun _ => b_put (by omega) h1 (by rw [show (sBy 14).length = 4 from rfl]; omega) fun wb3 h3 => jn1_i ⟨fun _ => ⟨⟨by omega, by omega⟩, ?_⟩, fun k => absurd rfl k⟩, fun k => absurd rfl k⟩
          show _ ∧ _ ∧ _
          rw [e2, e3]
          exact ⟨rfl, h3, rfl⟩
        · have e2 : ch2 s s' = sBy 13 := by unfold ch2; rw [g, hs']; rfl
          have e3 : csS s s' = 1 := by unfold csS; rw [hs'] at g ⊢; cases s <;> first | rfl | cases g
          rw [hs'] at e2 e3 h1 l1
          refine jn1_i ⟨fun k => absurd k (by decide), fun _ => b_put (by omega) h1 (by rw [show (sBy 13).length = 3 from rfl]; omega) fun wb3 h3 => jn1_i ⟨fun k => absurd k (by decide), fun _ => ⟨⟨by omega, by omega⟩, ?_⟩⟩⟩
          show _ ∧ _ ∧ _
          rw [e2, e3]
          exact ⟨rfl, h3, rfl⟩
  · have no : (t && (s != s' || !t')) = false → (fun (wb' : Nat → Int) (len' : Int) => len' = ((o ++ ch1 s t s' t').length : Nat) ∧ WrL (o ++ ch1 s t s' t') wb') wb (o.length : Nat) := by
      intro e
      have e1 : ch1 s t s' t' = [] := by unfold ch1; rw [e]; rfl
      show _ ∧ _
      rw [e1, List.append_nil]
      exact ⟨rfl, h4⟩
    have yes : (t && (s != s' || !t')) = true → wp_Writer_put wb (o.length : Nat) 12 (fun wb9 len9 => len9 = ((o ++ ch1 s t s' t').length : Nat) ∧ WrL (o ++ ch1 s t s' t') wb9) := by
      intro e
      have e1 : ch1 s t s' t' = sBy 12 := by unfold ch1; rw [e]; rfl
      rw [e1]
      exact b_put (by omega) h4 (by rw [show (sBy 12).length = 4 from rfl]; omega) fun wb3 h3 => ⟨rfl, h3⟩
    refine ⟨fun g => no (by rw [bI_0 g]; rfl), fun g => ⟨(t && (s != s' || !t')) = true, yes, fun g2 => by rw [bI_1 g, bI_1 g2]; rfl, fun g2 => ⟨fun g3 => no (by rw [bI_0 g2, bI_1 g3]; simp), fun g3 => by rw [bI_1 g, bI_0 g3]; simp⟩⟩⟩
def esc (c : Int) : List Int := if c = 34 then sBy 19 else if c = 38 then sBy 18 else if c = 60 then sBy 16 else if c = 62 then sBy 17 else [c]
theorem esc_len (c : Int) : (esc c).length ≤ 6 := by
  unfold esc
  (repeat' split) <;> first | decide | (show 1 ≤ 6; omega)
def stE (c : Int) (st : WSt) : WSt := (st.1 ++ esc c, st.2)
theorem b_escape {st : WSt} {wb : Nat → Int} {c : Int} {Q : (Nat → Int) → Int → Prop} (h : WrL st.1 wb) (hl : st.1.length + 6 ≤ 5760) (hq : ∀ wb', WrL (stE c st).1 wb' → Q wb' ((stE c st).1.length : Nat)) : wp_Writer_putEscaped wb (st.1.length : Nat) c Q := by
  unfold wp_Writer_putEscaped
  unfold stE at hq
  dsimp only at hq
  unfold esc at hq
  refine ⟨fun g => ?_, fun g => ⟨fun g2 => ?_, fun g2 => ⟨fun g3 => ?_, fun g3 => ⟨fun g4 => ?_, fun g4 => ?_⟩⟩⟩⟩
  · rw [if_pos g] at hq
    exact b_put (by omega) h (by rw [show (sBy 19).length = 6 from rfl]; omega) hq
  · rw [if_neg g, if_pos g2] at hq
    exact b_put (by omega) h (by rw [show (sBy 18).length = 5 from rfl]; omega) hq
  · rw [if_neg g, if_neg g2, if_pos g3] at hq
    exact b_put (by omega) h (by rw [show (sBy 16).length = 4 from rfl]; omega) hq
  · rw [if_neg g, if_neg g2, if_neg g3, if_pos g4] at hq
    exact b_put (by omega) h (by rw [show (sBy 17).length = 4 from rfl]; omega) hq
  · rw [if_neg g, if_neg g2, if_neg g3, if_neg g4] at hq
    exact b_putByte h (by omega) hq
