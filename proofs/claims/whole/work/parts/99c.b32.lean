/-! B32: passages -/
def pv (S : Nat → Bool) (B : Nat) : Nat → Bool
  | 0 => false
  | m + 1 => S (B + m)
def psg (S T : Nat → Bool) (b : Nat → Int) (B : Nat) : Nat → WSt → WSt
  | 0, st => st
  | n + 1, st => stE (b (B + n)) (stC (pv S B n) (pv T B n) (S (B + n)) (T (B + n)) (psg S T b B n st))
def pas (S T : Nat → Bool) (b : Nat → Int) (B n : Nat) (st : WSt) : WSt := stC (pv S B n) (pv T B n) false false (psg S T b B n st)
theorem stC_same (s t : Bool) (st : WSt) : stC s t s t st = st := by
  have h := chg_same s t
  unfold stC
  rw [h.1, h.2.1, h.2.2, List.append_nil]
  rfl
theorem mkk_inj : ∀ s t s' t' : Bool, ((mkk s t : Nat) : Int) = ((mkk s' t' : Nat) : Int) → s = s' ∧ t = t' := by decide +kernel
theorem mkk_0 : ((mkk false false : Nat) : Int) = 0 := by decide
def SgM (b : Nat → Int) (N : Nat) (S : Nat → Bool) : Prop := ∀ i, (∀ w, w < Wn b N → wBg b N w ≠ i + 1) → (∀ w, w < Wn b N → wEn b N w ≠ i + 1) → S (i + 1) = S i
theorem mrk_sg {b : Nat → Int} {N I f l : Nat} {tc : Nat → Nat} {R : Nat → Nat → Bool} {qt : Nat → Int} (sel : Nat → Bool) (hT : TcA (Wn b N) I tc R qt) (hl : l < Wn b N) : SgM b N (mrk b N I tc R sel f l) := by
  intro i h1 h2
  have hb : bas b N I tc (Rf R f) sel l (i + 1) ↔ bas b N I tc (Rf R f) sel l i := by
    constructor
    · rintro ⟨k, v, a1, a2, a3, a4, a5, a6⟩
      have := (hT.2.1 k a1).2
      have e1 := h1 v (by omega)
      exact ⟨k, v, a1, a2, a3, a4, by omega, by omega⟩
    · rintro ⟨k, v, a1, a2, a3, a4, a5, a6⟩
      have := (hT.2.1 k a1).2
      have e1 := h2 (v + tc k - 1) (by omega)
      exact ⟨k, v, a1, a2, a3, a4, by omega, by omega⟩
  refine pB_congr ⟨?_, ?_⟩
  · rintro (g | ⟨u, u1, u2, u3, u4, u5, u6, u7⟩)
    · exact .inl (hb.mp g)
    · have := h2 u (by omega)
      exact .inr ⟨u, u1, u2, u3, u4, by omega, by omega, u7⟩
  · rintro (g | ⟨u, u1, u2, u3, u4, u5, u6, u7⟩)
    · exact .inl (hb.mpr g)
    · have := h1 (u + 1) (by omega)
      exact .inr ⟨u, u1, u2, u3, u4, by omega, by omega, u7⟩
theorem cn_gt {p q : Nat → Bool} {n w : Nat} (h : ∀ i, i < n → p i = true → q i = true) (hw : w < n) (hp : p w = false) (hq : q w = true) : cn p n + 1 ≤ cn q n := by
  have h1 := cn_upd (p := p) (q := fun i => p i || decide (i = w)) hp (by simp) hw (fun i _ hi => by rw [decide_eq_false hi, Bool.or_false])
  rw [← h1]
  refine cn_imp fun i hi hpi => ?_
  rcases Bool.or_eq_true_iff.mp hpi with g | g
  · exact h i hi g
  · rw [of_decide_eq_true g]; exact hq
def Ab (b : Nat → Int) (N i : Nat) : Nat := cn (fun w => decide (wBg b N w < i)) (Wn b N)
def Eb (b : Nat → Int) (N i : Nat) : Nat := cn (fun w => decide (wEn b N w < i)) (Wn b N)
def Lb (b : Nat → Int) (N i : Nat) : Nat := 6 * i + 6 * Ab b N i + 11 * Eb b N i
theorem Ab_s (b : Nat → Int) (N i : Nat) : Ab b N i ≤ Ab b N (i + 1) ∧ ((∃ w, w < Wn b N ∧ wBg b N w = i) → Ab b N i + 1 ≤ Ab b N (i + 1)) := by
  refine ⟨cn_imp fun w _ h => decide_eq_true (by have := of_decide_eq_true h; omega), ?_⟩
  rintro ⟨w, hw, e⟩
  exact cn_gt (fun w _ h => decide_eq_true (by have := of_decide_eq_true h; omega)) hw (decide_eq_false (by omega)) (decide_eq_true (by omega))
theorem Eb_s (b : Nat → Int) (N i : Nat) : Eb b N i ≤ Eb b N (i + 1) ∧ ((∃ w, w < Wn b N ∧ wEn b N w = i) → Eb b N i + 1 ≤ Eb b N (i + 1)) := by
  refine ⟨cn_imp fun w _ h => decide_eq_true (by have := of_decide_eq_true h; omega), ?_⟩
  rintro ⟨w, hw, e⟩
  exact cn_gt (fun w _ h => decide_eq_true (by have := of_decide_eq_true h; omega)) hw (decide_eq_false (by omega)) (decide_eq_true (by omega))
theorem Lb_mono {b : Nat → Int} {N i j : Nat} (h : i ≤ j) : Lb b N i ≤ Lb b N j := by
  induction j with
  | zero => rw [Nat.le_zero.mp h]; exact Nat.le_refl _
  | succ j ih =>
    rcases Nat.eq_or_lt_of_le h with e | e
    · rw [e]; exact Nat.le_refl _
    · have h1 := ih (by omega)
      have h2 := (Ab_s b N j).1
      have h3 := (Eb_s b N j).1
      unfold Lb at *; omega
theorem Lb_le {b : Nat → Int} {N : Nat} (hN : N ≤ 600) : Lb b N N ≤ 5300 := by
  have h1 := cn_le (fun w => decide (wBg b N w < N)) (Wn b N)
  have h2 := cn_le (fun w => decide (wEn b N w < N)) (Wn b N)
  have h100 : Wn b N ≤ 100 := by unfold Wn; omega
  unfold Lb Ab Eb; omega
theorem ltr_esc {b : Nat → Int} {N i : Nat} (h : ltr b N i = true) : (esc (b i)).length = 1 := by
  have h1 : b i ≠ 34 ∧ b i ≠ 38 ∧ b i ≠ 60 ∧ b i ≠ 62 := by
    unfold ltr at h
    have h := (Bool.and_eq_true_iff.mp h).2
    rcases Bool.or_eq_true_iff.mp h with h | h
    · rcases Bool.or_eq_true_iff.mp h with h | h
      · have h := of_decide_eq_true h
        unfold smv at h
        split at h <;> omega
      · have := sec_ge h; omega
    · have := sec_ge h
      rw [Nat.add_sub_cancel] at this
      omega
  unfold esc
  rw [if_neg h1.1, if_neg h1.2.1, if_neg h1.2.2.1, if_neg h1.2.2.2]
  rfl
/-- what a step adds -/
theorem stp_len {b : Nat → Int} {N i : Nat} {S T : Nat → Bool} (hS : SgM b N S) (hT : SgM b N T) : (chg (S i) (T i) (S (i + 1)) (T (i + 1))).length + (esc (b (i + 1))).length + Lb b N (i + 1) ≤ Lb b N (i + 1 + 1) := by
  have a1 := Ab_s b N (i + 1)
  have e1 := Eb_s b N (i + 1)
  have c1 := (chg_len (S i) (T i) (S (i + 1)) (T (i + 1))).2.2.2
  have c2 := esc_len (b (i + 1))
  by_cases hb : ∃ w, w < Wn b N ∧ wBg b N w = i + 1
  · obtain ⟨w, hw, ew⟩ := hb
    have h1 := wd_ltr hw (wBg b N w) (Nat.le_refl _) (wd_lt hw).1
    rw [ew] at h1
    have h2 := ltr_esc h1
    have h3 := a1.2 ⟨w, hw, ew⟩
    unfold Lb; omega
  · by_cases he : ∃ w, w < Wn b N ∧ wEn b N w = i + 1
    · have h3 := e1.2 he
      unfold Lb; omega
    · have g1 := hS i (fun w hw e => hb ⟨w, hw, e⟩) (fun w hw e => he ⟨w, hw, e⟩)
      have g2 := hT i (fun w hw e => hb ⟨w, hw, e⟩) (fun w hw e => he ⟨w, hw, e⟩)
      rw [g1, g2, (chg_same (S i) (T i)).1]
      unfold Lb
      show 0 + _ + _ ≤ _
      omega
theorem psg_len {b : Nat → Int} {N B : Nat} {S T : Nat → Bool} (hS : SgM b N S) (hT : SgM b N T) (st : WSt) : ∀ n, (psg S T b B n st).1.length + Lb b N B ≤ st.1.length + 11 + Lb b N (B + n) ∧ (psg S T b B n st).2.1 ≤ st.2.1 + n ∧ (psg S T b B n st).2.2 ≤ st.2.2 + n
  | 0 => by
    show st.1.length + _ ≤ st.1.length + 11 + Lb b N B ∧ st.2.1 ≤ st.2.1 + 0 ∧ st.2.2 ≤ st.2.2 + 0
    omega
  | n + 1 => by
    have ih := psg_len (B := B) hS hT st n
    have hcs : csS (pv S B n) (S (B + n)) ≤ 1 := by unfold csS; split <;> omega
    have hct : csT (pv S B n) (pv T B n) (S (B + n)) (T (B + n)) ≤ 1 := by unfold csT; split <;> omega
    have e1 : (psg S T b B (n + 1) st).1.length = (psg S T b B n st).1.length + (chg (pv S B n) (pv T B n) (S (B + n)) (T (B + n))).length + (esc (b (B + n))).length := by
      show List.length ((_ ++ _) ++ _) = _
      rw [List.length_append, List.length_append]
    refine ⟨?_, ?_, ?_⟩
    · rw [e1]
      cases n with
      | zero =>
        have c1 := (chg_len (pv S B 0) (pv T B 0) (S (B + 0)) (T (B + 0))).2.2.2
        have c2 := esc_len (b (B + 0))
        have a1 := (Ab_s b N B).1
        have a2 := (Eb_s b N B).1
        have e0 : (psg S T b B 0 st).1.length = st.1.length := rfl
        unfold Lb
        rw [e0]
        show _ ≤ st.1.length + 11 + (6 * (B + 1) + 6 * Ab b N (B + 1) + 11 * Eb b N (B + 1))
        omega
      | succ m =>
        have h := stp_len (b := b) (i := B + m) hS hT
        have ih := ih.1
        show (psg S T b B (m + 1) st).1.length + (chg (S (B + m)) (T (B + m)) (S (B + m + 1)) (T (B + m + 1))).length + (esc (b (B + m + 1))).length + Lb b N B ≤ st.1.length + 11 + Lb b N (B + m + 1 + 1)
        rw [show B + (m + 1) = B + m + 1 by omega] at ih
        omega
    · show (psg S T b B n st).2.1 + csS (pv S B n) (S (B + n)) ≤ _
      omega
    · show (psg S T b B n st).2.2 + csT (pv S B n) (pv T B n) (S (B + n)) (T (B + n)) ≤ _
      omega
theorem pas_len {b : Nat → Int} {N B n : Nat} {S T : Nat → Bool} (hS : SgM b N S) (hT : SgM b N T) (st : WSt) : (pas S T b B n st).1.length + Lb b N B ≤ st.1.length + 22 + Lb b N (B + n) ∧ (pas S T b B n st).2.1 ≤ st.2.1 + n + 1 ∧ (pas S T b B n st).2.2 ≤ st.2.2 + n + 1 := by
  have h := psg_len (B := B) hS hT st n
  have c1 := (chg_len (pv S B n) (pv T B n) false false).2.2.2
  have hcs : csS (pv S B n) false ≤ 1 := by unfold csS; split <;> omega
  have hct : csT (pv S B n) (pv T B n) false false ≤ 1 := by unfold csT; split <;> omega
  refine ⟨?_, ?_, ?_⟩
  · show ((psg S T b B n st).1 ++ _).length + _ ≤ _
    rw [List.length_append]; omega
  · show (psg S T b B n st).2.1 + csS (pv S B n) false ≤ _
    omega
  · show (psg S T b B n st).2.2 + csT (pv S B n) (pv T B n) false false ≤ _
    omega
theorem b_passage {b la wb : Nat → Int} {N B E : Nat} {S T : Nat → Bool} {st : WSt} {len sb tb : Int} {Q : (Nat → Int) → Int → Int → Int → Prop} (hN : N ≤ 600) (hS : SgM b N S) (hT : SgM b N T) (hE : E ≤ N) (hBE : B ≤ E) (hla : ∀ i, B ≤ i → i < E → la i = (mkk (S i) (T i) : Nat)) (h : WrC st wb len sb tb) (hl : st.1.length + 40 + (Lb b N E - Lb b N B) ≤ 5760) (hc : st.2.1 ≤ 9000 ∧ st.2.2 ≤ 9000)
    (hq : ∀ wb' len' sb' tb', WrC (pas S T b B (E - B) st) wb' len' sb' tb' → Q wb' len' sb' tb') : wp_Writer_putPassage b la wb N len sb tb B E Q := by
  unfold wp_Writer_putPassage
  refine ⟨fun wb len sb tb x5 x6 => ∃ n : Nat, x6 = ((B + n : Nat) : Int) ∧ B + n ≤ E ∧ x5 = ((mkk (pv S B n) (pv T B n) : Nat) : Int) ∧ WrC (psg S T b B n st) wb len sb tb, fun _ _ _ _ _ x6 => E - x6.toNat, ⟨0, rfl, hBE, mkk_0.symm, h⟩, ?_⟩
  rintro wb len sb tb x5 x6 ⟨n, rfl, hn, rfl, hW⟩
  have pl := psg_len (B := B) hS hT st n
  have lm := Lb_mono (b := b) (N := N) hn
  have lm2 := Lb_mono (b := b) (N := N) hBE
  refine ⟨fun h1 => ?_, fun h1 => ⟨⟨by omega, by omega⟩, ?_⟩⟩
  · have en : n = E - B := by omega
    subst en
    exact b_change (s' := false) (t' := false) hW (by omega) (by omega) hq
  · rw [Int.toNat_natCast, hla (B + n) (by omega) (by omega)]
    refine ⟨fun wb len sb tb x5 => x5 = ((mkk (S (B + n)) (T (B + n)) : Nat) : Int) ∧ WrC (stC (pv S B n) (pv T B n) (S (B + n)) (T (B + n)) (psg S T b B n st)) wb len sb tb, ?_, fun h2 => ?_, fun h2 => ⟨⟨by omega, by omega⟩, b_change hW (by omega) (by omega) fun wb' len' sb' tb' hW' => ⟨⟨by omega, by omega⟩, rfl, hW'⟩⟩⟩
    · rintro wb1 len1 sb1 tb1 _ ⟨rfl, hW1⟩
      have c1 := (chg_len (pv S B n) (pv T B n) (S (B + n)) (T (B + n))).2.2.2
      have e1 : (stC (pv S B n) (pv T B n) (S (B + n)) (T (B + n)) (psg S T b B n st)).1.length = (psg S T b B n st).1.length + (chg (pv S B n) (pv T B n) (S (B + n)) (T (B + n))).length := by
        show List.length (_ ++ _) = _
        rw [List.length_append]
      refine b_at hN ?_
      rw [atv_n (by omega), hW1.1]
      refine b_escape hW1.2.2.2 (by omega) fun wb2 hW2 => ⟨⟨by omega, by omega⟩, ⟨n + 1, by omega, by omega, rfl, rfl, hW1.2.1, hW1.2.2.1, hW2⟩, by (try dsimp only); omega⟩
    · have e := mkk_inj _ _ _ _ h2
      refine ⟨by rw [e.1, e.2], ?_⟩
      rw [← e.1, ← e.2]
      rw [e.1, e.2] at *
      rw [stC_same]
      exact hW
