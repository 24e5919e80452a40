/-! B33: the class writes -/
def FN (b : Nat → Int) (N w : Nat) : Nat := sgn b N (wBg b N w)
def TN (b : Nat → Int) (N w : Nat) : Nat := sgn b N (wEn b N w)
theorem FTo_N {b : Nat → Int} {N : Nat} (hN : N ≤ 600) : FTo (Wn b N) (FN b N) (TN b N) := by
  refine ⟨by unfold Wn; omega, fun w hw => ?_, fun v w h hw => ?_⟩
  · have h1 := wd_lt hw
    have h2 := sgn_lt (wBg_sec hw) h1.1
    have h3 := sgn_le b N (wEn b N w)
    unfold FN TN; omega
  · have h1 := wd_next h hw
    exact sgn_mono (by omega)
theorem WlA_N {b sa wb we : Nat → Int} {N : Nat} (hN : N ≤ 600) (hs : SgA b N sa) (hW : WdA b N wb we) : WlA (Wn b N) (FN b N) (TN b N) sa wb we := by
  intro w hw
  have h1 := wd_lt hw
  have h2 := hW w hw
  rw [h2.1, h2.2, Int.toNat_natCast, Int.toNat_natCast]
  exact ⟨⟨by omega, by omega⟩, ⟨by omega, by omega⟩, hs.at (by omega) (wBg_sec hw), hs.at (by omega) (wEn_sec hw)⟩
/-- behind a sentence stands a blank, or nothing -/
theorem sEn_blk {b : Nat → Int} {N k : Nat} (h : sBg b N k < N) (h2 : sEn b N k < N) : blk (b (sEn b N k)) = true := by
  have hle := sBg_le b N k
  rcases Nat.eq_or_lt_of_le (trm_le b (sBg b N k) (rawE b N (sBg b N k))) with e | e
  · have e : sEn b N k = rawE b N (sBg b N k) := e
    rw [e] at h2 ⊢
    by_cases hc : sk (evt b N) N (sBg b N k) < N ∧ cls b N (sk (evt b N) N (sBg b N k)) = true
    · have h3 : rawE b N (sBg b N k) = skc b N (sk (evt b N) N (sBg b N k) + 1) := by unfold rawE; rw [if_pos hc]
      rw [h3] at h2 ⊢
      have h4 := hc.2
      unfold cls at h4
      rw [Bool.and_eq_true, Bool.and_eq_true, Bool.or_eq_true] at h4
      rcases h4.1.2 with g | g
      · have := of_decide_eq_true g; omega
      · exact g
    · have h3 : rawE b N (sBg b N k) = sk (evt b N) N (sBg b N k) := by unfold rawE; rw [if_neg hc]
      rw [h3] at h2 ⊢
      have h4 := sk_not (p := evt b N) h2
      have hcl : cls b N (sk (evt b N) N (sBg b N k)) = false := by
        cases hh : cls b N (sk (evt b N) N (sBg b N k))
        · rfl
        · exact absurd ⟨h2, hh⟩ hc
      have h5 : evt b N (sk (evt b N) N (sBg b N k)) = false := h4
      unfold evt at h5
      rw [show sk (fun j => !(cls b N j || gap b N j)) N (sBg b N k) = sk (evt b N) N (sBg b N k) from rfl, hcl] at h5
      have h6 : gap b N (sk (evt b N) N (sBg b N k)) = true := by simpa using h5
      unfold gap at h6
      have h7 := of_decide_eq_true (Bool.and_eq_true_iff.mp h6).1
      exact decide_eq_true (by omega)
  · exact trm_bk b (sBg b N k) (rawE b N (sBg b N k)) (sEn b N k) (Nat.le_refl _) e
/-- a sentence has its words whole -/
theorem wEn_sEn {b : Nat → Int} {N w : Nat} (hw : w < Wn b N) (h : soN b N w < Sn b N) : wEn b N w ≤ sEn b N (soN b N w) := by
  have h1 := so_in hw h
  rcases Nat.lt_or_ge (sEn b N (soN b N w)) (wEn b N w) with e | e
  · exfalso
    have h2 := wd_ltr hw (sEn b N (soN b N w)) (by omega) e
    have h3 := ltr_nb h2
    have h4 := sEn_blk (Sn_lt h) (ltr_lt h2)
    rw [h3] at h4; cases h4
  · exact e
def addS (a : Nat) (st : WSt) : WSt := (st.1 ++ sBy a, st.2)
theorem b_addS {st : WSt} {wb : Nat → Int} {len sb tb : Int} {a : Nat} {Q : (Nat → Int) → Int → Prop} (ha : a < 37) (h : WrC st wb len sb tb) (hl : st.1.length + (sBy a).length ≤ 5760) (hq : ∀ wb' len', WrC (addS a st) wb' len' sb tb → Q wb' len') : wp_Writer_put wb len a Q := by
  rw [h.1]
  exact b_put ha h.2.2.2 hl fun wb' hw => hq _ _ ⟨rfl, h.2.1, h.2.2.1, hw⟩
noncomputable def mS (b : Nat → Int) (N I : Nat) (tc : Nat → Nat) (R : Nat → Nat → Bool) (sel : Nat → Bool) (f l : Int) : Nat → Bool := if f = -1 then fun _ => false else mrk b N I tc R sel f.toNat l.toNat
theorem mS_n {b : Nat → Int} {N I : Nat} {tc : Nat → Nat} {R : Nat → Nat → Bool} {sel : Nat → Bool} {p q : Nat} : mS b N I tc R sel p q = mrk b N I tc R sel p q := by
  unfold mS
  rw [if_neg (by omega), Int.toNat_natCast, Int.toNat_natCast]
noncomputable def qst (b : Nat → Int) (N I : Nat) (tc : Nat → Nat) (R : Nat → Nat → Bool) (sf : Nat → Bool) (p q : Nat) : WSt :=
  let st2 := pas (mrk b N I tc R (stg sf) p q) (mrk b N I tc R sf p q) b (wBg b N p) (wEn b N q - wBg b N p) (if 0 < p then addS 11 ([], 0, 0) else ([], 0, 0))
  if q + 1 < Wn b N then addS 11 st2 else st2
def QuS (b : Nat → Int) (N I : Nat) (wt tc : Nat → Nat) (R : Nat → Nat → Bool) (sf : Nat → Bool) (n : Nat) (st : WSt) : Prop := (WRes (Wn b N) I wt tc R (FN b N) (TN b N) 0 (Wn b N) n (-1) (-1) 0 ∧ st = ([], 0, 0)) ∨ ∃ (p q : Nat) (w : Int), WRes (Wn b N) I wt tc R (FN b N) (TN b N) 0 (Wn b N) n p q w ∧ st = qst b N I tc R sf p q
theorem QuS.uniq {b : Nat → Int} {N I : Nat} {wt tc : Nat → Nat} {R : Nat → Nat → Bool} {sf : Nat → Bool} {n : Nat} {st st' : WSt} (h : QuS b N I wt tc R sf n st) (g : QuS b N I wt tc R sf n st') : st = st' := by
  rcases h with ⟨h1, h2⟩ | ⟨p, q, w, h1, h2⟩ <;> rcases g with ⟨g1, g2⟩ | ⟨p', q', w', g1, g2⟩
  · rw [h2, g2]
  · have := h1.uniq g1; omega
  · have := h1.uniq g1; omega
  · have := h1.uniq g1
    rw [h2, g2, show p = p' by omega, show q = q' by omega]
theorem b_fill42 {f : Nat → Int} {z : Int} {Q : (Nat → Int) → Prop} (hq : ∀ f', (∀ i, i < 600 → f' i = z) → Q f') : wp_JA_fill_42 f z Q := by
  unfold wp_JA_fill_42
  refine ⟨fun f x => ∃ i : Nat, x = i ∧ i ≤ 600 ∧ ∀ j, j < i → f j = z, fun _ x => 600 - x.toNat, ⟨0, rfl, by omega, fun j h => by omega⟩, ?_⟩
  rintro f x ⟨i, rfl, hi, h⟩
  refine ⟨fun h2 => hq _ fun j hj => h j (by omega), fun h2 => ⟨⟨by omega, by omega⟩, ⟨by omega, by omega⟩, ⟨i + 1, by omega, by omega, fun j hj => ?_⟩, by (try dsimp only); omega⟩⟩
  by_cases e : j = i
  · rw [uI_e (by omega)]
  · rw [uI_n (by omega) (by omega)]; exact h j (by omega)
theorem WrC_0 (wb : Nat → Int) : WrC ([], 0, 0) wb 0 0 0 := ⟨rfl, rfl, rfl, fun j hj => by cases hj⟩
theorem b_begin {la : Nat → Int} {z1 z2 z3 : Int} {Q : (Nat → Int) → Int → Int → Int → Prop} (hq : ∀ la', (∀ i, i < 600 → la' i = 0) → Q la' 0 0 0) : wp_Writer_begin la z1 z2 z3 Q := by
  unfold wp_Writer_begin
  exact b_fill42 fun la' h => hq la' h
theorem b_writeWidest {b sa wb we ws sb9 se ss sf9 sw qw qt bg en to la wr : Nat → Int} {la9 : Nat → Int} {al : Nat → Int} {lo hi : Nat → Int64} {N I : Nat} {wt tc : Nat → Nat} {R : Nat → Nat → Bool} {sf : Nat → Bool} {qf : Int} {n : Nat} {z1 z2 z3 z4 z5 z6 z7 : Int} {Q : (Nat → Int) → (Nat → Int) → Int → Int → Int → Int → Int → Int → Int → Prop} (hP : PgA b N la9 sa wb we ws al sb9 se ss sf9 sw lo hi) (hT : TcA (Wn b N) I tc R qt) (hw : QwA I wt qw) (hbg : ∀ v, v < Wn b N → bg v = bs (fun k => R k v) I) (hen : ∀ v, v < Wn b N → en v = bs (fun k => enR tc R k v) I) (hsf : ∀ k, k < I → ib qf k = sf k)
    (hq : ∀ (la' wr' : Nat → Int) (f l w wh len sb tb : Int) (st : WSt), QuS b N I wt tc R sf n st → WrC st wr' len sb tb → Q la' wr' f l w wh len sb tb) : wp_Writer_writeWidest b sa wb we ws qw qt bg en la wr N (Wn b N) qf I z1 z2 z3 z4 z5 z6 z7 n Q := by
  obtain ⟨hB, hLt, hSg, hW, hAl, hSn, hPl⟩ := hP
  have hN := hB.1
  have hF := FTo_N (b := b) hN
  have hL := WlA_N hN hSg hW
  have h100 := hF.1
  unfold wp_Writer_writeWidest
  refine b_begin fun la0 hz => ⟨⟨by omega, by omega⟩, b_widest (lo := 0) (h1 := Wn b N) hF hL hT hw hbg hen (Nat.le_refl _) (by decide) fun f l w hr => ⟨fun h1 => ?_, fun h1 => ?_⟩⟩
  · rcases hr with ⟨g1, _⟩ | ⟨p, q, rfl, rfl, rfl, g4, g5⟩
    · exact absurd g1 h1
    · have hpq := g4.2.1
      have hq9 := g4.2.2.1
      have e1 := wd_lt (show q < Wn b N from hq9)
      have e2 := wEn_in (b := b) (N := N) hpq hq9
      have sg1 := mrk_sg (f := p) (stg sf) hT hq9
      have sg2 := mrk_sg (f := p) sf hT hq9
      have hLb : Lb b N (wEn b N q) ≤ 5300 := Nat.le_trans (Lb_mono e1.2) (Lb_le hN)
      refine b_layMarks (lo := 0) (hi := N) (f := p) (l := q) hB hW hPl.1 hT hbg hsf hpq hq9 (Nat.zero_le _) e1.2 hN (fun i _ hi => hz i (by omega)) fun la' hla => ?_
      have hst1 : ∀ wr1 len1, WrC (if 0 < p then addS 11 ([], 0, 0) else ([], 0, 0)) wr1 len1 0 0 → (0 ≤ (p : Int) ∧ (p : Int) < 100) ∧ (0 ≤ (q : Int) ∧ (q : Int) < 100) ∧ wp_Writer_putPassage b la' wr1 N len1 0 0 (wb (Int.toNat p)) (we (Int.toNat q)) (fun wr2 len2 sb2 tb2 => rng ((Wn b N : Int) - 1) ∧ (((Wn b N : Int) - 1 ≤ q → Q la' wr2 p q (ww (Wn b N) I wt tc R p q : Nat) 0 len2 sb2 tb2) ∧ (¬ (Wn b N : Int) - 1 ≤ q → wp_Writer_put wr2 len2 11 (fun wr3 len3 => Q la' wr3 p q (ww (Wn b N) I wt tc R p q : Nat) 0 len3 sb2 tb2)))) := by
        intro wr1 len1 h2
        have l1 : (if 0 < p then addS 11 (([], 0, 0) : WSt) else ([], 0, 0)).1.length ≤ 2 ∧ (if 0 < p then addS 11 (([], 0, 0) : WSt) else ([], 0, 0)).2.1 ≤ 0 ∧ (if 0 < p then addS 11 (([], 0, 0) : WSt) else ([], 0, 0)).2.2 ≤ 0 := by
          split <;> decide
        have fin : ∀ st3, st3 = qst b N I tc R sf p q → ∀ wr3 len3 sb3 tb3, WrC st3 wr3 len3 sb3 tb3 → Q la' wr3 p q (ww (Wn b N) I wt tc R p q : Nat) 0 len3 sb3 tb3 := fun st3 e wr3 len3 sb3 tb3 h9 => hq _ _ _ _ _ _ _ _ _ st3 (.inr ⟨p, q, _, .inr ⟨p, q, rfl, rfl, rfl, g4, g5⟩, e⟩) h9
        rw [Int.toNat_natCast, Int.toNat_natCast, (hW p (by omega)).1, (hW q hq9).2]
        refine ⟨⟨by omega, by omega⟩, ⟨by omega, by omega⟩, b_passage hN sg1 sg2 e1.2 (by omega) (fun i hi1 hi2 => hla.1 i (Nat.zero_le _) (by omega)) h2 (by omega) (by omega) fun wr2 len2 sb2 tb2 h3 => ⟨⟨by omega, by omega⟩, fun h4 => fin _ ?_ _ _ _ _ h3, fun h4 => b_addS (by omega) h3 ?_ fun wr3 len3 h5 => fin _ ?_ _ _ _ _ h5⟩⟩
        · unfold qst; dsimp only; rw [if_neg (show ¬ q + 1 < Wn b N by omega)]
        · have := (pas_len (B := wBg b N p) (n := wEn b N q - wBg b N p) sg1 sg2 (if 0 < p then addS 11 ([], 0, 0) else ([], 0, 0))).1
          rw [show wBg b N p + (wEn b N q - wBg b N p) = wEn b N q by omega] at this
          rw [show (sBy 11).length = 2 from rfl]
          omega
        · unfold qst; dsimp only; rw [if_pos (show q + 1 < Wn b N by omega)]
      refine jn2_i ⟨fun h2 => hst1 _ _ ?_, fun h2 => b_addS (by omega) (WrC_0 wr) (by decide) fun wr1 len1 h3 => hst1 _ _ ?_⟩
      · rw [if_neg (by omega)]; exact WrC_0 wr
      · rw [if_pos (by omega)]; exact h3
  · rcases hr with ⟨g1, g2, g3, g4⟩ | ⟨p, q, g1, _⟩
    · exact hq _ _ _ _ _ _ _ _ _ ([], 0, 0) (.inl ⟨.inl ⟨rfl, rfl, rfl, g4⟩, rfl⟩) (WrC_0 wr)
    · omega
