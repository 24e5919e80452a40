/-! B65: what is written is short enough, and bytes -/
def Okm (o : List Int) : Prop := ∀ x ∈ o, 0 ≤ x ∧ x ≤ 255
theorem Okm.app {o p : List Int} (h : Okm o) (g : Okm p) : Okm (o ++ p) := fun x hx => (List.mem_append.mp hx).elim (h x) (g x)
theorem Okm.nil : Okm [] := fun x hx => by cases hx
theorem Okm.gd {o : List Int} (h : Okm o) : ∀ j, j < o.length → 0 ≤ o.getD j 0 ∧ o.getD j 0 ≤ 255 := fun j hj => by
  rw [List.getD_eq_getElem?_getD, List.getElem?_eq_getElem hj]
  exact h _ (List.getElem_mem hj)
theorem Okm.all {o : List Int} (h : o.all (fun x => decide (0 ≤ x ∧ x ≤ 255)) = true) : Okm o := fun x hx => of_decide_eq_true (List.all_eq_true.mp h x hx)
theorem chg_ok (s t s' t' : Bool) : Okm (chg s t s' t') := Okm.all (by cases s <;> cases t <;> cases s' <;> cases t' <;> decide +kernel)
theorem esc_ok {c : Int} (h : 0 ≤ c ∧ c ≤ 255) : Okm (esc c) := by
  unfold esc
  split
  · exact Okm.all (by decide +kernel)
  · split
    · exact Okm.all (by decide +kernel)
    · split
      · exact Okm.all (by decide +kernel)
      · split
        · exact Okm.all (by decide +kernel)
        · intro x hx
          rw [List.mem_singleton.mp hx]; exact h
theorem psg_ok {S T : Nat → Bool} {b : Nat → Int} {B : Nat} {st : WSt} (h : Okm st.1) : ∀ n, (∀ i, B ≤ i → i < B + n → 0 ≤ b i ∧ b i ≤ 255) → Okm (psg S T b B n st).1
  | 0, _ => h
  | n + 1, hb => by
    have ih := psg_ok (S := S) (T := T) h n (fun i h1 h2 => hb i h1 (by omega))
    show Okm (((psg S T b B n st).1 ++ chg (pv S B n) (pv T B n) (S (B + n)) (T (B + n))) ++ esc (b (B + n)))
    exact (ih.app (chg_ok _ _ _ _)).app (esc_ok (hb (B + n) (by omega) (by omega)))
theorem pas_ok {S T : Nat → Bool} {b : Nat → Int} {B n : Nat} {st : WSt} (h : Okm st.1) (hb : ∀ i, B ≤ i → i < B + n → 0 ≤ b i ∧ b i ≤ 255) : Okm (pas S T b B n st).1 := by
  show Okm ((psg S T b B n st).1 ++ chg (pv S B n) (pv T B n) false false)
  exact (psg_ok h n hb).app (chg_ok _ _ _ _)
theorem jnt_ok (ah : Int) (op : Bool) (s : Nat) (oL : Bool) : Okm (sBy (jnt ah op s oL)) := by
  unfold jnt
  (repeat' split) <;> exact Okm.all (by decide +kernel)
theorem s11_ok : Okm (sBy 11) := Okm.all (by decide +kernel)
theorem q_out {b : Nat → Int} {N I : Nat} {wt tc : Nat → Nat} {R : Nat → Nat → Bool} {sf : Nat → Bool} {n : Nat} {st : WSt} {qt : Nat → Int} (hB : Byt b N) (hT : TcA (Wn b N) I tc R qt) (h : QuS b N I wt tc R sf n st) : st.1.length ≤ 5760 ∧ ∀ j, j < st.1.length → 0 ≤ st.1.getD j 0 ∧ st.1.getD j 0 ≤ 255 := by
  have key : st.1.length ≤ 5760 ∧ Okm st.1 := by
    have hN := hB.1
    rcases h with ⟨_, rfl⟩ | ⟨p, q, w, hr, rfl⟩
    · exact ⟨Nat.zero_le _, Okm.nil⟩
    · rcases hr with ⟨g1, _⟩ | ⟨p', q', e1, e2, _, g4, _⟩
      · omega
      · have ep : p = p' := by omega
        have eq : q = q' := by omega
        subst ep eq
        have hpq := g4.2.1
        have hq9 := g4.2.2.1
        have d1 := wd_lt (show q < Wn b N from hq9)
        have d2 := wEn_in (b := b) (N := N) hpq hq9
        have sg1 := mrk_sg (f := p) (stg sf) hT hq9
        have sg2 := mrk_sg (f := p) sf hT hq9
        have hLb : Lb b N (wEn b N q) ≤ 5300 := Nat.le_trans (Lb_mono d1.2) (Lb_le hN)
        have l1 : (if 0 < p then addS 11 (([], 0, 0) : WSt) else ([], 0, 0)).1.length ≤ 2 ∧ Okm (if 0 < p then addS 11 (([], 0, 0) : WSt) else ([], 0, 0)).1 := by
          split
          · exact ⟨by decide, Okm.nil.app s11_ok⟩
          · exact ⟨by decide, Okm.nil⟩
        have pl := (pas_len (B := wBg b N p) (n := wEn b N q - wBg b N p) sg1 sg2 (if 0 < p then addS 11 ([], 0, 0) else ([], 0, 0))).1
        rw [show wBg b N p + (wEn b N q - wBg b N p) = wEn b N q by omega] at pl
        have po := pas_ok (S := mrk b N I tc R (stg sf) p q) (T := mrk b N I tc R sf p q) (b := b) (B := wBg b N p) (n := wEn b N q - wBg b N p) l1.2 (fun i h1 h2 => hB.2 i (by omega))
        unfold qst
        dsimp only
        split
        · refine ⟨?_, po.app s11_ok⟩
          show List.length (_ ++ sBy 11) ≤ _
          rw [List.length_append, show (sBy 11).length = 2 from rfl]
          omega
        · exact ⟨by omega, po⟩
  exact ⟨key.1, key.2.gd⟩
theorem wr_out {b : Nat → Int} {N I : Nat} {wt tc : Nat → Nat} {R : Nat → Nat → Bool} {sf : Nat → Bool} {n ch : Nat} {qt : Nat → Int} (hB : Byt b N) (hT : TcA (Wn b N) I tc R qt) : ∀ s, s ≤ Sn b N → ∀ (st : WSt) (ah : Int) (op : Bool), WrR b N I wt tc R sf n ch s st ah op → st.1.length ≤ 26 * s + (if s = 0 then 0 else Lb b N (sEn b N (s - 1))) ∧ Okm st.1
  | 0, _, st, ah, op, h => by
    rw [h.1]
    exact ⟨Nat.zero_le _, Okm.nil⟩
  | s + 1, hs, st, ah, op, h => by
    obtain ⟨st0, ah0, op0, h1, h2⟩ := h
    have ih := wr_out hB hT s (by omega) st0 ah0 op0 h1
    have hsS : s < Sn b N := by omega
    have hse := sEn_b (Sn_lt hsS)
    have lbP : (if s = 0 then 0 else Lb b N (sEn b N (s - 1))) ≤ Lb b N (sBg b N s) := by
      split
      · exact Nat.zero_le _
      · exact Lb_mono (sBg_lt (show s - 1 < s by omega) (Sn_lt hsS))
    have lbB : Lb b N (sBg b N s) ≤ Lb b N (sEn b N s) := Lb_mono (by omega)
    rw [if_neg (show ¬ s + 1 = 0 by omega), Nat.add_sub_cancel]
    rcases h2 with ⟨_, rfl, _, _⟩ | ⟨_, f, l, wh, hct, ⟨_, _, rfl, _, _⟩ | ⟨hnn, rfl, _, _⟩⟩
    · exact ⟨by omega, ih.2⟩
    · exact ⟨by omega, ih.2⟩
    · have hrg := ct_rng hsS hct hnn
      have wE_in : wBe b N s f ≤ wEe b N s l ∧ sBg b N s ≤ wBe b N s f ∧ wEe b N s l ≤ sEn b N s := by
        rcases hrg with ⟨_, _, g3, g4, _⟩ | ⟨p, q, g1, g2, g3, g4, g5, g6, g7, g8, g9, g10⟩
        · rw [g3, g4]; omega
        · have := wEn_in (b := b) (N := N) g4 g6
          omega
      have sgs : SgM b N (mS b N I tc R (stg sf) f l) ∧ SgM b N (mS b N I tc R sf f l) := by
        rcases hrg with ⟨g1, g2, _⟩ | ⟨p, q, g1, g2, g3, g4, g5, g6, _⟩
        · unfold mS; rw [if_pos g1, if_pos g1]; exact ⟨fun _ _ _ => rfl, fun _ _ _ => rfl⟩
        · rw [g1, g2, mS_n, mS_n]; exact ⟨mrk_sg _ hT g6, mrk_sg _ hT g6⟩
      have jb := jnt_b ah0 op0 s (decide (sfI b N s < f))
      have la4 : (addS (jnt ah0 op0 s (decide (sfI b N s < f))) st0).1.length ≤ st0.1.length + 4 := by
        show List.length (_ ++ _) ≤ _
        rw [List.length_append]; omega
      have lm1 := Lb_mono (b := b) (N := N) wE_in.2.1
      have lm2 := Lb_mono (b := b) (N := N) wE_in.2.2
      have pl := pas_len (B := wBe b N s f) (n := wEe b N s l - wBe b N s f) sgs.1 sgs.2 (addS (jnt ah0 op0 s (decide (sfI b N s < f))) st0)
      rw [show wBe b N s f + (wEe b N s l - wBe b N s f) = wEe b N s l by omega] at pl
      refine ⟨?_, ?_⟩
      · show (pas _ _ b (wBe b N s f) (wEe b N s l - wBe b N s f) _).1.length ≤ _
        have := pl.1
        omega
      · exact pas_ok (ih.2.app (jnt_ok _ _ _ _)) (fun i h1 h2 => hB.2 i (by omega))
theorem w_out {b : Nat → Int} {N I : Nat} {wt tc : Nat → Nat} {R : Nat → Nat → Bool} {sf : Nat → Bool} {n ch : Nat} {st : WSt} {ah : Int} {op : Bool} {qt : Nat → Int} (hB : Byt b N) (hT : TcA (Wn b N) I tc R qt) (h : WrR b N I wt tc R sf n ch (Sn b N) st ah op) : (if op then addS 11 st else st).1.length ≤ 5760 ∧ ∀ j, j < (if op then addS 11 st else st).1.length → 0 ≤ (if op then addS 11 st else st).1.getD j 0 ∧ (if op then addS 11 st else st).1.getD j 0 ≤ 255 := by
  have k := wr_out hB hT (Sn b N) (Nat.le_refl _) st ah op h
  have h14 := Sn_le b N
  have hLbN := Lb_le (b := b) hB.1
  have lbs : (if Sn b N = 0 then 0 else Lb b N (sEn b N (Sn b N - 1))) ≤ 5300 := by
    split
    · omega
    · have := (sEn_b (b := b) (N := N) (k := Sn b N - 1) (Sn_lt (by omega))).2.1
      exact Nat.le_trans (Lb_mono this) hLbN
  have key : (if op then addS 11 st else st).1.length ≤ 5760 ∧ Okm (if op then addS 11 st else st).1 := by
    split
    · refine ⟨?_, k.2.app s11_ok⟩
      show List.length (_ ++ sBy 11) ≤ _
      rw [List.length_append, show (sBy 11).length = 2 from rfl]
      omega
    · exact ⟨by omega, k.2⟩
  exact ⟨key.1, key.2.gd⟩
