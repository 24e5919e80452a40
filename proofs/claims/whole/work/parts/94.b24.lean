/-! B24: the worthiest window -/
def ctb (W : Nat) (tc : Nat → Nat) (R : Nat → Nat → Bool) (k a b : Nat) : Nat := cn (fun v => decide (a ≤ v ∧ v + tc k ≤ b) && R k v) W
theorem ctb_le (W : Nat) (tc : Nat → Nat) (R : Nat → Nat → Bool) (k a b : Nat) : ctb W tc R k a b ≤ W := cn_le _ _
theorem ctb_s {W I : Nat} {tc : Nat → Nat} {R : Nat → Nat → Bool} {qt : Nat → Int} {k a b : Nat} (h : TcA W I tc R qt) (hk : k < I) : ctb W tc R k a (b + 1) = ctb W tc R k a b + (if ew tc R k a b then 1 else 0) := by
  have ht := (h.2.1 k hk).2
  cases e : ew tc R k a b
  · rw [if_neg Bool.false_ne_true, Nat.add_zero]
    refine cn_congr fun v hv => ?_
    by_cases e2 : v + tc k = b + 1
    · cases hr : R k v
      · rw [Bool.and_false, Bool.and_false]
      · by_cases e3 : a ≤ v
        · have : ew tc R k a b = true := ew_iff.mpr ⟨by omega, by rw [show b + 1 - tc k = v by omega]; exact hr⟩
          rw [e] at this; cases this
        · rw [decide_eq_false (by omega), decide_eq_false (by omega)]
    · congr 1
      exact decide_eq_decide.mpr (by omega)
  · have h1 := ew_iff.mp e
    have h2 := h.2.2 k _ hk h1.2
    rw [if_pos rfl]
    refine cn_upd (w := b + 1 - tc k) ?_ ?_ (by omega) fun i hi hne => ?_
    · rw [decide_eq_false (by omega), Bool.false_and]
    · rw [decide_eq_true (by omega), h1.2]; rfl
    · congr 1
      exact decide_eq_decide.mpr (by omega)
theorem ctb_0 {W I : Nat} {tc : Nat → Nat} {R : Nat → Nat → Bool} {qt : Nat → Int} {k a : Nat} (h : TcA W I tc R qt) (hk : k < I) : ctb W tc R k a a = 0 := by
  have ht := (h.2.1 k hk).2
  exact cn_zero fun v hv => by rw [decide_eq_false (by omega), Bool.false_and]
def ww (W I : Nat) (wt tc : Nat → Nat) (R : Nat → Nat → Bool) (a b : Nat) : Nat := wth I wt (fun k => ctb W tc R k a (b + 1))
theorem ww_pos {W I : Nat} {wt tc : Nat → Nat} {R : Nat → Nat → Bool} {qw qt : Nat → Int} {k a b : Nat} (h : TcA W I tc R qt) (hw : QwA I wt qw) (hk : k < I) (he : ew tc R k a b = true) : 0 < ww W I wt tc R a b := by
  have h1 := ctb_s (a := a) (b := b) h hk
  rw [he, if_pos rfl] at h1
  have h2 := (hw.2 k hk).2
  have h3 : wt k * tms (ctb W tc R k a (b + 1)) ≤ ww W I wt tc R a b := sm_one (f := fun k => wt k * tms (ctb W tc R k a (b + 1))) hk
  have h4 : 10 ≤ tms (ctb W tc R k a (b + 1)) := by unfold tms; (repeat' split) <;> omega
  have h5 : 1 * 10 ≤ wt k * tms (ctb W tc R k a (b + 1)) := Nat.mul_le_mul (by omega) h4
  omega
theorem ww_ne {W I : Nat} {wt tc : Nat → Nat} {R : Nat → Nat → Bool} {a b : Nat} (h : 0 < ww W I wt tc R a b) : ∃ k v, k < I ∧ a ≤ v ∧ v + tc k ≤ b + 1 ∧ R k v = true := by
  apply Classical.byContradiction
  intro hc
  have : ww W I wt tc R a b = 0 := sm_zero fun k hk => by
    have h0 : ctb W tc R k a (b + 1) = 0 := cn_zero fun v hv => by
      by_cases e : a ≤ v ∧ v + tc k ≤ b + 1
      · cases hr : R k v
        · rw [Bool.and_false]
        · exact absurd ⟨k, v, hk, e.1, e.2, hr⟩ hc
      · rw [decide_eq_false e, Bool.false_and]
    show wt k * tms (ctb W tc R k a (b + 1)) = 0
    rw [h0]; rfl
  omega
def wle (w2 : Nat → Nat → Nat) (F T : Nat → Nat) (p q a b : Nat) : Prop := w2 a b < w2 p q ∨ (w2 a b = w2 p q ∧ ((T q : Int) - F p < T b - F a ∨ ((T q : Int) - F p = T b - F a ∧ (p < a ∨ (p = a ∧ q ≤ b)))))
theorem wle_trans {w2 : Nat → Nat → Nat} {F T : Nat → Nat} {p q a b c d : Nat} (h : wle w2 F T p q a b) (g : wle w2 F T a b c d) : wle w2 F T p q c d := by
  unfold wle at *; omega
theorem wle_anti {w2 : Nat → Nat → Nat} {F T : Nat → Nat} {p q a b : Nat} (h : wle w2 F T p q a b) (g : wle w2 F T a b p q) : p = a ∧ q = b := by
  unfold wle at *; omega
theorem wle_refl (w2 : Nat → Nat → Nat) (F T : Nat → Nat) (p q : Nat) : wle w2 F T p q p q := by unfold wle; omega
def Scn (C : Nat → Nat → Prop) (w2 : Nat → Nat → Nat) (F T : Nat → Nat) (a0 b0 : Nat) (f l w : Int) : Prop :=
  (f = -1 ∧ l = -1 ∧ w = 0 ∧ ∀ a b, C a b → (a < a0 ∨ (a = a0 ∧ b < b0)) → False) ∨ ∃ p q : Nat, f = p ∧ l = q ∧ w = (w2 p q : Int) ∧ C p q ∧ (p < a0 ∨ (p = a0 ∧ q < b0)) ∧ ∀ a b, C a b → (a < a0 ∨ (a = a0 ∧ b < b0)) → wle w2 F T p q a b
theorem Scn.no {C : Nat → Nat → Prop} {w2 : Nat → Nat → Nat} {F T : Nat → Nat} {a0 b0 : Nat} {f l w : Int} (h : Scn C w2 F T a0 b0 f l w) (hn : ¬ C a0 b0) : Scn C w2 F T a0 (b0 + 1) f l w := by
  have key : ∀ a b, C a b → (a < a0 ∨ (a = a0 ∧ b < b0 + 1)) → (a < a0 ∨ (a = a0 ∧ b < b0)) := by
    intro a b hc hp
    by_cases e : a = a0 ∧ b = b0
    · rw [e.1, e.2] at hc; exact absurd hc hn
    · omega
  rcases h with ⟨h1, h2, h3, h4⟩ | ⟨p, q, h1, h2, h3, h4, h5, h6⟩
  · exact .inl ⟨h1, h2, h3, fun a b hc hp => h4 a b hc (key a b hc hp)⟩
  · exact .inr ⟨p, q, h1, h2, h3, h4, by omega, fun a b hc hp => h6 a b hc (key a b hc hp)⟩
theorem Scn.take {C : Nat → Nat → Prop} {w2 : Nat → Nat → Nat} {F T : Nat → Nat} {a0 b0 : Nat} {f l w : Int} (h : Scn C w2 F T a0 b0 f l w) (hc : C a0 b0) (hb : w < w2 a0 b0 ∨ (w = w2 a0 b0 ∧ ∃ p q : Nat, f = p ∧ l = q ∧ (T b0 : Int) - F a0 < T q - F p)) : Scn C w2 F T a0 (b0 + 1) a0 b0 (w2 a0 b0 : Nat) := by
  refine .inr ⟨a0, b0, rfl, rfl, rfl, hc, by omega, fun a b h1 h2 => ?_⟩
  by_cases e : a = a0 ∧ b = b0
  · rw [e.1, e.2]; exact wle_refl _ _ _ _ _
  · rcases h with ⟨h3, h4, h5, h6⟩ | ⟨p, q, h3, h4, h5, h6, h7, h8⟩
    · exact absurd (h6 a b h1 (by omega)) id
    · refine wle_trans ?_ (h8 a b h1 (by omega))
      rcases hb with g | ⟨g, p', q', g1, g2, g3⟩
      · left; omega
      · have e1 : p' = p := by omega
        have e2 : q' = q := by omega
        rw [e1, e2] at g3
        right
        exact ⟨by omega, .inl g3⟩
theorem Scn.keep {C : Nat → Nat → Prop} {w2 : Nat → Nat → Nat} {F T : Nat → Nat} {a0 b0 : Nat} {f l w : Int} (h : Scn C w2 F T a0 b0 f l w) (hb : C a0 b0 → ∃ p q : Nat, f = p ∧ l = q ∧ ((w2 a0 b0 : Int) < w ∨ ((w2 a0 b0 : Int) = w ∧ (T q : Int) - F p ≤ T b0 - F a0))) : Scn C w2 F T a0 (b0 + 1) f l w := by
  by_cases hc : C a0 b0
  · obtain ⟨p', q', g1, g2, g3⟩ := hb hc
    rcases h with ⟨h3, h4, h5, h6⟩ | ⟨p, q, h3, h4, h5, h6, h7, h8⟩
    · omega
    · have e1 : p' = p := by omega
      have e2 : q' = q := by omega
      subst e1
      subst e2
      refine .inr ⟨p', q', h3, h4, h5, h6, by omega, fun a b h1 h2 => ?_⟩
      by_cases e : a = a0 ∧ b = b0
      · rw [e.1, e.2]; unfold wle; omega
      · exact h8 a b h1 (by omega)
  · exact h.no hc
theorem Scn.row {C : Nat → Nat → Prop} {w2 : Nat → Nat → Nat} {F T : Nat → Nat} {a0 b0 b1 : Nat} {f l w : Int} (h : Scn C w2 F T a0 b0 f l w) (h1 : ∀ b, b0 ≤ b → ¬ C a0 b) (h2 : ∀ b, b < b1 → ¬ C (a0 + 1) b) : Scn C w2 F T (a0 + 1) b1 f l w := by
  have key : ∀ a b, C a b → (a < a0 + 1 ∨ (a = a0 + 1 ∧ b < b1)) → (a < a0 ∨ (a = a0 ∧ b < b0)) := by
    intro a b hc hp
    rcases hp with g | ⟨g1, g2⟩
    · by_cases e : a = a0
      · rw [e] at hc
        rcases Nat.lt_or_ge b b0 with e2 | e2
        · exact .inr ⟨e, e2⟩
        · exact absurd hc (h1 b e2)
      · omega
    · rw [g1] at hc; exact absurd hc (h2 b g2)
  rcases h with ⟨g1, g2, g3, g4⟩ | ⟨p, q, g1, g2, g3, g4, g5, g6⟩
  · exact .inl ⟨g1, g2, g3, fun a b hc hp => g4 a b hc (key a b hc hp)⟩
  · exact .inr ⟨p, q, g1, g2, g3, g4, by omega, fun a b hc hp => g6 a b hc (key a b hc hp)⟩
def CM (W I : Nat) (wt tc : Nat → Nat) (R : Nat → Nat → Bool) (F T : Nat → Nat) (lo h1 n a b : Nat) : Prop := lo ≤ a ∧ a ≤ b ∧ b < h1 ∧ T b ≤ n + F a ∧ 0 < ww W I wt tc R a b
def CC (I : Nat) (tc : Nat → Nat) (R : Nat → Nat → Bool) (F T : Nat → Nat) (lo h1 n a b : Nat) : Prop := lo ≤ a ∧ a ≤ b ∧ b < h1 ∧ T b ≤ n + F a ∧ (∃ k, k < I ∧ R k a = true) ∧ ∃ k, k < I ∧ ew tc R k a b = true
def WRes (W I : Nat) (wt tc : Nat → Nat) (R : Nat → Nat → Bool) (F T : Nat → Nat) (lo h1 n : Nat) (f l w : Int) : Prop :=
  (f = -1 ∧ l = -1 ∧ w = 0 ∧ ∀ a b, CM W I wt tc R F T lo h1 n a b → False) ∨ ∃ p q : Nat, f = p ∧ l = q ∧ w = (ww W I wt tc R p q : Int) ∧ CM W I wt tc R F T lo h1 n p q ∧ ∀ a b, CM W I wt tc R F T lo h1 n a b → wle (ww W I wt tc R) F T p q a b
theorem WRes.uniq {W I : Nat} {wt tc : Nat → Nat} {R : Nat → Nat → Bool} {F T : Nat → Nat} {lo h1 n : Nat} {f l w f' l' w' : Int} (h : WRes W I wt tc R F T lo h1 n f l w) (g : WRes W I wt tc R F T lo h1 n f' l' w') : f = f' ∧ l = l' ∧ w = w' := by
  rcases h with ⟨h1, h2, h3, h4⟩ | ⟨p, q, h1, h2, h3, h4, h5⟩ <;> rcases g with ⟨g1, g2, g3, g4⟩ | ⟨p', q', g1, g2, g3, g4, g5⟩
  · omega
  · exact absurd (h4 _ _ g4) id
  · exact absurd (g4 _ _ h4) id
  · have := wle_anti (h5 _ _ g4) (g5 _ _ h4)
    rw [h1, h2, h3, g1, g2, g3, this.1, this.2]
    exact ⟨rfl, rfl, rfl⟩
/-- a window shrinks to one that a match begins and a match ends -/
theorem shrink {W I : Nat} {wt tc : Nat → Nat} {R : Nat → Nat → Bool} {qt : Nat → Int} {F T : Nat → Nat} {lo h1 n : Nat} (hF : FTo W F T) (h : TcA W I tc R qt) (hh : h1 ≤ W) : ∀ d a b, b - a = d → CM W I wt tc R F T lo h1 n a b → ∃ a' b', CC I tc R F T lo h1 n a' b' ∧ wle (ww W I wt tc R) F T a' b' a b := by
  intro d
  induction d with
  | zero =>
    intro a b hd hc
    obtain ⟨k, v, k1, k2, k3, k4⟩ := ww_ne hc.2.2.2.2
    have ht := (h.2.1 k k1).2
    have e : v = a := by have := hc.2.1; omega
    rw [e] at k4 k3
    have e2 : tc k = 1 := by have := hc.2.1; omega
    refine ⟨a, b, ⟨hc.1, hc.2.1, hc.2.2.1, hc.2.2.2.1, ⟨k, k1, k4⟩, k, k1, ew_iff.mpr ⟨by omega, ?_⟩⟩, wle_refl _ _ _ _ _⟩
    rw [show b + 1 - tc k = a by have := hc.2.1; omega]; exact k4
  | succ d ih =>
    intro a b hd hc
    obtain ⟨c1, c2, c3, c4, c5⟩ := hc
    by_cases hb : ∃ k, k < I ∧ R k a = true
    · by_cases he : ∃ k, k < I ∧ ew tc R k a b = true
      · exact ⟨a, b, ⟨c1, c2, c3, c4, hb, he⟩, wle_refl _ _ _ _ _⟩
      · obtain ⟨c, rfl⟩ : ∃ c, b = c + 1 := ⟨b - 1, by omega⟩
        have ew0 : ww W I wt tc R a c = ww W I wt tc R a (c + 1) := wth_congr fun k hk => by
          rw [ctb_s (b := c + 1) h hk, if_neg (fun g => he ⟨k, hk, g⟩)]; exact (Nat.add_zero _).symm
        have f1 := hF.2.1 (c + 1) (by omega)
        have f2 := hF.2.2 c (c + 1) (by omega) (by omega)
        obtain ⟨a', b', g1, g2⟩ := ih a c (by omega) ⟨c1, by omega, by omega, by omega, by rw [ew0]; exact c5⟩
        refine ⟨a', b', g1, wle_trans g2 ?_⟩
        right
        exact ⟨ew0.symm, .inl (by omega)⟩
    · have ew0 : ww W I wt tc R (a + 1) b = ww W I wt tc R a b := wth_congr fun k hk => cn_congr fun v hv => by
        by_cases e : v = a
        · have : R k v = false := by
            cases hr : R k v
            · rfl
            · rw [e] at hr; exact absurd ⟨k, hk, hr⟩ hb
          rw [this, Bool.and_false, Bool.and_false]
        · congr 1
          exact decide_eq_decide.mpr (by omega)
      have f1 := hF.2.1 a (by omega)
      have f2 := hF.2.2 a (a + 1) (by omega) (by omega)
      obtain ⟨a', b', g1, g2⟩ := ih (a + 1) b (by omega) ⟨by omega, by omega, c3, by omega, by rw [ew0]; exact c5⟩
      refine ⟨a', b', g1, wle_trans g2 ?_⟩
      right
      exact ⟨ew0.symm, .inl (by omega)⟩
theorem CC.cm {W I : Nat} {wt tc : Nat → Nat} {R : Nat → Nat → Bool} {qt qw : Nat → Int} {F T : Nat → Nat} {lo h1 n a b : Nat} (h : TcA W I tc R qt) (hw : QwA I wt qw) (hc : CC I tc R F T lo h1 n a b) : CM W I wt tc R F T lo h1 n a b := by
  obtain ⟨c1, c2, c3, c4, c5, k, c6, c7⟩ := hc
  exact ⟨c1, c2, c3, c4, ww_pos h hw c6 c7⟩
theorem Scn.res {W I : Nat} {wt tc : Nat → Nat} {R : Nat → Nat → Bool} {qt qw : Nat → Int} {F T : Nat → Nat} {lo h1 n a0 b0 : Nat} {f l w : Int} (hF : FTo W F T) (h : TcA W I tc R qt) (hw : QwA I wt qw) (hh : h1 ≤ W) (h0 : h1 ≤ a0) (hs : Scn (CC I tc R F T lo h1 n) (ww W I wt tc R) F T a0 b0 f l w) : WRes W I wt tc R F T lo h1 n f l w := by
  rcases hs with ⟨g1, g2, g3, g4⟩ | ⟨p, q, g1, g2, g3, g4, g5, g6⟩
  · refine .inl ⟨g1, g2, g3, fun a b hc => ?_⟩
    obtain ⟨a', b', k1, k2⟩ := shrink hF h hh _ a b rfl hc
    exact g4 a' b' k1 (.inl (by have := k1.2.1; have := k1.2.2.1; omega))
  · refine .inr ⟨p, q, g1, g2, g3, g4.cm h hw, fun a b hc => ?_⟩
    obtain ⟨a', b', k1, k2⟩ := shrink hF h hh _ a b rfl hc
    exact wle_trans (g6 a' b' k1 (.inl (by have := k1.2.1; have := k1.2.2.1; omega))) k2
/-! the class -/
theorem ww_le {W I : Nat} {wt tc : Nat → Nat} {R : Nat → Nat → Bool} {qw : Nat → Int} (hw : QwA I wt qw) (a b : Nat) : ww W I wt tc R a b ≤ 1008 := by
  have h1 := wth_le (d := fun k => ctb W tc R k a (b + 1)) hw
  have h2 := hw.1
  unfold ww
  omega
theorem FTo.mT {W : Nat} {F T : Nat → Nat} (h : FTo W F T) {v w : Nat} (h1 : v ≤ w) (h2 : w < W) : T v ≤ T w ∧ F v ≤ F w := by
  rcases Nat.eq_or_lt_of_le h1 with e | e
  · rw [e]; exact ⟨Nat.le_refl _, Nat.le_refl _⟩
  · have a := h.2.2 v w e h2
    have b := h.2.1 w h2
    have c := h.2.1 v (by omega)
    omega
theorem b_widen {W I : Nat} {wt tc : Nat → Nat} {R : Nat → Nat → Bool} {F T : Nat → Nat} {sa wb we qw qt en : Nat → Int} {lo h1 n a : Nat} {f l w : Int} {Q : Int → Int → Int → Prop} (hF : FTo W F T) (hL : WlA W F T sa wb we) (h : TcA W I tc R qt) (hw : QwA I wt qw) (hen : ∀ v, v < W → en v = bs (fun k => enR tc R k v) I) (hh : h1 ≤ W) (ha : a < h1) (hlo : lo ≤ a) (hb : ∃ k, k < I ∧ R k a = true) (hs : Scn (CC I tc R F T lo h1 n) (ww W I wt tc R) F T a a f l w)
    (hq : ∀ f' l' w', Scn (CC I tc R F T lo h1 n) (ww W I wt tc R) F T (a + 1) (a + 1) f' l' w' → Q f' l' w') : wp_Windows_widenFrom sa wb we qw qt en I f l w a ((h1 : Int) - 1) n Q := by
  have hW := hF.1
  have hI := h.1
  unfold wp_Windows_widenFrom
  have fin : ∀ (b : Nat) (f l w : Int), a ≤ b → Scn (CC I tc R F T lo h1 n) (ww W I wt tc R) F T a b f l w → (∀ b', b ≤ b' → ¬ CC I tc R F T lo h1 n a b') → Q f l w := fun b f l w _ hs hn => hq f l w (hs.row hn fun b' hb' hc => by have := hc.2.1; omega)
  refine ⟨fun f l w x y => ∃ b : Nat, y = b ∧ a ≤ b ∧ b ≤ h1 ∧ Scn (CC I tc R F T lo h1 n) (ww W I wt tc R) F T a b f l w ∧ Tl x (fun k => if k < I then ctb W tc R k a b else 0), fun _ _ _ _ y => h1 - y.toNat, ⟨a, rfl, Nat.le_refl _, by omega, hs, Tl.zero.congr fun k _ => ?_⟩, ?_⟩
  · split
    · rename_i hk; rw [ctb_0 h hk]
    · rfl
  rintro f l w x y ⟨b, rfl, hb1, hb2, hs, hx⟩
  refine ⟨fun h2 => fin b f l w hb1 hs fun b' hb' hc => (by have := hc.2.2.1; omega), fun h2 => b_wl hF hL (by omega) (by omega) ⟨fun h3 => fin b f l w hb1 hs fun b' hb' hc => ?_, fun h3 => b_ending hW h hen (by omega) ?_⟩⟩
  · have g1 := hc.2.2.1
    have g2 := hc.2.2.2.1
    have := (hF.mT hb' (by omega)).1
    omega
  · have hm31 := bs_31 (fun k => ew tc R k a b) (show I ≤ 31 by omega)
    have hxs : ∀ (k : Nat), ctb W tc R k a b ≤ 100 := fun k => Nat.le_trans (ctb_le _ _ _ _ _ _) hW
    refine ⟨fun x y => ∃ j : Nat, y = j ∧ j ≤ I ∧ Tl x (fun k => if k < I then ctb W tc R k a b + (if k < j ∧ ew tc R k a b = true then 1 else 0) else 0), fun _ y => I - y.toNat, ⟨0, rfl, by omega, hx.congr fun k _ => ?_⟩, ?_⟩
    · split
      · rw [if_neg (by omega)]; rfl
      · rfl
    rintro x y ⟨j, rfl, hj, hx⟩
    refine ⟨Tl x (fun k => if k < I then ctb W tc R k a (b + 1) else 0), fun hx => ?_, fun h4 => hx.congr fun k _ => ?_, fun h4 => ⟨fun h5 => hx.congr fun k _ => ?_, fun h5 => b_Has hm31 (by omega) ?_⟩⟩
    · refine jn3_i ⟨fun h4 => ⟨⟨by omega, by omega⟩, ⟨b + 1, by omega, by omega, by omega, hs.no fun hc => ?_, hx⟩, by (try dsimp only); omega⟩, fun h4 => b_worthOf hw hx ?_⟩
      · obtain ⟨k, k1, k2⟩ := hc.2.2.2.2.2
        have : (bs (fun k => ew tc R k a b) I).testBit k = true := by rw [bs_in k1]; exact k2
        rw [show bs (fun k => ew tc R k a b) I = 0 by omega, Nat.zero_testBit] at this
        cases this
      · have hc : CC I tc R F T lo h1 n a b := by
          refine ⟨hlo, hb1, by omega, by omega, hb, ?_⟩
          apply Classical.byContradiction
          intro g
          apply h4
          rw [bs_zero fun i hi => ?_]
          · rfl
          · cases e : ew tc R i a b
            · rfl
            · exact absurd ⟨i, hi, e⟩ g
        have e1 : wth I wt (fun k => if k < I then ctb W tc R k a (b + 1) else 0) = ww W I wt tc R a b := wth_congr fun k hk => if_pos hk
        have e2 : ww W I wt tc R a b > 0 := by
          obtain ⟨k, k1, k2⟩ := hc.2.2.2.2.2
          exact ww_pos h hw k1 k2
        rw [e1]
        have go : ∀ f' l' w', Scn (CC I tc R F T lo h1 n) (ww W I wt tc R) F T a (b + 1) f' l' w' → rng ((b : Int) + 1) ∧ (∃ b' : Nat, (b : Int) + 1 = b' ∧ a ≤ b' ∧ b' ≤ h1 ∧ Scn (CC I tc R F T lo h1 n) (ww W I wt tc R) F T a b' f' l' w' ∧ Tl x (fun k => if k < I then ctb W tc R k a b' else 0)) ∧ h1 - ((b : Int) + 1).toNat < h1 - (b : Int).toNat := fun f' l' w' hs' => ⟨⟨by omega, by omega⟩, ⟨b + 1, by omega, by omega, by omega, hs', hx⟩, by omega⟩
        unfold wp_Windows_keepIfWorthier
        rcases hs with ⟨g1, g2, g3, g4⟩ | ⟨p, q, g1, g2, g3, g4, g5, g6⟩
        · subst g1
          subst g2
          subst g3
          have hs : Scn (CC I tc R F T lo h1 n) (ww W I wt tc R) F T a b (-1) (-1) 0 := .inl ⟨rfl, rfl, rfl, g4⟩
          refine ⟨fun y => y = 0, ?_, jn0_i ⟨fun _ => rfl, fun g => absurd rfl g⟩⟩
          rintro _ rfl
          exact jn0_i ⟨fun _ => go _ _ _ (hs.take hc (.inl (by omega))), fun g => absurd (show (0 : Int) < (ww W I wt tc R a b : Nat) by omega) g⟩
        · subst g1
          subst g2
          subst g3
          have hs : Scn (CC I tc R F T lo h1 n) (ww W I wt tc R) F T a b (p : Int) (q : Int) (ww W I wt tc R p q : Nat) := .inr ⟨p, q, rfl, rfl, rfl, g4, g5, g6⟩
          have hpq := g4.2.1
          have hqh := g4.2.2.1
          refine ⟨fun y => (y = 1 ∧ (T b : Int) - F a < T q - F p) ∨ (y = 0 ∧ (T q : Int) - F p ≤ T b - F a), fun y hy => ?_, jn0_i ⟨fun g => by omega, fun _ => b_wl hF hL (by omega) (by omega) (b_wl hF hL (by omega) (by omega) ⟨fun g => .inr ⟨rfl, g⟩, fun g => .inl ⟨rfl, by omega⟩⟩)⟩⟩
          refine ⟨(ww W I wt tc R p q : Int) < ww W I wt tc R a b ∨ ((ww W I wt tc R p q : Int) = ww W I wt tc R a b ∧ (T b : Int) - F a < T q - F p), fun g => go _ _ _ (hs.take hc ?_), fun g => .inl g, fun g => ⟨fun g7 => go _ _ _ (hs.keep fun _ => ⟨p, q, rfl, rfl, .inl (by omega)⟩), fun g7 => ⟨fun g8 => go _ _ _ (hs.keep fun _ => ⟨p, q, rfl, rfl, .inr ⟨by omega, by omega⟩⟩), fun g8 => .inr ⟨by omega, by omega⟩⟩⟩⟩
          rcases g with g | g
          · exact .inl g
          · exact .inr ⟨g.1, p, q, rfl, rfl, g.2⟩
    · by_cases hk : k < I
      · rw [if_pos hk, if_pos hk, ctb_s h hk]
        congr 1
        cases e : ew tc R k a b
        · rw [if_neg (fun g => by cases g.2), if_neg Bool.false_ne_true]
        · rw [if_pos ⟨by omega, rfl⟩, if_pos rfl]
      · rw [if_neg hk, if_neg hk]
    · by_cases hk : k < I
      · rw [if_pos hk, if_pos hk, ctb_s h hk]
        have e : ew tc R k a b = false := by
          cases e : ew tc R k a b
          · rfl
          · have : (bs (fun k => ew tc R k a b) I).testBit k = true := by rw [bs_in hk]; exact e
            rw [show bs (fun k => ew tc R k a b) I = 0 by omega, Nat.zero_testBit] at this
            cases this
        rw [e, if_neg (fun g => by cases g.2), if_neg Bool.false_ne_true]
      · rw [if_neg hk, if_neg hk]
    · rw [bs_in (show j < I by omega)]
      refine jn1_i ⟨fun h6 => ⟨⟨by omega, by omega⟩, ⟨j + 1, by omega, by omega, (Tl.add hx Tl.zero fun k hk => ?_).congr fun k hk => ?_⟩, by (try dsimp only); omega⟩, fun h6 => b_oneOf (by omega) ⟨⟨by omega, by omega⟩, ⟨j + 1, by omega, by omega, (Tl.add hx (Tl.one (k := j) (by omega)) fun k hk => ?_).congr fun k hk => ?_⟩, by (try dsimp only); omega⟩⟩
      · have := hx.1 k hk; dsimp only at this ⊢; omega
      · by_cases hk : k < I
        · rw [if_pos hk, if_pos hk, Nat.add_zero]
          congr 1
          by_cases e : k = j
          · rw [e, bI_0 h6, if_neg (by omega), if_neg (fun g => by cases g.2)]
          · by_cases e2 : k < j ∧ ew tc R k a b = true
            · rw [if_pos e2, if_pos ⟨by omega, e2.2⟩]
            · rw [if_neg e2, if_neg (fun g => e2 ⟨by omega, g.2⟩)]
        · rw [if_neg hk, if_neg hk]
      · have := hxs k
        (repeat' split) <;> omega
      · by_cases hk : k < I
        · rw [if_pos hk, if_pos hk, Nat.add_assoc]
          congr 1
          by_cases e : k = j
          · rw [e, if_neg (by omega), if_pos rfl, if_pos ⟨by omega, bI_1 h6⟩]
          · rw [if_neg e, Nat.add_zero]
            by_cases e2 : k < j ∧ ew tc R k a b = true
            · rw [if_pos e2, if_pos ⟨by omega, e2.2⟩]
            · rw [if_neg e2, if_neg (fun g => e2 ⟨by omega, g.2⟩)]
        · rw [if_neg hk, if_neg hk, if_neg (by omega)]
theorem b_widest {W I : Nat} {wt tc : Nat → Nat} {R : Nat → Nat → Bool} {F T : Nat → Nat} {sa wb we qw qt bg en : Nat → Int} {lo h1 n : Nat} {low z1 z2 z3 z4 : Int} {Q : Int → Int → Int → Int → Prop} (hF : FTo W F T) (hL : WlA W F T sa wb we) (h : TcA W I tc R qt) (hw : QwA I wt qw) (hbg : ∀ v, v < W → bg v = bs (fun k => R k v) I) (hen : ∀ v, v < W → en v = bs (fun k => enR tc R k v) I) (hh : h1 ≤ W) (hlo : max low 0 = lo)
    (hq : ∀ f l w, WRes W I wt tc R F T lo h1 n f l w → Q f l w 0) : wp_Windows_seekWidest sa wb we qw qt bg en I z1 z2 z3 z4 low ((h1 : Int) - 1) n Q := by
  have hW := hF.1
  have hI := h.1
  unfold wp_Windows_seekWidest wp_Windows_forget
  rw [hlo]
  refine ⟨fun f l w x => ∃ a : Nat, x = a ∧ lo ≤ a ∧ (a ≤ h1 ∨ a = lo) ∧ Scn (CC I tc R F T lo h1 n) (ww W I wt tc R) F T a a f l w, fun _ _ _ x => h1 - x.toNat, ⟨lo, rfl, Nat.le_refl _, .inr rfl, .inl ⟨rfl, rfl, rfl, fun a b hc hp => by have := hc.1; have := hc.2.1; omega⟩⟩, ?_⟩
  rintro f l w x ⟨a, rfl, ha1, ha2, hs⟩
  refine ⟨fun h2 => hq f l w (hs.res hF h hw hh (by omega)), fun h2 => ⟨⟨by omega, by omega⟩, ?_⟩⟩
  rw [Int.toNat_natCast, hbg a (by omega)]
  refine jn3_i ⟨fun h3 => ⟨⟨by omega, by omega⟩, ⟨a + 1, by omega, by omega, by omega, hs.row (fun b hb hc => ?_) (fun b hb hc => ?_)⟩, by (try dsimp only); omega⟩, fun h3 => b_widen hF hL h hw hen hh (by omega) ha1 ?_ hs fun f' l' w' hs' => ⟨⟨by omega, by omega⟩, ⟨a + 1, by omega, by omega, by omega, hs'⟩, by (try dsimp only); omega⟩⟩
  · obtain ⟨k, k1, k2⟩ := hc.2.2.2.2.1
    have : (bs (fun k => R k a) I).testBit k = true := by rw [bs_in k1]; exact k2
    rw [show bs (fun k => R k a) I = 0 by omega, Nat.zero_testBit] at this
    cases this
  · have := hc.2.1; omega
  · apply Classical.byContradiction
    intro g
    apply h3
    rw [bs_zero fun i hi => ?_]
    · rfl
    · cases e : R i a
      · rfl
      · exact absurd ⟨i, hi, e⟩ g
