/-! B36: marks over signs are marks over bytes -/
def PrP (b : Nat → Int) (N bg en : Nat) (f l : Int) : Prop := (∀ w : Nat, w + 1 < Wn b N → bg < TN b N w → FN b N (w + 1) < en → so b N w = so b N (w + 1)) ∧ ∀ w x : Nat, f ≤ (w : Int) → (w : Int) < l → soN b N w < Sn b N → so b N w = so b N (w + 1) → TN b N w ≤ x → x < FN b N (w + 1) → bg ≤ x → x < en → bg < TN b N w ∧ FN b N (w + 1) < en
theorem FN_le {b : Nat → Int} {N v x : Nat} (hv : v < Wn b N) (hx : x ≤ sgn b N N) : FN b N v ≤ x ↔ wBg b N v ≤ ps b N x := by
  have := sg_le (b := b) (N := N) (wBg_sec hv) (ps_sec b N x)
  rw [sgn_ps hx] at this
  exact this
theorem TN_lt {b : Nat → Int} {N v x : Nat} (hv : v < Wn b N) (hx : x ≤ sgn b N N) : x < TN b N v ↔ ps b N x < wEn b N v := by
  have := sg_lt (b := b) (N := N) (ps_sec b N x) (wEn_sec hv)
  rw [sgn_ps hx] at this
  exact this
theorem FN_str {b : Nat → Int} {N v w : Nat} (h : v < w) (hw : w < Wn b N) : FN b N v < FN b N w ∧ TN b N v < TN b N w ∧ TN b N v < FN b N w ∧ FN b N v < TN b N v := by
  have h1 := wd_next h hw
  have h2 := wd_lt hw
  have h3 := wd_lt (show v < Wn b N by omega)
  have a1 := sgn_lt (wEn_sec (show v < Wn b N by omega)) h1
  have a2 := sgn_lt (wBg_sec (show v < Wn b N by omega)) h3.1
  have a3 := sgn_lt (wBg_sec hw) h2.1
  unfold FN TN; omega
theorem FN_m {b : Nat → Int} {N v w : Nat} (h : v ≤ w) (hw : w < Wn b N) : FN b N v ≤ FN b N w ∧ TN b N v ≤ TN b N w ∧ FN b N v < TN b N w := by
  have h3 := wd_lt hw
  have a3 := sgn_lt (wBg_sec hw) h3.1
  rcases Nat.eq_or_lt_of_le h with e | e
  · rw [e]; unfold FN TN; omega
  · have := FN_str e hw; have : FN b N w < TN b N w := a3; omega
theorem sba_bas {b : Nat → Int} {N I f l x : Nat} {tc : Nat → Nat} {R : Nat → Nat → Bool} {sel : Nat → Bool} {qt : Nat → Int} (hT : TcA (Wn b N) I tc R qt) (hl : l < Wn b N) (hx : x ≤ sgn b N N) : sba b N I tc R sel f l x ↔ bas b N I tc (Rf R f) sel l (ps b N x) := by
  constructor
  · rintro ⟨k, v, a1, a2, a3, a4, a5, a6, a7⟩
    have ht := (hT.2.1 k a1).2
    exact ⟨k, v, a1, a2, by unfold Rf; rw [a3, decide_eq_true (by omega)]; rfl, by omega, (FN_le (by omega) hx).mp a6, (TN_lt (by omega) hx).mp a7⟩
  · rintro ⟨k, v, a1, a2, a3, a4, a5, a6⟩
    have ht := (hT.2.1 k a1).2
    unfold Rf at a3
    rw [Bool.and_eq_true, decide_eq_true_iff] at a3
    exact ⟨k, v, a1, a2, a3.1, by omega, by omega, (FN_le (by omega) hx).mpr a5, (TN_lt (by omega) hx).mpr a6⟩
/-- blanks between two words -/
theorem gap_fnb {b : Nat → Int} {N w : Nat} (hw : w + 1 < Wn b N) (h : ∀ u, TN b N w ≤ u → u < FN b N (w + 1) → blk (atv b N (ps b N u)) = true) : fnb b N (wEn b N w) = wBg b N (w + 1) := by
  have h1 := wd_next (show w < w + 1 by omega) hw
  have h2 := wd_lt hw
  have key : ∀ d, wEn b N w + d < wBg b N (w + 1) → sec b N (wEn b N w + d) = false ∧ blk (b (wEn b N w + d)) = true := by
    intro d
    have fin : sec b N (wEn b N w + d) = false → wEn b N w + d < wBg b N (w + 1) → blk (b (wEn b N w + d)) = true := by
      intro hs hd
      have g1 := ps_sgn (b := b) (N := N) (i := wEn b N w + d) (by omega) hs
      have g2 := sgn_mono (b := b) (N := N) (show wEn b N w ≤ wEn b N w + d by omega)
      have g3 := sgn_lt hs hd
      have g4 := h (sgn b N (wEn b N w + d)) g2 g3
      rw [g1, atv_n (by omega)] at g4
      exact g4
    induction d with
    | zero => intro hd; exact ⟨wEn_sec (by omega), fin (wEn_sec (by omega)) hd⟩
    | succ d ih =>
      intro hd
      have fin9 : sec b N (wEn b N w + d) = false → wEn b N w + d < wBg b N (w + 1) → blk (b (wEn b N w + d)) = true := by
        intro hs hd
        have g1 := ps_sgn (b := b) (N := N) (i := wEn b N w + d) (by omega) hs
        have g2 := sgn_mono (b := b) (N := N) (show wEn b N w ≤ wEn b N w + d by omega)
        have g3 := sgn_lt hs hd
        have g4 := h (sgn b N (wEn b N w + d)) g2 g3
        rw [g1, atv_n (by omega)] at g4
        exact g4
      have g := ih fin9 (by omega)
      have hs : sec b N (wEn b N w + (d + 1)) = false := by
        cases e : sec b N (wEn b N w + (d + 1))
        · rfl
        · have g1 := sec_ge e
          rw [show wEn b N w + (d + 1) - 1 = wEn b N w + d by omega] at g1
          have g2 := of_decide_eq_true g.2
          omega
      exact ⟨hs, fin hs hd⟩
  unfold fnb
  rw [sk_eq (p := bkp b) (i := wEn b N w) (j := wBg b N (w + 1)) (by omega) (by omega) (fun k hk1 hk2 => ?_)]
  · exact sk_stop (ltr_nb (wd_ltr hw _ (Nat.le_refl _) h2.1))
  · have := (key (k - wEn b N w) (by omega)).2
    rw [show wEn b N w + (k - wEn b N w) = k by omega] at this
    exact this
theorem mrk_sgn {b : Nat → Int} {N I f l bg en x : Nat} {tc : Nat → Nat} {R : Nat → Nat → Bool} {sel : Nat → Bool} {qt : Nat → Int} (hT : TcA (Wn b N) I tc R qt) (hRs : ∀ k v, k < I → R k v = true → soN b N v < Sn b N ∧ v + tc k ≤ fW b N (soN b N v + 1)) (hl : l < Wn b N) (hen : en ≤ sgn b N N) (hp : PrP b N bg en f l) (h1 : bg ≤ x) (h2 : x < en) : (sba b N I tc R sel f l x ∨ sgp b N bg en (sba b N I tc R sel f l) (sbo b N I tc R sel f l) en x) ↔ mrk b N I tc R sel f l (ps b N x) = true := by
  unfold mrk
  rw [pB_iff, sba_bas hT hl (by omega)]
  have ht := fun k (hk : k < I) => (hT.2.1 k hk).2
  constructor
  · rintro (g | ⟨s0, t, a1, a2, ⟨k, v, k1, k2, k3, k4, k5, k6, k7⟩, a4, a5, a6, ⟨k', v', c1, c2, c3, c4, c5, c6, c7⟩, a8, a9, a10⟩)
    · exact .inl g
    · have hk := ht k k1
      have hk' := ht k' c1
      generalize hw : v + tc k - 1 = w at *
      have hwl : w ≤ l := by omega
      have e1 : TN b N w = s0 + 1 := by
        rcases Nat.lt_or_ge (s0 + 1) (TN b N w) with g | g
        · exact absurd ⟨k, v, k1, k2, k3, k4, k5, k6, by rw [hw]; exact g⟩ a4
        · omega
      have n1 : ¬ FN b N v' ≤ s0 := fun g => a4 ⟨k', v', c1, c2, c3, c4, c5, g, by omega⟩
      have hv' : w < v' := by
        rcases Nat.lt_or_ge w v' with g | g
        · exact g
        · have := FN_m (b := b) (N := N) g (show w < Wn b N by omega)
          omega
      have et : t = FN b N v' := by
        rcases Nat.eq_or_lt_of_le c6 with g | g
        · exact g.symm
        · exfalso
          have hself : sba b N I tc R sel f l (FN b N v') := ⟨k', v', c1, c2, c3, c4, c5, Nat.le_refl _, by
            have := FN_m (b := b) (N := N) (show v' ≤ v' + tc k' - 1 by omega) (show v' + tc k' - 1 < Wn b N by omega)
            omega⟩
          exact (a8 (FN b N v') (by omega) g).2 hself
      have ev : v' = w + 1 := by
        rcases Nat.lt_or_ge (w + 1) v' with g | g
        · exfalso
          have g1 := FN_str (b := b) (N := N) g (show v' < Wn b N by omega)
          have g2 := FN_str (b := b) (N := N) (show w < w + 1 by omega) (show w + 1 < Wn b N by omega)
          have g3 := (a8 (FN b N (w + 1)) (by omega) (by omega)).1
          have hw1 : w + 1 < Wn b N := by omega
          have g4 : ps b N (FN b N (w + 1)) = wBg b N (w + 1) := ps_sgn (by have := wd_lt hw1; omega) (wBg_sec hw1)
          have g5 := wd_lt hw1
          rw [g4, atv_n (by omega), ltr_nb (wd_ltr hw1 _ (Nat.le_refl _) g5.1)] at g3
          cases g3
        · omega
      subst ev
      by_cases ex : x = s0
      · rw [ex]
        exact .inl ((sba_bas hT hl (by omega)).mp ⟨k, v, k1, k2, k3, k4, k5, k6, by rw [hw]; exact k7⟩)
      · right
        have hw1 : w + 1 < Wn b N := by omega
        have hfn := gap_fnb hw1 fun u hu1 hu2 => (a8 u (by omega) (by omega)).1
        have hww := wd_lt (show w < Wn b N by omega)
        have hvw := wEn_in (b := b) (N := N) (show v ≤ w by omega) (show w < Wn b N by omega)
        refine ⟨w, by omega, by omega, hp.1 w hw1 (by omega) (by omega), hfn, ?_, ?_, ⟨k, v, k1, k2, by unfold Rf; rw [k3, decide_eq_true (by omega)]; rfl, by omega, by omega, by rw [hw]; omega⟩, ⟨k', w + 1, c1, c2, by unfold Rf; rw [c3, decide_eq_true (by omega)]; rfl, by omega, Nat.le_refl _, (wEn_in (b := b) (N := N) (show w + 1 ≤ w + 1 + tc k' - 1 by omega) (by omega)).1⟩⟩
        · rcases Nat.lt_or_ge (ps b N x) (wEn b N w) with g | g
          · have := (TN_lt (b := b) (N := N) (v := w) (x := x) (by omega) (by omega)).mpr g
            omega
          · exact g
        · rcases Nat.lt_or_ge (ps b N x) (wBg b N (w + 1)) with g | g
          · exact g
          · have := (FN_le (b := b) (N := N) (v := w + 1) (x := x) hw1 (by omega)).mpr g
            omega
  · rintro (g | ⟨w, u1, u2, u3, u4, u5, u6, ⟨k, v, k1, k2, k3, k4, k5, k6⟩, ⟨k', v', c1, c2, c3, c4, c5, c6⟩⟩)
    · exact .inl g
    · have hk := ht k k1
      have hk' := ht k' c1
      have hw1 : w + 1 < Wn b N := by omega
      have hww := wd_lt (show w < Wn b N by omega)
      have hw2 := wd_lt hw1
      have vw : v ≤ w := by
        rcases Nat.lt_or_ge w v with g | g
        · have := (wEn_in (b := b) (N := N) (show w + 1 ≤ v by omega) (show v < Wn b N by omega)).2.2
          have := wd_next (show w < w + 1 by omega) hw1
          omega
        · exact g
      have we : w ≤ v + tc k - 1 := by
        rcases Nat.lt_or_ge (v + tc k - 1) w with g | g
        · have := wd_next g (show w < Wn b N by omega)
          omega
        · exact g
      have v1 : v' ≤ w + 1 := by
        rcases Nat.lt_or_ge (w + 1) v' with g | g
        · have := wd_next g (show v' < Wn b N by omega)
          omega
        · exact g
      have e1 : w + 1 ≤ v' + tc k' - 1 := by
        rcases Nat.lt_or_ge (v' + tc k' - 1) (w + 1) with g | g
        · have := wd_next g hw1
          omega
        · exact g
      have cover : ∀ j y, j < I → sel j = true → Rf R f j y = true → y + tc j ≤ l + 1 → y ≤ w → w + 1 ≤ y + tc j - 1 → bas b N I tc (Rf R f) sel l (ps b N x) := by
        intro j y j1 j2 j3 j4 j5 j6
        have g1 := wEn_in (b := b) (N := N) j5 (show w < Wn b N by omega)
        have g2 := wEn_in (b := b) (N := N) j6 (show y + tc j - 1 < Wn b N by omega)
        exact ⟨j, y, j1, j2, j3, j4, by omega, by omega⟩
      by_cases hc : bas b N I tc (Rf R f) sel l (ps b N x)
      · exact .inl hc
      · right
        have nc : ∀ j y, j < I → sel j = true → R j y = true → f ≤ y → y + tc j ≤ l + 1 → y ≤ w → ¬ w + 1 ≤ y + tc j - 1 := fun j y j1 j2 j3 j4 j5 j6 j7 => hc (cover j y j1 j2 (by unfold Rf; rw [j3, decide_eq_true j4]; rfl) j5 j6 j7)
        have kR := k3
        unfold Rf at kR
        rw [Bool.and_eq_true, decide_eq_true_iff] at kR
        have cR := c3
        unfold Rf at cR
        rw [Bool.and_eq_true, decide_eq_true_iff] at cR
        have ek : v + tc k - 1 = w := by have := nc k v k1 k2 kR.1 kR.2 k4 vw; omega
        have ev : v' = w + 1 := by
          rcases Nat.lt_or_ge v' (w + 1) with g | g
          · exact absurd e1 (nc k' v' c1 c2 cR.1 cR.2 c4 (by omega))
          · omega
        subst ev
        have hso : soN b N w < Sn b N := by
          have g1 := hRs k v k1 kR.1
          have g2 := (fW_iff (b := b) (N := N) (w := w) (k := soN b N v + 1) (by omega)).mp (by omega)
          omega
        have x1 : TN b N w ≤ x := by
          rcases Nat.lt_or_ge x (TN b N w) with g | g
          · have := (TN_lt (b := b) (N := N) (v := w) (by omega) (by omega)).mp g; omega
          · exact g
        have x2 : x < FN b N (w + 1) := by
          rcases Nat.lt_or_ge x (FN b N (w + 1)) with g | g
          · exact g
          · have := (FN_le (b := b) (N := N) hw1 (by omega)).mp g; omega
        have hpp := hp.2 w x (by omega) (by omega) hso u3 x1 x2 h1 h2
        have gT := FN_m (b := b) (N := N) vw (show w < Wn b N by omega)
        have noO : ∀ u, TN b N w - 1 ≤ u → ¬ (∃ j y, j < I ∧ sel j = true ∧ R j y = true ∧ (f : Int) ≤ (y : Int) ∧ ((y + tc j : Nat) : Int) ≤ (l : Int) + 1 ∧ FN b N y ≤ u ∧ u < FN b N (w + 1) ∧ TN b N w < TN b N (y + tc j - 1)) := by
          rintro u hu ⟨j, y, j1, j2, j3, j4, j5, j6, j7, j8⟩
          have hj := ht j j1
          have y1 : y ≤ w := by
            rcases Nat.lt_or_ge w y with g | g
            · have := (FN_m (b := b) (N := N) (show w + 1 ≤ y by omega) (show y < Wn b N by omega)).1
              omega
            · exact g
          have y2 : w + 1 ≤ y + tc j - 1 := by
            rcases Nat.lt_or_ge (y + tc j - 1) (w + 1) with g | g
            · have := (FN_m (b := b) (N := N) (show y + tc j - 1 ≤ w by omega) (show w < Wn b N by omega)).2.1
              omega
            · exact g
          exact nc j y j1 j2 j3 (by omega) (by omega) y1 y2
        have eTF := (FN_str (b := b) (N := N) (show w < w + 1 by omega) hw1).2.2.1
        refine ⟨TN b N w - 1, FN b N (w + 1), by omega, by omega, ⟨k, v, k1, k2, kR.1, by omega, by omega, by omega, by rw [ek]; omega⟩, ?_, by omega, hpp.2, ⟨k', w + 1, c1, c2, cR.1, by omega, by omega, Nat.le_refl _, (FN_m (b := b) (N := N) (show w + 1 ≤ w + 1 + tc k' - 1 by omega) (by omega)).2.2⟩, fun u hu1 hu2 => ⟨?_, ?_⟩, by omega, x2⟩
        · rintro ⟨j, y, j1, j2, j3, j4, j5, j6, j7⟩
          exact noO (TN b N w - 1) (Nat.le_refl _) ⟨j, y, j1, j2, j3, j4, j5, j6, by omega, by omega⟩
        · have p1 : wEn b N w ≤ ps b N u := by
            rcases Nat.lt_or_ge (ps b N u) (wEn b N w) with g | g
            · have := (TN_lt (b := b) (N := N) (v := w) (x := u) (by omega) (by omega)).mpr g; omega
            · exact g
          have p2 : ps b N u < wBg b N (w + 1) := by
            rcases Nat.lt_or_ge (ps b N u) (wBg b N (w + 1)) with g | g
            · exact g
            · have := (FN_le (b := b) (N := N) (v := w + 1) (x := u) hw1 (by omega)).mpr g; omega
          rw [atv_n (by omega)]
          exact sk_all (p := bkp b) (N := N) (i := wEn b N w) p1 (by unfold fnb at u4; omega)
        · rintro ⟨j, y, j1, j2, j3, j4, j5, j6, j7⟩
          refine noO u (by omega) ⟨j, y, j1, j2, j3, j4, j5, j6, hu2, ?_⟩
          have hj := ht j j1
          rcases Nat.lt_or_ge (TN b N w) (TN b N (y + tc j - 1)) with g | g
          · exact g
          · omega
/-- a mark goes on where the next sign has it too -/
theorem sb_pp {b : Nat → Int} {N I f l x : Nat} {tc : Nat → Nat} {R : Nat → Nat → Bool} {sel : Nat → Bool} {qt : Nat → Int} (hT : TcA (Wn b N) I tc R qt) (hl : l < Wn b N) (hx : sba b N I tc R sel f l x) (hy : sba b N I tc R sel f l (x + 1)) : sbo b N I tc R sel f l x := by
  have ht := fun k (hk : k < I) => (hT.2.1 k hk).2
  obtain ⟨k, v, k1, k2, k3, k4, k5, k6, k7⟩ := hy
  rcases Nat.lt_or_ge x (FN b N v) with g | g
  · have e : FN b N v = x + 1 := by omega
    obtain ⟨j, y, j1, j2, j3, j4, j5, j6, j7⟩ := hx
    have hj := ht j j1
    have hk := ht k k1
    rcases Nat.lt_or_ge (y + tc j - 1) v with g2 | g2
    · have := (FN_str (b := b) (N := N) g2 (show v < Wn b N by omega)).2.2.1
      omega
    · have g7 := (FN_m (b := b) (N := N) g2 (show y + tc j - 1 < Wn b N by omega)).2.2
      exact ⟨j, y, j1, j2, j3, j4, j5, j6, by omega⟩
  · exact ⟨k, v, k1, k2, k3, k4, k5, g, k7⟩
theorem on_next {b : Nat → Int} {N I f l bg en x : Nat} {tc : Nat → Nat} {R : Nat → Nat → Bool} {sel : Nat → Bool} {qt : Nat → Int} (hT : TcA (Wn b N) I tc R qt) (hl : l < Wn b N) (h2 : x + 1 < en) (hx : sba b N I tc R sel f l x ∨ sgp b N bg en (sba b N I tc R sel f l) (sbo b N I tc R sel f l) en x) : (sbo b N I tc R sel f l x ∨ sgp b N bg en (sba b N I tc R sel f l) (sbo b N I tc R sel f l) en x) ↔ (sba b N I tc R sel f l (x + 1) ∨ sgp b N bg en (sba b N I tc R sel f l) (sbo b N I tc R sel f l) en (x + 1)) := by
  constructor
  · rintro (⟨k, v, k1, k2, k3, k4, k5, k6, k7⟩ | ⟨s0, t, a1, a2, a3, a4, a5, a6, a7, a8, a9, a10⟩)
    · exact .inl ⟨k, v, k1, k2, k3, k4, k5, by omega, k7⟩
    · rcases Nat.lt_or_ge (x + 1) t with g | g
      · exact .inr ⟨s0, t, a1, a2, a3, a4, a5, a6, a7, a8, by omega, g⟩
      · rw [show x + 1 = t by omega]; exact .inl a7
  · rintro (g | ⟨s0, t, a1, a2, a3, a4, a5, a6, a7, a8, a9, a10⟩)
    · rcases hx with hx | hx
      · exact .inl (sb_pp hT hl hx g)
      · exact .inr hx
    · rcases hx with hx | hx
      · rcases Nat.lt_or_ge x s0 with g | g
        · have e : s0 = x + 1 := by omega
          rw [e] at a3
          exact .inl (sb_pp hT hl hx a3)
        · rcases Nat.eq_or_lt_of_le g with g2 | g2
          · exact .inr ⟨s0, t, a1, a2, a3, a4, a5, a6, a7, a8, by omega, by omega⟩
          · exact absurd hx (a8 x g2 (by omega)).2
      · exact .inr hx
