/-! B35: marks over the signs, as the reference lays them -/
def sba (b : Nat → Int) (N I : Nat) (tc : Nat → Nat) (R : Nat → Nat → Bool) (sel : Nat → Bool) (f l : Int) (x : Nat) : Prop := ∃ k v, k < I ∧ sel k = true ∧ R k v = true ∧ f ≤ (v : Int) ∧ ((v + tc k : Nat) : Int) ≤ l + 1 ∧ FN b N v ≤ x ∧ x < TN b N (v + tc k - 1)
def sbo (b : Nat → Int) (N I : Nat) (tc : Nat → Nat) (R : Nat → Nat → Bool) (sel : Nat → Bool) (f l : Int) (x : Nat) : Prop := ∃ k v, k < I ∧ sel k = true ∧ R k v = true ∧ f ≤ (v : Int) ∧ ((v + tc k : Nat) : Int) ≤ l + 1 ∧ FN b N v ≤ x ∧ x + 1 < TN b N (v + tc k - 1)
def LmA (bg en : Nat) (P O : Nat → Prop) (ov on : Nat → Int) : Prop := ∀ x, bg ≤ x → x < en → ov x = bI (pB (P x)) ∧ on x = bI (pB (O x))
theorem LmA.congr {bg en : Nat} {P O P' O' : Nat → Prop} {ov on : Nat → Int} (h : LmA bg en P O ov on) (hp : ∀ x, bg ≤ x → x < en → (P x ↔ P' x) ∧ (O x ↔ O' x)) : LmA bg en P' O' ov on := fun x h1 h2 => by
  rw [(h x h1 h2).1, (h x h1 h2).2, pB_congr (hp x h1 h2).1, pB_congr (hp x h1 h2).2]
  exact ⟨rfl, rfl⟩
theorem MlA_N {b : Nat → Int} {N : Nat} {wf wt9 : Nat → Int} (hW : MwA b N wf wt9) : MlA (Wn b N) (FN b N) (TN b N) wf wt9 := hW
/-- matches among the first m -/
def sbm (b : Nat → Int) (N I : Nat) (tc : Nat → Nat) (R : Nat → Nat → Bool) (sel : Nat → Bool) (f l : Int) (m x d : Nat) : Prop := ∃ j, j < m ∧ sel (mIt (Wn b N) I R j) = true ∧ f ≤ (mFi (Wn b N) I R j : Int) ∧ ((mFi (Wn b N) I R j + tc (mIt (Wn b N) I R j) : Nat) : Int) ≤ l + 1 ∧ FN b N (mFi (Wn b N) I R j) ≤ x ∧ x + d < TN b N (mFi (Wn b N) I R j + tc (mIt (Wn b N) I R j) - 1)
theorem b_Mlays {b : Nat → Int} {N I bg en : Nat} {wt tc tz : Nat → Nat} {R : Nat → Nat → Bool} {sf sel : Nat → Bool} {a1 : Int} {f l : Int} {mi mf ml im mt mfs wf wt9 ov on : Nat → Int} {Q : (Nat → Int) → (Nat → Int) → Prop} (hN : N ≤ 600) (hT : TcA (Wn b N) I tc R mt) (hM : MmA (Wn b N) I tc R mi mf ml im) (hW : MwA b N wf wt9) (hsf : ∀ k, k < I → mfs k = bI (sf k)) (hsel : ∀ k, sel k = true ↔ bI (sf k) = a1) (h0 : LmA bg en (fun _ => False) (fun _ => False) ov on)
    (hq : ∀ ov' on', LmA bg en (sba b N I tc R sel f l) (sbo b N I tc R sel f l) ov' on' → Q ov' on') : wp_M_laysMarks_0_36_38 wf wt9 mfs mi mf ml ov on (M0 (Wn b N) I R) a1 f l Q := by
  have h100 : Wn b N ≤ 100 := by unfold Wn; omega
  have hI := hT.1
  have hM0 := M0_le (Wn b N) I R
  have hF := FTo_N (b := b) hN
  unfold wp_M_laysMarks_0_36_38
  refine ⟨fun ov on x => ∃ m : Nat, x = m ∧ m ≤ M0 (Wn b N) I R ∧ LmA bg en (fun x => sbm b N I tc R sel f l m x 0) (fun x => sbm b N I tc R sel f l m x 1) ov on, fun _ _ x => M0 (Wn b N) I R - x.toNat, ⟨0, rfl, by omega, h0.congr fun x _ _ => ⟨⟨fun g => g.elim, fun ⟨j, hj, _⟩ => by omega⟩, ⟨fun g => g.elim, fun ⟨j, hj, _⟩ => by omega⟩⟩⟩, ?_⟩
  rintro ov on x ⟨m, rfl, hm, hl⟩
  refine ⟨fun h1 => hq _ _ (hl.congr fun x _ _ => ?_), fun h1 => ?_⟩
  · have em : m = M0 (Wn b N) I R := by omega
    subst em
    constructor
    · constructor
      · rintro ⟨j, j1, j2, j3, j4, j5, j6⟩
        have g := m_in j1
        exact ⟨_, _, g.1, j2, g.2.2, j3, j4, j5, j6⟩
      · rintro ⟨k, v, k1, k2, k3, k4, k5, k6, k7⟩
        have := hT.2.2 k v k1 k3
        have ht := (hT.2.1 k k1).2
        obtain ⟨j, j1, j2, j3⟩ := m_ex k1 hI (show v < Wn b N by omega) k3
        exact ⟨j, j1, by rw [j2]; exact k2, by rw [j3]; exact k4, by rw [j2, j3]; exact k5, by rw [j3]; exact k6, by rw [j2, j3]; exact k7⟩
    · constructor
      · rintro ⟨j, j1, j2, j3, j4, j5, j6⟩
        have g := m_in j1
        exact ⟨_, _, g.1, j2, g.2.2, j3, j4, j5, j6⟩
      · rintro ⟨k, v, k1, k2, k3, k4, k5, k6, k7⟩
        have := hT.2.2 k v k1 k3
        have ht := (hT.2.1 k k1).2
        obtain ⟨j, j1, j2, j3⟩ := m_ex k1 hI (show v < Wn b N by omega) k3
        exact ⟨j, j1, by rw [j2]; exact k2, by rw [j3]; exact k4, by rw [j2, j3]; exact k5, by rw [j3]; exact k6, by rw [j2, j3]; exact k7⟩
  · have hm2 : m < M0 (Wn b N) I R := by omega
    have g1 := hM.it hm2
    have g2 := m_in hm2
    have ht := (hT.2.1 _ g2.1).2
    have hend := hT.2.2 _ _ g2.1 g2.2.2
    simp only [Int.toNat_natCast]
    rw [g1.1, g1.2.1, g1.2.2]
    simp only [Int.toNat_natCast]
    rw [hsf _ g2.1]
    generalize hk : mIt (Wn b N) I R m = k at *
    generalize hv : mFi (Wn b N) I R m = v at *
    have hkk : k < I := g2.1
    have skip : ¬ (sel k = true ∧ f ≤ (v : Int) ∧ ((v + tc k : Nat) : Int) ≤ l + 1) → LmA bg en (fun x => sbm b N I tc R sel f l (m + 1) x 0) (fun x => sbm b N I tc R sel f l (m + 1) x 1) ov on := by
      intro hn
      have e : ∀ x d, sbm b N I tc R sel f l m x d ↔ sbm b N I tc R sel f l (m + 1) x d := by
        intro x d
        constructor
        · rintro ⟨j, j1, j2⟩; exact ⟨j, by omega, j2⟩
        · rintro ⟨j, j1, j2, j3, j4, j5⟩
          by_cases ej : j = m
          · rw [ej, hk, hv] at j4
            rw [ej, hk] at j2
            rw [ej, hv] at j3
            exact absurd ⟨j2, j3, j4⟩ hn
          · exact ⟨j, by omega, j2, j3, j4, j5⟩
      exact hl.congr fun x _ _ => ⟨e x 0, e x 1⟩
    have go : ∀ ov' on', LmA bg en (fun x => sbm b N I tc R sel f l (m + 1) x 0) (fun x => sbm b N I tc R sel f l (m + 1) x 1) ov' on' → rng ((m : Int) + 1) ∧ (∃ m' : Nat, (m : Int) + 1 = m' ∧ m' ≤ M0 (Wn b N) I R ∧ LmA bg en (fun x => sbm b N I tc R sel f l m' x 0) (fun x => sbm b N I tc R sel f l m' x 1) ov' on') ∧ M0 (Wn b N) I R - ((m : Int) + 1).toNat < M0 (Wn b N) I R - (m : Int).toNat := fun ov' on' h => ⟨⟨by omega, by omega⟩, ⟨m + 1, by omega, by omega, h⟩, by omega⟩
    refine ⟨⟨by omega, by omega⟩, ⟨by omega, by omega⟩, jn2_i ⟨fun h2 => go _ _ (skip fun g => h2 ((hsel k).mp g.1)), fun h2 => ⟨⟨by omega, by omega⟩, fun h3 => go _ _ (skip fun g => by omega), fun h3 => ⟨⟨by omega, by omega⟩, fun h4 => ⟨⟨by omega, by omega⟩, ⟨by omega, by omega⟩, ⟨by omega, by omega⟩, ⟨by omega, by omega⟩, ?_⟩, fun h4 => go _ _ (skip fun g => by omega)⟩⟩⟩⟩
    have hsk : sel k = true := (hsel k).mpr h2
    have e1 : wf v = (FN b N v : Int) := (hW v (by omega)).1
    have e2 : wt9 (v + tc k - 1) = (TN b N (v + tc k - 1) : Int) := (hW _ (by omega)).2
    rw [e1, e2]
    have tb := (hF.2.1 (v + tc k - 1) (by omega)).2
    have fb := (hF.mT (show v ≤ v + tc k - 1 by omega) (by omega)).2
    have fb2 := hF.2.1 (v + tc k - 1) (by omega)
    generalize hE : TN b N (v + tc k - 1) = E at *
    generalize hB : FN b N v = B at *
    refine ⟨fun ov on x => ∃ j : Nat, x = j ∧ B ≤ j ∧ j ≤ E ∧ LmA bg en (fun x => sbm b N I tc R sel f l m x 0 ∨ (B ≤ x ∧ x < j)) (fun x => sbm b N I tc R sel f l m x 1 ∨ (B ≤ x ∧ x < j ∧ x + 1 < E)) ov on, fun _ _ x => E - x.toNat, ⟨B, rfl, Nat.le_refl _, by omega, hl.congr fun x _ _ => ⟨⟨.inl, fun g => g.elim id fun g => by omega⟩, ⟨.inl, fun g => g.elim id fun g => by omega⟩⟩⟩, ?_⟩
    rintro ov on x ⟨j, rfl, hj1, hj2, hl2⟩
    refine ⟨fun h5 => go _ _ (hl2.congr fun x _ _ => ?_), fun h5 => ⟨⟨by omega, by omega⟩, ⟨by omega, by omega⟩, ?_⟩⟩
    · have ej : j = E := by omega
      subst ej
      constructor
      · constructor
        · rintro (⟨i, i1, i2⟩ | ⟨i1, i2⟩)
          · exact ⟨i, by omega, i2⟩
          · exact ⟨m, by omega, by rw [hk]; exact hsk, by rw [hv]; omega, by rw [hk, hv]; omega, by rw [hv, hB]; exact i1, by rw [hk, hv, hE]; omega⟩
        · rintro ⟨i, i1, i2, i3, i4, i5, i6⟩
          by_cases ei : i = m
          · rw [ei, hv, hB] at i5
            rw [ei, hk, hv, hE] at i6
            exact .inr ⟨i5, by omega⟩
          · exact .inl ⟨i, by omega, i2, i3, i4, i5, i6⟩
      · constructor
        · rintro (⟨i, i1, i2⟩ | ⟨i1, i2, i3⟩)
          · exact ⟨i, by omega, i2⟩
          · exact ⟨m, by omega, by rw [hk]; exact hsk, by rw [hv]; omega, by rw [hk, hv]; omega, by rw [hv, hB]; exact i1, by rw [hk, hv, hE]; omega⟩
        · rintro ⟨i, i1, i2, i3, i4, i5, i6⟩
          by_cases ei : i = m
          · rw [ei, hv, hB] at i5
            rw [ei, hk, hv, hE] at i6
            exact .inr ⟨i5, by omega, i6⟩
          · exact .inl ⟨i, by omega, i2, i3, i4, i5, i6⟩
    · have upd : ∀ y : Int, (bg ≤ j → j < en → y = bI (pB (sbm b N I tc R sel f l m j 1 ∨ j + 1 < E))) → 0 ≤ y ∧ y ≤ 1 → ((0 ≤ (j : Int) ∧ (j : Int) < 601) ∧ 0 ≤ y ∧ y ≤ 1) ∧ rng ((j : Int) + 1) ∧ (∃ j' : Nat, (j : Int) + 1 = j' ∧ B ≤ j' ∧ j' ≤ E ∧ LmA bg en (fun x => sbm b N I tc R sel f l m x 0 ∨ (B ≤ x ∧ x < j')) (fun x => sbm b N I tc R sel f l m x 1 ∨ (B ≤ x ∧ x < j' ∧ x + 1 < E)) (uI ov j 1) (uI on j y)) ∧ E - ((j : Int) + 1).toNat < E - (j : Int).toNat := by
        intro y hy hyb
        refine ⟨⟨⟨by omega, by omega⟩, hyb⟩, ⟨by omega, by omega⟩, ⟨j + 1, by omega, by omega, by omega, fun x hx1 hx2 => ?_⟩, by omega⟩
        by_cases ex : x = j
        · subst ex
          rw [uI_e rfl, uI_e rfl, hy hx1 hx2, pB_t (.inr ⟨hj1, by omega⟩)]
          refine ⟨rfl, congrArg bI (pB_congr ⟨fun g => g.elim .inl fun g => .inr ⟨hj1, by omega, g⟩, fun g => g.elim .inl fun g => .inr g.2.2⟩)⟩
        · rw [uI_n (by omega) (by omega), uI_n (by omega) (by omega), (hl2 x hx1 hx2).1, (hl2 x hx1 hx2).2]
          exact ⟨congrArg bI (pB_congr ⟨fun g => g.elim .inl fun g => .inr (by omega), fun g => g.elim .inl fun g => .inr (by omega)⟩), congrArg bI (pB_congr ⟨fun g => g.elim .inl fun g => .inr (by omega), fun g => g.elim .inl fun g => .inr (by omega)⟩)⟩
      rw [Int.toNat_natCast]
      refine jn1_i ?_
      refine ⟨(bg ≤ j → j < en → (1 : Int) = bI (pB (sbm b N I tc R sel f l m j 1 ∨ j + 1 < E))), fun g => upd 1 g (by omega), fun h6 => fun a1 a2 => ?_, fun h6 => ⟨⟨by omega, by omega⟩, fun h7 => upd 0 (fun a1 a2 => ?_) (by omega), fun h7 => fun a1 a2 => ?_⟩⟩
      · rw [(hl2 j a1 a2).2] at h6
        have := pB_iff.mp (bI_1 h6)
        rw [pB_t]
        · rfl
        · exact this.elim .inl fun g => by omega
      · rw [(hl2 j a1 a2).2] at h6
        rw [pB_f]
        · rfl
        · intro g
          have h8 := bI_0 h6
          rw [pB_t] at h8
          · cases h8
          · exact g.elim .inl fun g => by omega
      · rw [pB_t (.inr (by omega))]; rfl
/-- gaps of blanks between marks -/
def sgp (b : Nat → Int) (N bg en : Nat) (P O : Nat → Prop) (m x : Nat) : Prop := ∃ s0 t, bg ≤ s0 ∧ s0 < m ∧ P s0 ∧ ¬ O s0 ∧ s0 < t ∧ t < en ∧ P t ∧ (∀ u, s0 < u → u < t → blk (atv b N (ps b N u)) = true ∧ ¬ P u) ∧ s0 ≤ x ∧ x < t
theorem b_Mmerges {b : Nat → Int} {N bg en : Nat} {pg sa ov on : Nat → Int} {P O : Nat → Prop} {Q : (Nat → Int) → (Nat → Int) → Prop} (hN : N ≤ 600) (hp : PgE b N pg) (hm : MsA b N sa) (hen : en ≤ sgn b N N) (h : LmA bg en P O ov on)
    (hq : ∀ ov' on', LmA bg en (fun x => P x ∨ sgp b N bg en P O en x) (fun x => O x ∨ sgp b N bg en P O en x) ov' on' → Q ov' on') : wp_M_merges_0_36_38 pg sa ov on (sgn b N N) bg en Q := by
  have hsN := sgn_le b N N
  unfold wp_M_merges_0_36_38
  refine ⟨fun ov on x => ∃ s : Nat, x = s ∧ bg ≤ s ∧ (s ≤ en ∨ s = bg) ∧ LmA bg en (fun x => P x ∨ sgp b N bg en P O s x) (fun x => O x ∨ sgp b N bg en P O s x) ov on, fun _ _ x => en - x.toNat, ⟨bg, rfl, Nat.le_refl _, .inr rfl, h.congr fun x _ _ => ?_⟩, ?_⟩
  · have no : ¬ sgp b N bg en P O bg x := by rintro ⟨s0, t, a1, a2, _⟩; omega
    exact ⟨⟨.inl, fun g => g.elim id fun g => absurd g no⟩, ⟨.inl, fun g => g.elim id fun g => absurd g no⟩⟩
  rintro ov on x ⟨s, rfl, hs1, hs2, hl⟩
  refine ⟨fun h1 => hq _ _ (hl.congr fun x hx1 hx2 => ?_), fun h1 => ⟨⟨by omega, by omega⟩, ?_⟩⟩
  · have e : sgp b N bg en P O s x ↔ sgp b N bg en P O en x := by
      constructor
      · rintro ⟨s0, t, a1, a2, a3, a4, a5, a6, a7⟩; exact ⟨s0, t, a1, by omega, a3, a4, a5, a6, a7⟩
      · rintro ⟨s0, t, a1, a2, a3, a4, a5, a6, a7⟩; exact ⟨s0, t, a1, by omega, a3, a4, a5, a6, a7⟩
    exact ⟨⟨fun g => g.elim .inl fun g => .inr (e.mp g), fun g => g.elim .inl fun g => .inr (e.mpr g)⟩, ⟨fun g => g.elim .inl fun g => .inr (e.mp g), fun g => g.elim .inl fun g => .inr (e.mpr g)⟩⟩
  · have hsl := hl s hs1 (by omega)
    have go : ∀ ov' on', LmA bg en (fun x => P x ∨ sgp b N bg en P O (s + 1) x) (fun x => O x ∨ sgp b N bg en P O (s + 1) x) ov' on' → rng ((s : Int) + 1) ∧ (∃ s' : Nat, (s : Int) + 1 = s' ∧ bg ≤ s' ∧ (s' ≤ en ∨ s' = bg) ∧ LmA bg en (fun x => P x ∨ sgp b N bg en P O s' x) (fun x => O x ∨ sgp b N bg en P O s' x) ov' on') ∧ en - ((s : Int) + 1).toNat < en - (s : Int).toNat := fun ov' on' hl' => ⟨⟨by omega, by omega⟩, ⟨s + 1, by omega, by omega, by omega, hl'⟩, by omega⟩
    have old : ∀ x, sgp b N bg en P O s x → sgp b N bg en P O (s + 1) x := by
      rintro x ⟨s0, t, a1, a2, a3⟩; exact ⟨s0, t, a1, by omega, a3⟩
    have skip : (¬ ∃ t, P s ∧ ¬ O s ∧ s < t ∧ t < en ∧ P t ∧ ∀ u, s < u → u < t → blk (atv b N (ps b N u)) = true ∧ ¬ P u) → LmA bg en (fun x => P x ∨ sgp b N bg en P O (s + 1) x) (fun x => O x ∨ sgp b N bg en P O (s + 1) x) ov on := by
      intro hn
      have e : ∀ x, sgp b N bg en P O s x ↔ sgp b N bg en P O (s + 1) x := by
        intro x
        refine ⟨old x, ?_⟩
        rintro ⟨s0, t, a1, a2, a3, a4, a5, a6, a7, a8, a9⟩
        by_cases e0 : s0 = s
        · subst e0; exact absurd ⟨t, a3, a4, a5, a6, a7, a8⟩ hn
        · exact ⟨s0, t, a1, by omega, a3, a4, a5, a6, a7, a8, a9⟩
      exact hl.congr fun x _ _ => ⟨⟨fun g => g.elim .inl fun g => .inr ((e x).mp g), fun g => g.elim .inl fun g => .inr ((e x).mpr g)⟩, ⟨fun g => g.elim .inl fun g => .inr ((e x).mp g), fun g => g.elim .inl fun g => .inr ((e x).mpr g)⟩⟩
    simp only [Int.toNat_natCast]
    rw [hsl.1, hsl.2]
    refine jn2_i ⟨fun h2 => go _ _ (skip ?_), fun h2 => ⟨⟨by omega, by omega⟩, fun h3 => ?_, fun h3 => go _ _ (skip ?_)⟩⟩
    · rintro ⟨t, a1, _⟩
      have := bI_0 h2
      rw [pB_t (.inl a1)] at this; cases this
    · have h2 := pB_iff.mp (bI_1 h2)
      have h3 : ¬ (O s ∨ sgp b N bg en P O s s) := fun g => by have := bI_0 h3; rw [pB_t g] at this; cases this
      have hPs : P s := h2.elim id fun g => absurd (.inr g) h3
      have hOs : ¬ O s := fun g => h3 (.inl g)
      -- behind s nothing is filled yet
      have clean : ∀ u, s < u → ¬ sgp b N bg en P O s u := by
        rintro u hu ⟨s0, t, a1, a2, a3, a4, a5, a6, a7, a8, a9, a10⟩
        exact (a8 s (by omega) (by omega)).2 hPs
      refine ⟨⟨by omega, by omega⟩, ?_⟩
      refine ⟨fun x => ∃ t : Nat, x = t ∧ s < t ∧ t ≤ en ∧ ∀ u, s < u → u < t → blk (atv b N (ps b N u)) = true ∧ ¬ P u, fun x => en - x.toNat, ⟨s + 1, by omega, by omega, by omega, fun u hu1 hu2 => by omega⟩, ?_⟩
      rintro x ⟨t, rfl, ht1, ht2, hbl⟩
      have pt : t < en → (ov t = 0 ↔ ¬ P t) := by
        intro hte
        rw [(hl t (by omega) hte).1]
        constructor
        · intro g gp
          have := bI_0 g
          rw [pB_t (.inl gp)] at this; cases this
        · intro g
          rw [pB_f]
          · rfl
          · exact fun g2 => g2.elim g (clean t ht1)
      refine ⟨t = en ∨ (t < en ∧ (blk (atv b N (ps b N t)) = false ∨ P t)), fun hend => ?_, fun h4 => .inl (by omega), fun h4 => b_Mblk hN hp hm (by omega) ⟨fun h5 => .inr ⟨by omega, .inl (bI_0 h5)⟩, fun h5 => ⟨⟨by omega, by omega⟩, ?_⟩⟩⟩
      · simp only [Int.toNat_natCast]
        refine ⟨fun h4 => go _ _ (skip ?_), fun h4 => ⟨⟨by omega, by omega⟩, fun h5 => ?_, fun h5 => go _ _ (skip ?_)⟩⟩
        · rintro ⟨t', c1, c2, c3, c4, c5, c6⟩
          exact (hbl t' c3 (by omega)).2 c5
        · have hte : t < en := by omega
          have hPt : P t := Classical.byContradiction fun g => h5 ((pt hte).mpr g)
          refine ⟨fun ov2 on2 x => ∃ j : Nat, x = j ∧ s ≤ j ∧ j ≤ t ∧ LmA bg en (fun x => (P x ∨ sgp b N bg en P O s x) ∨ (s ≤ x ∧ x < j)) (fun x => (O x ∨ sgp b N bg en P O s x) ∨ (s ≤ x ∧ x < j)) ov2 on2, fun _ _ x => t - x.toNat, ⟨s, rfl, Nat.le_refl _, by omega, hl.congr fun x _ _ => ⟨⟨.inl, fun g => g.elim id fun g => by omega⟩, ⟨.inl, fun g => g.elim id fun g => by omega⟩⟩⟩, ?_⟩
          rintro ov2 on2 x ⟨j, rfl, hj1, hj2, hl2⟩
          refine ⟨fun h6 => go _ _ (hl2.congr fun x hx1 hx2 => ?_), fun h6 => ⟨⟨by omega, by omega⟩, ⟨by omega, by omega⟩, ⟨by omega, by omega⟩, ⟨j + 1, by omega, by omega, by omega, fun x hx1 hx2 => ?_⟩, by (try dsimp only); omega⟩⟩
          · have ej : j = t := by omega
            subst ej
            have e : (sgp b N bg en P O s x ∨ (s ≤ x ∧ x < j)) ↔ sgp b N bg en P O (s + 1) x := by
              constructor
              · rintro (g | g)
                · exact old x g
                · exact ⟨s, j, hs1, by omega, hPs, hOs, ht1, hte, hPt, hbl, g⟩
              · rintro ⟨s0, t', c1, c2, c3, c4, c5, c6, c7, c8, c9, c10⟩
                by_cases e0 : s0 = s
                · subst e0
                  right
                  refine ⟨c9, ?_⟩
                  rcases Nat.lt_or_ge j t' with g | g
                  · exact absurd hPt (c8 j ht1 g).2
                  · omega
                · exact .inl ⟨s0, t', c1, by omega, c3, c4, c5, c6, c7, c8, c9, c10⟩
            exact ⟨⟨fun g => g.elim (fun g => g.elim .inl fun g => .inr (e.mp (.inl g))) fun g => .inr (e.mp (.inr g)), fun g => g.elim (fun g => .inl (.inl g)) fun g => (e.mpr g).elim (fun g => .inl (.inr g)) .inr⟩, ⟨fun g => g.elim (fun g => g.elim .inl fun g => .inr (e.mp (.inl g))) fun g => .inr (e.mp (.inr g)), fun g => g.elim (fun g => .inl (.inl g)) fun g => (e.mpr g).elim (fun g => .inl (.inr g)) .inr⟩⟩
          · by_cases ex : x = j
            · subst ex
              rw [uI_e rfl, uI_e rfl, pB_t (.inr ⟨hj1, by omega⟩), pB_t (.inr ⟨hj1, by omega⟩)]
              exact ⟨rfl, rfl⟩
            · rw [uI_n (by omega) (by omega), uI_n (by omega) (by omega), (hl2 x hx1 hx2).1, (hl2 x hx1 hx2).2]
              exact ⟨congrArg bI (pB_congr ⟨fun g => g.elim .inl fun g => .inr (by omega), fun g => g.elim .inl fun g => .inr (by omega)⟩), congrArg bI (pB_congr ⟨fun g => g.elim .inl fun g => .inr (by omega), fun g => g.elim .inl fun g => .inr (by omega)⟩)⟩
        · have hte : t < en := by omega
          have hnP := (pt hte).mp h5
          rintro ⟨t', c1, c2, c3, c4, c5, c6⟩
          rcases Nat.lt_trichotomy t' t with g | g | g
          · exact (hbl t' c3 g).2 c5
          · rw [g] at c5; exact hnP c5
          · rcases hend with e | ⟨_, e | e⟩
            · omega
            · have := (c6 t ht1 g).1; rw [e] at this; cases this
            · exact hnP e
      · rw [Int.toNat_natCast]
        have hte : t < en := by omega
        refine ⟨fun h6 => .inr ⟨hte, .inr (Classical.byContradiction fun g => h6 ((pt hte).mpr g))⟩, fun h6 => ⟨⟨by omega, by omega⟩, ⟨t + 1, by omega, by omega, by omega, fun u hu1 hu2 => ?_⟩, by (try dsimp only); omega⟩⟩
        by_cases eu : u = t
        · rw [eu]; exact ⟨bI_1 h5, (pt hte).mp h6⟩
        · exact hbl u hu1 (by omega)
    · rintro ⟨t, a1, a2, _⟩
      have h3 := pB_iff.mp (bI_1 h3)
      rcases h3 with g | ⟨s0, t', c1, c2, c3, c4, c5, c6, c7, c8, c9, c10⟩
      · exact a2 g
      · exact (c8 s (by omega) c10).2 a1
