/-! B31: marks over the bytes, as the class lays them -/
noncomputable def pB (P : Prop) : Bool := @decide P (Classical.propDecidable P)
theorem pB_iff {P : Prop} : pB P = true ↔ P := by
  unfold pB
  exact @decide_eq_true_iff P (Classical.propDecidable P)
theorem pB_t {P : Prop} (h : P) : pB P = true := pB_iff.mpr h
theorem pB_f {P : Prop} (h : ¬ P) : pB P = false := by
  cases e : pB P
  · rfl
  · exact absurd (pB_iff.mp e) h
theorem pB_congr {P Q : Prop} (h : P ↔ Q) : pB P = pB Q := by rw [propext h]
theorem pB_or {P Q : Prop} {c : Bool} (h : c = true ↔ Q) : (pB P || c) = pB (P ∨ Q) := by
  rw [Bool.eq_iff_iff, Bool.or_eq_true, pB_iff, pB_iff, h]
def bas (b : Nat → Int) (N I : Nat) (tc : Nat → Nat) (R : Nat → Nat → Bool) (sel : Nat → Bool) (l i : Nat) : Prop := ∃ k v, k < I ∧ sel k = true ∧ R k v = true ∧ v + tc k ≤ l + 1 ∧ wBg b N v ≤ i ∧ i < wEn b N (v + tc k - 1)
def Rf (R : Nat → Nat → Bool) (f : Nat) : Nat → Nat → Bool := fun k v => R k v && decide (f ≤ v)
def gpm (b : Nat → Int) (N : Nat) (B : Nat → Prop) (f l i : Nat) : Prop := ∃ w, f ≤ w ∧ w < l ∧ so b N w = so b N (w + 1) ∧ fnb b N (wEn b N w) = wBg b N (w + 1) ∧ wEn b N w ≤ i ∧ i < wBg b N (w + 1) ∧ B (wEn b N w - 1) ∧ B (wBg b N (w + 1))
noncomputable def mrk (b : Nat → Int) (N I : Nat) (tc : Nat → Nat) (R : Nat → Nat → Bool) (sel : Nat → Bool) (f l i : Nat) : Bool := pB (bas b N I tc (Rf R f) sel l i ∨ gpm b N (bas b N I tc (Rf R f) sel l) f l i)
def LyA (lo hi : Nat) (la0 : Nat → Int) (S T : Nat → Bool) (la : Nat → Int) : Prop := (∀ i, lo ≤ i → i < hi → la i = (mkk (S i) (T i) : Nat)) ∧ ∀ i, ¬ (lo ≤ i ∧ i < hi) → la i = la0 i
theorem LyA.congr {lo hi : Nat} {la0 : Nat → Int} {S T S' T' : Nat → Bool} {la : Nat → Int} (h : LyA lo hi la0 S T la) (hs : ∀ i, lo ≤ i → i < hi → S i = S' i ∧ T i = T' i) : LyA lo hi la0 S' T' la := ⟨fun i h1 h2 => by rw [h.1 i h1 h2, (hs i h1 h2).1, (hs i h1 h2).2], h.2⟩
theorem mkk_or : ∀ s t s' t' : Bool, iOr ((mkk s t : Nat) : Int) ((mkk s' t' : Nat) : Int) = ((mkk (s || s') (t || t') : Nat) : Int) := by decide +kernel
theorem mkk_and : ∀ s t s' t' : Bool, iAnd ((mkk s t : Nat) : Int) ((mkk s' t' : Nat) : Int) = ((mkk (s && s') (t && t') : Nat) : Int) := by decide +kernel
def inB (B E i : Nat) : Bool := decide (B ≤ i ∧ i < E)
theorem b_layOver {lo hi B E : Nat} {la0 la : Nat → Int} {S T : Nat → Bool} {zs zt : Bool} {Q : (Nat → Int) → Prop} (hh : hi ≤ 600) (hB : lo ≤ B) (hE : E ≤ hi) (h : LyA lo hi la0 S T la) (hq : ∀ la', LyA lo hi la0 (fun i => S i || (zs && inB B E i)) (fun i => T i || (zt && inB B E i)) la' → Q la') : wp_Writer_layOver la B E ((mkk zs zt : Nat) : Int) Q := by
  unfold wp_Writer_layOver
  refine ⟨fun la x => ∃ j : Nat, x = j ∧ B ≤ j ∧ (j ≤ E ∨ j = B) ∧ LyA lo hi la0 (fun i => S i || (zs && inB B j i)) (fun i => T i || (zt && inB B j i)) la, fun _ x => E - x.toNat, ⟨B, rfl, Nat.le_refl _, .inr rfl, h.congr fun i _ _ => ?_⟩, ?_⟩
  · unfold inB; rw [decide_eq_false (by omega), Bool.and_false, Bool.and_false, Bool.or_false, Bool.or_false]; exact ⟨rfl, rfl⟩
  rintro la x ⟨j, rfl, hj1, hj2, hl⟩
  refine ⟨fun h1 => hq _ (hl.congr fun i _ _ => ?_), fun h1 => ⟨⟨by omega, by omega⟩, ⟨by omega, by omega⟩, ⟨by omega, by omega⟩, ⟨j + 1, by omega, by omega, by omega, fun i hi1 hi2 => ?_, fun i hi1 => ?_⟩, by (try dsimp only); omega⟩⟩
  · have e : inB B j i = inB B E i := decide_eq_decide.mpr (by omega)
    rw [e]; exact ⟨rfl, rfl⟩
  · have e0 : inB B j j = false := decide_eq_false (by omega)
    by_cases e : i = j
    · subst e
      have e1 : inB B (i + 1) i = true := decide_eq_true (by omega)
      rw [uI_e rfl, Int.toNat_natCast, hl.1 i hi1 hi2, mkk_or]
      dsimp only
      rw [e0, e1]
      simp
    · have e1 : inB B (j + 1) i = inB B j i := decide_eq_decide.mpr (by omega)
      rw [uI_n (by omega) (by omega), hl.1 i hi1 hi2]
      dsimp only
      rw [e1]
  · rw [uI_n (by omega) (by omega)]; exact hl.2 i hi1
theorem b_isStrong {qf : Int} {k : Nat} {sf : Nat → Bool} {Q : Int → Prop} (hk : k < 8) (hs : ib qf k = sf k) (hq : Q (bI (!sf k))) : wp_Query_isStrong qf k Q := by
  unfold wp_Query_isStrong
  refine b_HasI (by omega) ⟨fun h => qe hq ?_, fun h => qe hq ?_⟩
  · rw [hs] at h; rw [bI_1 h]; rfl
  · rw [hs] at h; rw [bI_0 h]; rfl
def stg (sf : Nat → Bool) (k : Nat) : Bool := !sf k
theorem wEn_in {b : Nat → Int} {N v w : Nat} (h : v ≤ w) (hw : w < Wn b N) : wBg b N v < wEn b N w ∧ wEn b N v ≤ wEn b N w ∧ wBg b N v ≤ wBg b N w := by
  have h1 := wd_lt hw
  have h2 := wd_lt (show v < Wn b N by omega)
  rcases Nat.eq_or_lt_of_le h with e | e
  · rw [e]; omega
  · have := wd_next e hw; omega
/-- a word's byte lies in no gap -/
theorem gap_not {b : Nat → Int} {N : Nat} {B : Nat → Prop} {f l w i : Nat} (hl : l < Wn b N) (hw : w < Wn b N) (h1 : wBg b N w ≤ i) (h2 : i < wEn b N w) : ¬ gpm b N B f l i := by
  rintro ⟨u, u1, u2, u3, u4, u5, u6, _⟩
  rcases Nat.lt_or_ge u w with e | e
  · have := (wEn_in (b := b) (N := N) (show u + 1 ≤ w by omega) hw).2.2
    omega
  · have := (wEn_in (b := b) (N := N) e (show u < Wn b N by omega)).2.1
    omega
theorem b_layBetween {b wb we ws la la0 : Nat → Int} {N lo hi w : Nat} {S T : Nat → Bool} {Q : (Nat → Int) → Prop} (hB : Byt b N) (hW : WdA b N wb we) (hS : ∀ w, w < Wn b N → ws w = so b N w) (hw : w + 1 < Wn b N) (hlo : lo ≤ wBg b N w) (hhi : wEn b N (w + 1) ≤ hi) (hh : hi ≤ 600) (h : LyA lo hi la0 S T la)
    (hq1 : so b N w = so b N (w + 1) → fnb b N (wEn b N w) = wBg b N (w + 1) → ∀ la', LyA lo hi la0 (fun i => S i || ((S (wEn b N w - 1) && S (wBg b N (w + 1))) && inB (wEn b N w) (wBg b N (w + 1)) i)) (fun i => T i || ((T (wEn b N w - 1) && T (wBg b N (w + 1))) && inB (wEn b N w) (wBg b N (w + 1)) i)) la' → Q la')
    (hq2 : ¬ (so b N w = so b N (w + 1) ∧ fnb b N (wEn b N w) = wBg b N (w + 1)) → Q la) : wp_Writer_layBetween b wb we ws la N w Q := by
  have hN := hB.1
  have h100 : Wn b N ≤ 100 := by unfold Wn; omega
  have w1 := wd_lt (show w < Wn b N by omega)
  have w2 := wd_lt hw
  have w3 := wd_next (show w < w + 1 by omega) hw
  unfold wp_Writer_layBetween
  rw [show (w : Int) + 1 = ((w + 1 : Nat) : Int) by omega]
  simp only [Int.toNat_natCast]
  rw [hS w (by omega), hS (w + 1) hw, (hW w (by omega)).2, (hW (w + 1) hw).1]
  refine ⟨⟨by omega, by omega⟩, ⟨by omega, by omega⟩, ⟨by omega, by omega⟩, ⟨by omega, by omega⟩, ⟨by omega, by omega⟩, ⟨by omega, by omega⟩, fun h1 => hq2 fun g => h1 g.1, fun h1 => b_fnb hN (by omega) ⟨fun h2 => hq2 fun g => h2 (by rw [g.2]), fun h2 => ⟨⟨by omega, by omega⟩, ⟨by omega, by omega⟩, ⟨by omega, by omega⟩, ?_⟩⟩⟩
  rw [show (((wEn b N w : Nat) : Int) - 1).toNat = wEn b N w - 1 by omega, Int.toNat_natCast, h.1 (wEn b N w - 1) (by omega) (by omega), h.1 (wBg b N (w + 1)) (by omega) (by omega), mkk_and]
  exact b_layOver hh (by omega) (by omega) h fun la' hl => hq1 h1 (by omega) la' hl
theorem b_layMarks {b wb we ws qt bg la : Nat → Int} {N I f l lo hi : Nat} {tc : Nat → Nat} {R : Nat → Nat → Bool} {sf : Nat → Bool} {qf : Int} {Q : (Nat → Int) → Prop} (hB : Byt b N) (hW : WdA b N wb we) (hS : ∀ w, w < Wn b N → ws w = so b N w) (hT : TcA (Wn b N) I tc R qt) (hbg : ∀ v, v < Wn b N → bg v = bs (fun k => R k v) I) (hsf : ∀ k, k < I → ib qf k = sf k) (hfl : f ≤ l) (hl : l < Wn b N) (hlo : lo ≤ wBg b N f) (hhi : wEn b N l ≤ hi) (hh : hi ≤ 600) (hz : ∀ i, lo ≤ i → i < hi → la i = 0)
    (hq : ∀ la', LyA lo hi la (mrk b N I tc R (stg sf) f l) (mrk b N I tc R sf f l) la' → Q la') : wp_Writer_layMarks b wb we ws qt bg la N qf I f l Q := by
  have h100 : Wn b N ≤ 100 := by unfold Wn; omega
  have hI := hT.1
  unfold wp_Writer_layMarks
  rw [show max (f : Int) 0 = (f : Int) by omega]
  refine ⟨fun la' x => ∃ w : Nat, x = w ∧ f ≤ w ∧ w ≤ l + 1 ∧ LyA lo hi la (fun i => pB (bas b N I tc (rsf (Rf R f) (8 * w)) (stg sf) l i)) (fun i => pB (bas b N I tc (rsf (Rf R f) (8 * w)) sf l i)) la', fun _ x => l + 1 - x.toNat, ⟨f, rfl, Nat.le_refl _, by omega, fun i h1 h2 => ?_, fun i _ => rfl⟩, ?_⟩
  · have no : ∀ sel, ¬ bas b N I tc (rsf (Rf R f) (8 * f)) sel l i := by
      rintro sel ⟨k, v, _, _, h3, _⟩
      unfold rsf Rf at h3
      rw [Bool.and_eq_true, Bool.and_eq_true, decide_eq_true_iff, decide_eq_true_iff] at h3
      omega
    rw [hz i h1 h2]
    dsimp only
    rw [pB_f (no _), pB_f (no _)]; rfl
  rintro la1 x ⟨w, rfl, hw1, hw2, hl1⟩
  refine ⟨fun h1 => ?_, fun h1 => ?_⟩
  · have ew : w = l + 1 := by omega
    subst ew
    have hbase : ∀ sel i, bas b N I tc (rsf (Rf R f) (8 * (l + 1))) sel l i ↔ bas b N I tc (Rf R f) sel l i := by
      intro sel i
      constructor
      · rintro ⟨k, v, k1, k2, k3, k4⟩
        unfold rsf at k3
        rw [Bool.and_eq_true] at k3
        exact ⟨k, v, k1, k2, k3.1, k4⟩
      · rintro ⟨k, v, k1, k2, k3, k4, k5⟩
        have := (hT.2.1 k k1).2
        exact ⟨k, v, k1, k2, by unfold rsf; rw [k3, decide_eq_true (by omega)]; rfl, k4, k5⟩
    refine ⟨fun la' x => ∃ w : Nat, x = w ∧ f ≤ w ∧ w ≤ l ∧ LyA lo hi la (fun i => pB (bas b N I tc (Rf R f) (stg sf) l i ∨ gpm b N (bas b N I tc (Rf R f) (stg sf) l) f w i)) (fun i => pB (bas b N I tc (Rf R f) sf l i ∨ gpm b N (bas b N I tc (Rf R f) sf l) f w i)) la', fun _ x => l - x.toNat, ⟨f, rfl, Nat.le_refl _, hfl, hl1.congr fun i _ _ => ?_⟩, ?_⟩
    · have no : ∀ B, ¬ gpm b N B f f i := by rintro B ⟨u, u1, u2, _⟩; omega
      exact ⟨pB_congr ⟨fun g => .inl ((hbase _ i).mp g), fun g => g.elim (fun g => (hbase _ i).mpr g) fun g => absurd g (no _)⟩, pB_congr ⟨fun g => .inl ((hbase _ i).mp g), fun g => g.elim (fun g => (hbase _ i).mpr g) fun g => absurd g (no _)⟩⟩
    rintro la2 x ⟨w, rfl, hw1, hw2, hl2⟩
    refine ⟨fun h2 => hq _ ?_, fun h2 => ?_⟩
    · rw [show w = l by omega] at hl2; exact hl2
    · have k1 := wEn_in (b := b) (N := N) hw1 (show w < Wn b N by omega)
      have k2 := wEn_in (b := b) (N := N) (show w + 1 ≤ l by omega) hl
      have k3 := wd_lt (show w < Wn b N by omega)
      have k4 := wd_lt (show w + 1 < Wn b N by omega)
      have ka : ∀ B : Nat → Prop, ¬ gpm b N B f w (wEn b N w - 1) := fun B => gap_not (w := w) (by omega) (by omega) (by omega) (by omega)
      have kb : ∀ B : Nat → Prop, ¬ gpm b N B f w (wBg b N (w + 1)) := fun B => gap_not (w := w + 1) (by omega) (by omega) (by omega) (by omega)
      have stp9 : ∀ (B : Nat → Prop) (i : Nat), so b N w = so b N (w + 1) → fnb b N (wEn b N w) = wBg b N (w + 1) → (pB (B i ∨ gpm b N B f w i) || ((pB (B (wEn b N w - 1) ∨ gpm b N B f w (wEn b N w - 1)) && pB (B (wBg b N (w + 1)) ∨ gpm b N B f w (wBg b N (w + 1)))) && inB (wEn b N w) (wBg b N (w + 1)) i)) = pB (B i ∨ gpm b N B f (w + 1) i) := by
        intro B i e1 e2
        have hc : ((pB (B (wEn b N w - 1) ∨ gpm b N B f w (wEn b N w - 1)) && pB (B (wBg b N (w + 1)) ∨ gpm b N B f w (wBg b N (w + 1)))) && inB (wEn b N w) (wBg b N (w + 1)) i) = true ↔ (B (wEn b N w - 1) ∧ B (wBg b N (w + 1)) ∧ wEn b N w ≤ i ∧ i < wBg b N (w + 1)) := by
          rw [Bool.and_eq_true, Bool.and_eq_true, pB_iff, pB_iff]
          unfold inB
          rw [decide_eq_true_iff]
          constructor
          · rintro ⟨⟨g1, g2⟩, g3⟩
            exact ⟨g1.elim id (fun g => absurd g (ka B)), g2.elim id (fun g => absurd g (kb B)), g3⟩
          · rintro ⟨g1, g2, g3⟩
            exact ⟨⟨.inl g1, .inl g2⟩, g3⟩
        rw [pB_or hc]
        refine pB_congr ⟨?_, ?_⟩
        · rintro ((g | ⟨u, u1, u2, u3⟩) | ⟨g1, g2, g3, g4⟩)
          · exact .inl g
          · exact .inr ⟨u, u1, by omega, u3⟩
          · exact .inr ⟨w, hw1, by omega, e1, e2, g3, g4, g1, g2⟩
        · rintro (g | ⟨u, u1, u2, u3, u4, u5, u6, u7, u8⟩)
          · exact .inl (.inl g)
          · by_cases e : u = w
            · subst e
              exact .inr ⟨u7, u8, u5, u6⟩
            · exact .inl (.inr ⟨u, u1, by omega, u3, u4, u5, u6, u7, u8⟩)
      have stp0 : ∀ (B : Nat → Prop) (i : Nat), ¬ (so b N w = so b N (w + 1) ∧ fnb b N (wEn b N w) = wBg b N (w + 1)) → pB (B i ∨ gpm b N B f w i) = pB (B i ∨ gpm b N B f (w + 1) i) := by
        intro B i hn
        refine pB_congr ⟨?_, ?_⟩
        · rintro (g | ⟨u, u1, u2, u3⟩)
          · exact .inl g
          · exact .inr ⟨u, u1, by omega, u3⟩
        · rintro (g | ⟨u, u1, u2, u3, u4, u5⟩)
          · exact .inl g
          · by_cases e : u = w
            · subst e; exact absurd ⟨u3, u4⟩ hn
            · exact .inr ⟨u, u1, by omega, u3, u4, u5⟩
      refine b_layBetween hB hW hS (by omega) (by omega) (by omega) hh hl2 (fun e1 e2 la' hl' => ⟨⟨by omega, by omega⟩, ⟨w + 1, by omega, by omega, by omega, hl'.congr fun i _ _ => ⟨stp9 _ i e1 e2, stp9 _ i e1 e2⟩⟩, by (try dsimp only); omega⟩) (fun hn => ⟨⟨by omega, by omega⟩, ⟨w + 1, by omega, by omega, by omega, hl2.congr fun i _ _ => ⟨stp0 _ i hn, stp0 _ i hn⟩⟩, by (try dsimp only); omega⟩)
  · refine ⟨fun la' x => ∃ k : Nat, x = k ∧ k ≤ I ∧ LyA lo hi la (fun i => pB (bas b N I tc (rsf (Rf R f) (8 * w + k)) (stg sf) l i)) (fun i => pB (bas b N I tc (rsf (Rf R f) (8 * w + k)) sf l i)) la', fun _ x => I - x.toNat, ⟨0, rfl, by omega, hl1⟩, ?_⟩
    rintro la2 x ⟨k, rfl, hk, hl2⟩
    have stay : ∀ (q q' : Nat) (sel : Nat → Bool) (i : Nat), q ≤ q' → (∀ j v, j < I → sel j = true → v + tc j ≤ l + 1 → Rf R f j v = true → 8 * v + j < q' → wBg b N v ≤ i → i < wEn b N (v + tc j - 1) → 8 * v + j < q) → pB (bas b N I tc (rsf (Rf R f) q) sel l i) = pB (bas b N I tc (rsf (Rf R f) q') sel l i) := by
      intro q q' sel i hqq hno
      refine pB_congr ⟨?_, ?_⟩
      · rintro ⟨j, v, k1, k2, k3, k4⟩
        unfold rsf at k3
        rw [Bool.and_eq_true, decide_eq_true_iff] at k3
        exact ⟨j, v, k1, k2, by unfold rsf; rw [k3.1, decide_eq_true (by omega)]; rfl, k4⟩
      · rintro ⟨j, v, k1, k2, k3, k4, k5, k6⟩
        unfold rsf at k3
        rw [Bool.and_eq_true, decide_eq_true_iff] at k3
        have := hno j v k1 k2 k4 k3.1 k3.2 k5 k6
        exact ⟨j, v, k1, k2, by unfold rsf; rw [k3.1, decide_eq_true this]; rfl, k4, k5, k6⟩
    refine ⟨fun h2 => ⟨⟨by omega, by omega⟩, ⟨w + 1, by omega, by omega, by omega, hl2.congr fun i _ _ => ⟨stay _ _ _ i (by omega) fun j v a1 a2 a3 a4 a5 _ _ => by omega, stay _ _ _ i (by omega) fun j v a1 a2 a3 a4 a5 _ _ => by omega⟩⟩, by (try dsimp only); omega⟩, fun h2 => ?_⟩
    have ht := hT.2.1 k (by omega)
    simp only [Int.toNat_natCast]
    rw [ht.1, hbg w (by omega)]
    refine ⟨⟨by omega, by omega⟩, ⟨by omega, by omega⟩, ⟨by omega, by omega⟩, ⟨by omega, by omega⟩, b_Has (bs_31 _ (by omega)) (by omega) ?_⟩
    rw [bs_in (show k < I by omega)]
    have nok : (R k w = true → w + tc k ≤ l + 1 → False) → ∀ sel i, pB (bas b N I tc (rsf (Rf R f) (8 * w + k)) sel l i) = pB (bas b N I tc (rsf (Rf R f) (8 * w + (k + 1))) sel l i) := by
      intro hn sel i
      refine stay _ _ _ i (by omega) fun j v a1 a2 a3 a4 a5 _ _ => ?_
      by_cases e : j = k ∧ v = w
      · exfalso
        rw [e.1, e.2] at a3 a4
        unfold Rf at a4
        rw [Bool.and_eq_true] at a4
        exact hn a4.1 a3
      · omega
    have go : ∀ la', LyA lo hi la (fun i => pB (bas b N I tc (rsf (Rf R f) (8 * w + (k + 1))) (stg sf) l i)) (fun i => pB (bas b N I tc (rsf (Rf R f) (8 * w + (k + 1))) sf l i)) la' → rng ((k : Int) + 1) ∧ (∃ k' : Nat, (k : Int) + 1 = k' ∧ k' ≤ I ∧ LyA lo hi la (fun i => pB (bas b N I tc (rsf (Rf R f) (8 * w + k')) (stg sf) l i)) (fun i => pB (bas b N I tc (rsf (Rf R f) (8 * w + k')) sf l i)) la') ∧ I - ((k : Int) + 1).toNat < I - (k : Int).toNat := fun la' hl' => ⟨⟨by omega, by omega⟩, ⟨k + 1, by omega, by omega, hl'⟩, by omega⟩
    refine jn1_i ⟨fun h3 => go _ (hl2.congr fun i _ _ => ?_), fun h3 => ⟨fun h4 => go _ (hl2.congr fun i _ _ => ?_), fun h4 => ⟨⟨by omega, by omega⟩, ⟨by omega, by omega⟩, ?_⟩⟩⟩
    · have hn : R k w = true → w + tc k ≤ l + 1 → False := fun g _ => by rw [bI_0 h3] at g; cases g
      exact ⟨nok hn _ i, nok hn _ i⟩
    · have hn : R k w = true → w + tc k ≤ l + 1 → False := fun _ g => by omega
      exact ⟨nok hn _ i, nok hn _ i⟩
    · have hR := bI_1 h3
      have hend : ((w : Int) + (tc k : Int) - 1) = ((w + tc k - 1 : Nat) : Int) := by omega
      rw [hend]
      simp only [Int.toNat_natCast]
      rw [(hW w (by omega)).1, (hW (w + tc k - 1) (by omega)).2]
      have k1 := wEn_in (b := b) (N := N) hw1 (show w < Wn b N by omega)
      have k2 := wEn_in (b := b) (N := N) (show w + tc k - 1 ≤ l by omega) hl
      have add9 : ∀ (sel : Nat → Bool) (i : Nat), (pB (bas b N I tc (rsf (Rf R f) (8 * w + k)) sel l i) || (sel k && inB (wBg b N w) (wEn b N (w + tc k - 1)) i)) = pB (bas b N I tc (rsf (Rf R f) (8 * w + (k + 1))) sel l i) := by
        intro sel i
        have hc : (sel k && inB (wBg b N w) (wEn b N (w + tc k - 1)) i) = true ↔ (sel k = true ∧ wBg b N w ≤ i ∧ i < wEn b N (w + tc k - 1)) := by
          rw [Bool.and_eq_true]; unfold inB; rw [decide_eq_true_iff]
        rw [pB_or hc]
        refine pB_congr ⟨?_, ?_⟩
        · rintro (⟨j, v, a1, a2, a3, a4⟩ | ⟨g1, g2⟩)
          · unfold rsf at a3
            rw [Bool.and_eq_true, decide_eq_true_iff] at a3
            exact ⟨j, v, a1, a2, by unfold rsf; rw [a3.1, decide_eq_true (by omega)]; rfl, a4⟩
          · exact ⟨k, w, by omega, g1, by unfold rsf Rf; rw [hR, decide_eq_true hw1, decide_eq_true (by omega)]; rfl, by omega, g2⟩
        · rintro ⟨j, v, a1, a2, a3, a4, a5, a6⟩
          unfold rsf at a3
          rw [Bool.and_eq_true, decide_eq_true_iff] at a3
          by_cases e : j = k ∧ v = w
          · rw [e.1] at a2
            rw [e.1, e.2] at a6
            rw [e.2] at a5
            exact .inr ⟨a2, a5, a6⟩
          · exact .inl ⟨j, v, a1, a2, by unfold rsf; rw [a3.1, decide_eq_true (by omega)]; rfl, a4, a5, a6⟩
      refine b_isStrong (sf := sf) (by omega) (hsf k (by omega)) ⟨fun y => y = ((mkk (stg sf k) (sf k) : Nat) : Int), ?_, fun h5 => ?_, fun h5 => ?_⟩
      · rintro _ rfl
        exact b_layOver hh (by omega) (by omega) hl2 fun la' hl' => go _ (hl'.congr fun i _ _ => ⟨add9 _ i, add9 _ i⟩)
      · have h6 := bI_0 h5
        show (2 : Int) = _
        unfold stg
        rw [h6, show sf k = true by cases e : sf k; rw [e] at h6; cases h6; rfl]; rfl
      · have h6 := bI_1 h5
        show (1 : Int) = _
        unfold stg
        rw [h6, show sf k = false by cases e : sf k; rfl; rw [e] at h6; cases h6]; rfl
theorem b_layMarks0 {b wb we ws qt bg la : Nat → Int} {N I : Nat} {qf : Int} {Q : (Nat → Int) → Prop} (hq : Q la) : wp_Writer_layMarks b wb we ws qt bg la N qf I (-1) (-1) Q := by
  unfold wp_Writer_layMarks
  refine ⟨fun la' x => la' = la ∧ x = 0, fun _ _ => 0, ⟨rfl, rfl⟩, ?_⟩
  rintro la1 x ⟨e1, e2⟩
  rw [e1, e2]
  refine ⟨fun _ => ⟨fun la'' x => la'' = la ∧ x = 0, fun _ _ => 0, ⟨rfl, rfl⟩, ?_⟩, fun g => absurd (show (-1 : Int) < 0 by omega) g⟩
  rintro la2 x ⟨e1, e2⟩
  rw [e1, e2]
  exact ⟨fun _ => hq, fun g => absurd (show (-1 : Int) ≤ 0 by omega) g⟩
