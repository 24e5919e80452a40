/-! B25: the worthiest window of the reference; cuts -/
theorem b_MworthW {I : Nat} {wt : Nat → Nat} {mw inw : Nat → Int} {d : Nat → Nat} {Q : Int → Prop} (hw : QwA I wt mw) (hi : ∀ k, k < I → inw k = d k) (hq : Q (wth I wt d : Nat)) : wp_M_worthInWindow mw inw I Q := by
  have hI := hw.1
  unfold wp_M_worthInWindow
  refine ⟨fun x y => ∃ k : Nat, y = k ∧ k ≤ I ∧ x = (sm (fun k => wt k * tms (d k)) k : Nat), fun _ y => I - y.toNat, ⟨0, rfl, by omega, rfl⟩, ?_⟩
  rintro x y ⟨k, rfl, hk, rfl⟩
  refine ⟨fun h => qe hq ?_, fun h => ⟨⟨by omega, by omega⟩, ?_⟩⟩
  · rw [show k = I by omega]; rfl
  · rw [Int.toNat_natCast, hi k (by omega)]
    have h3 : sm (fun k => wt k * tms (d k)) k ≤ k * 126 := wth_le (I := k) (d := d) ⟨by omega, fun j hj => hw.2 j (by omega)⟩
    have h4 : wt k * tms (d k) ≤ 9 * 14 := Nat.mul_le_mul (hw.2 k (by omega)).2.2 (tms_le _)
    refine b_MworthOf hw (by omega) ⟨⟨by omega, by omega⟩, ⟨by omega, by omega⟩, ⟨k + 1, by omega, by omega, ?_⟩, by (try dsimp only); omega⟩
    rw [sm_s]; omega
def StW (W I : Nat) (wt tc : Nat → Nat) (R : Nat → Nat → Bool) (F T : Nat → Nat) (lo h1 n a b : Nat) (win : Nat → Int) : Prop := ∃ f l : Int, Scn (CM W I wt tc R F T lo h1 n) (ww W I wt tc R) F T a b f l (win 3) ∧ ∀ p q : Nat, f = p → l = q → win 0 = p ∧ win 1 = q ∧ win 2 = (T q : Int) - F p
theorem b_Mwidest {W I : Nat} {wt tc : Nat → Nat} {R : Nat → Nat → Bool} {F T : Nat → Nat} {mi mf ml im mw mt wf wt9 inw win : Nat → Int} {lo h1 n : Nat} {Q : Int → (Nat → Int) → (Nat → Int) → Prop} (hF : FTo W F T) (hL : MlA W F T wf wt9) (h : TcA W I tc R mt) (hw : QwA I wt mw) (hM : MmA W I tc R mi mf ml im) (hh : h1 ≤ W)
    (hq : ∀ (f l : Int) (inw' win' : Nat → Int), WRes W I wt tc R F T lo h1 n f l (win' 3) → (∀ p q : Nat, f = p → l = q → win' 0 = p ∧ win' 1 = q ∧ win' 2 = (T q : Int) - F p) → Q (bI (decide (0 < win' 3))) inw' win') : wp_M_widestIn wf wt9 mw mt im inw win I lo ((h1 : Int) - 1) n Q := by
  have hW := hF.1
  have hI := h.1
  have t3 : Int.toNat 3 = 3 := rfl
  have t2 : Int.toNat 2 = 2 := rfl
  unfold wp_M_widestIn
  simp only [t3, t2]
  refine ⟨⟨by omega, by omega⟩, ?_⟩
  refine ⟨fun _ win x => ∃ a : Nat, x = a ∧ lo ≤ a ∧ (a ≤ h1 ∨ a = lo) ∧ StW W I wt tc R F T lo h1 n a a win, fun _ _ x => h1 - x.toNat, ⟨lo, rfl, Nat.le_refl _, .inr rfl, -1, -1, .inl ⟨rfl, rfl, uI_e rfl, fun a b hc hp => by have := hc.1; have := hc.2.1; omega⟩, fun p q hp => by omega⟩, ?_⟩
  rintro inw win x ⟨a, rfl, ha1, ha2, f, l, hs, hwn⟩
  refine ⟨fun h2 => ⟨⟨by omega, by omega⟩, ?_⟩, fun h2 => ?_⟩
  · have hr : WRes W I wt tc R F T lo h1 n f l (win 3) := by
      rcases hs with ⟨g1, g2, g3, g4⟩ | ⟨p, q, g1, g2, g3, g4, g5, g6⟩
      · exact .inl ⟨g1, g2, g3, fun a b hc => g4 a b hc (.inl (by have := hc.2.1; have := hc.2.2.1; omega))⟩
      · exact .inr ⟨p, q, g1, g2, g3, g4, fun a b hc => g6 a b hc (.inl (by have := hc.2.1; have := hc.2.2.1; omega))⟩
    have := hq f l inw win hr hwn
    refine ⟨fun h3 => ?_, fun h3 => ?_⟩
    · rw [decide_eq_false (by omega)] at this; exact this
    · rw [decide_eq_true (by omega)] at this; exact this
  · refine ⟨fun inw x => ∃ k : Nat, x = k ∧ k ≤ I ∧ ∀ j, j < k → inw j = 0, fun _ x => I - x.toNat, ⟨0, rfl, by omega, fun j hj => by omega⟩, ?_⟩
    rintro inw x ⟨k, rfl, hk, hz⟩
    refine ⟨fun h3 => ?_, fun h3 => ⟨⟨by omega, by omega⟩, ⟨by omega, by omega⟩, ⟨k + 1, by omega, by omega, fun j hj => ?_⟩, by (try dsimp only); omega⟩⟩
    · refine ⟨fun inw win x => ∃ b : Nat, x = b ∧ a ≤ b ∧ b ≤ h1 ∧ StW W I wt tc R F T lo h1 n a b win ∧ ∀ k, k < I → inw k = (ctb W tc R k a b : Nat), fun _ _ x => h1 - x.toNat, ⟨a, rfl, Nat.le_refl _, by omega, ⟨f, l, hs, hwn⟩, fun k hk => by rw [hz k (by omega), ctb_0 h hk]; rfl⟩, ?_⟩
      rintro inw win x ⟨b, rfl, hb1, hb2, ⟨f, l, hs, hwn⟩, hin⟩
      refine ⟨StW W I wt tc R F T lo h1 n (a + 1) (a + 1) win, fun hst => ⟨⟨by omega, by omega⟩, ⟨a + 1, by omega, by omega, by omega, hst⟩, by (try dsimp only); omega⟩, fun h4 => ⟨f, l, hs.row (fun b' hb' hc => by have := hc.2.2.1; omega) (fun b' hb' hc => by have := hc.2.1; omega), hwn⟩, fun h4 => b_Mlong hF hL (by omega) (by omega) ⟨fun h5 => ⟨f, l, hs.row (fun b' hb' hc => ?_) (fun b' hb' hc => by have := hc.2.1; omega), hwn⟩, fun h5 => ?_⟩⟩
      · have g1 := hc.2.2.1
        have g2 := hc.2.2.2.1
        have := (hF.mT hb' (by omega)).1
        omega
      · refine ⟨fun inw x => ∃ j : Nat, x = j ∧ j ≤ I ∧ ∀ k, k < I → inw k = (ctb W tc R k a b + (if k < j ∧ ew tc R k a b = true then 1 else 0) : Nat), fun _ x => I - x.toNat, ⟨0, rfl, by omega, fun k hk => by rw [hin k hk, if_neg (by omega)]; rfl⟩, ?_⟩
        rintro inw x ⟨j, rfl, hj, hin⟩
        refine ⟨fun h6 => ?_, fun h6 => ⟨⟨by omega, by omega⟩, b_MendsAt hW hI hM (by omega) (h.2.1 j (by omega)) (by omega) ?_⟩⟩
        · have hin : ∀ k, k < I → inw k = (ctb W tc R k a (b + 1) : Nat) := by
            intro k hk
            rw [hin k hk, ctb_s h hk]
            congr 2
            cases e : ew tc R k a b
            · rw [if_neg (fun g => by cases g.2), if_neg Bool.false_ne_true]
            · rw [if_pos ⟨by omega, rfl⟩, if_pos rfl]
          have hww := ww_le (W := W) (tc := tc) (R := R) hw a b
          refine b_MworthW (d := fun k => ctb W tc R k a (b + 1)) hw hin ⟨⟨by omega, by omega⟩, ?_⟩
          rw [show wth I wt (fun k => ctb W tc R k a (b + 1)) = ww W I wt tc R a b from rfl]
          have go : ∀ win', StW W I wt tc R F T lo h1 n a (b + 1) win' → rng ((b : Int) + 1) ∧ (∃ b' : Nat, (b : Int) + 1 = b' ∧ a ≤ b' ∧ b' ≤ h1 ∧ StW W I wt tc R F T lo h1 n a b' win' ∧ ∀ k, k < I → inw k = (ctb W tc R k a b' : Nat)) ∧ h1 - ((b : Int) + 1).toNat < h1 - (b : Int).toNat := fun win' hs' => ⟨⟨by omega, by omega⟩, ⟨b + 1, by omega, by omega, by omega, hs', hin⟩, by omega⟩
          have hcm : 0 < ww W I wt tc R a b → CM W I wt tc R F T lo h1 n a b := fun g => ⟨by omega, hb1, by omega, by omega, g⟩
          have stay : (CM W I wt tc R F T lo h1 n a b → ∃ p q : Nat, f = p ∧ l = q ∧ ((ww W I wt tc R a b : Int) < win 3 ∨ ((ww W I wt tc R a b : Int) = win 3 ∧ (T q : Int) - F p ≤ T b - F a))) → StW W I wt tc R F T lo h1 n a (b + 1) win := fun g => ⟨f, l, hs.keep g, hwn⟩
          have some9 : win 3 ≠ 0 → ∃ p q : Nat, f = p ∧ l = q := by
            intro g
            rcases hs with ⟨g1, g2, g3, g4⟩ | ⟨p, q, g1, g2, _⟩
            · exact absurd g3 g
            · exact ⟨p, q, g1, g2⟩
          refine jn1_i ⟨fun h7 => go _ (stay fun _ => ?_), fun h7 => ⟨fun h8 => go _ (stay fun hc => ?_), fun h8 => ⟨⟨by omega, by omega⟩, ?_⟩⟩⟩
          · obtain ⟨p, q, g1, g2⟩ := some9 (by omega)
            exact ⟨p, q, g1, g2, .inl h7⟩
          · have := hc.2.2.2.2; omega
          · refine ⟨win 3 < (ww W I wt tc R a b : Int) ∨ (win 3 = (ww W I wt tc R a b : Int) ∧ ∃ p q : Nat, f = p ∧ l = q ∧ (T b : Int) - F a < T q - F p), fun hb9 => ⟨⟨by omega, by omega⟩, ⟨by omega, by omega⟩, b_Mlong hF hL (by omega) (by omega) ⟨⟨by omega, by omega⟩, ⟨by omega, by omega⟩, go _ ⟨a, b, ?_, fun p q hp hq9 => ?_⟩⟩⟩, fun h9 => .inl (by omega), fun h9 => b_Mlong hF hL (by omega) (by omega) ⟨⟨by omega, by omega⟩, fun h10 => ?_, fun h10 => go _ (stay fun _ => ?_)⟩⟩
            · rw [uI_e (j := 3) (i := 3) rfl]; exact hs.take (hcm (by omega)) hb9
            · have e1 : p = a := by omega
              have e2 : q = b := by omega
              exact ⟨by rw [e1]; rfl, by rw [e2]; rfl, by rw [e1, e2]; rfl⟩
            · obtain ⟨p, q, g1, g2⟩ := some9 (by omega)
              have := (hwn p q g1 g2).2.2
              exact .inr ⟨by omega, p, q, g1, g2, by omega⟩
            · obtain ⟨p, q, g1, g2⟩ := some9 (by omega)
              have := (hwn p q g1 g2).2.2
              exact ⟨p, q, g1, g2, .inr ⟨by omega, by omega⟩⟩
        · have hc9 := ctb_le W tc R j a b
          rw [Int.toNat_natCast, hin j (by omega), if_neg (by omega)]
          refine jn1_i ⟨fun h7 => ⟨⟨by omega, by omega⟩, ⟨by omega, by omega⟩, ⟨by omega, by omega⟩, ⟨j + 1, by omega, by omega, fun k hk => ?_⟩, by (try dsimp only); omega⟩, fun h7 => ⟨⟨by omega, by omega⟩, ⟨by omega, by omega⟩, ⟨by omega, by omega⟩, ⟨j + 1, by omega, by omega, fun k hk => ?_⟩, by (try dsimp only); omega⟩⟩
          · by_cases e : k = j
            · have h7 : ew tc R j a b = false := bI_0 h7
              rw [uI_e (by omega), e, h7, if_neg (fun g => by cases g.2)]; omega
            · rw [uI_n (by omega) (by omega), hin k hk]
              congr 2
              by_cases e2 : k < j ∧ ew tc R k a b = true
              · rw [if_pos e2, if_pos ⟨by omega, e2.2⟩]
              · rw [if_neg e2, if_neg (fun g => e2 ⟨by omega, g.2⟩)]
          · by_cases e : k = j
            · have h7 : ew tc R j a b = true := bI_1 h7
              rw [uI_e (by omega), e, if_pos ⟨by omega, h7⟩]; omega
            · rw [uI_n (by omega) (by omega), hin k hk]
              congr 2
              by_cases e2 : k < j ∧ ew tc R k a b = true
              · rw [if_pos e2, if_pos ⟨by omega, e2.2⟩]
              · rw [if_neg e2, if_neg (fun g => e2 ⟨by omega, g.2⟩)]
    · by_cases e : j = k
      · rw [uI_e (by omega)]
      · rw [uI_n (by omega) (by omega)]; exact hz j (by omega)
/-! cuts -/
def CutP (W I : Nat) (wt tc : Nat → Nat) (R : Nat → Nat → Bool) (F T : Nat → Nat) (lo h1 le n : Nat) (f l wh : Int) : Prop :=
  (le ≤ n ∧ wh = 1 ∧ f = (if lo < h1 then (lo : Int) else -1) ∧ l = (if lo < h1 then (h1 : Int) - 1 else -1)) ∨ (n < le ∧ wh = 0 ∧ ((f ≠ -1 ∧ ∃ w, WRes W I wt tc R F T lo h1 n f l w) ∨ (WRes W I wt tc R F T lo h1 n (-1) (-1) 0 ∧ ((lo < h1 ∧ T lo ≤ n + F lo ∧ f = lo ∧ l = (sk (fun t => decide (T t ≤ n + F lo)) h1 lo : Int) - 1) ∨ (¬ (lo < h1 ∧ T lo ≤ n + F lo) ∧ f = -1 ∧ l = -1)))))
theorem CutP.uniq {W I : Nat} {wt tc : Nat → Nat} {R : Nat → Nat → Bool} {F T : Nat → Nat} {lo h1 le n : Nat} {f l wh f' l' wh' : Int} (h : CutP W I wt tc R F T lo h1 le n f l wh) (g : CutP W I wt tc R F T lo h1 le n f' l' wh') : f = f' ∧ l = l' ∧ wh = wh' := by
  rcases h with ⟨a1, a2, a3, a4⟩ | ⟨a1, a2, a3⟩ <;> rcases g with ⟨b1, b2, b3, b4⟩ | ⟨b1, b2, b3⟩
  · rw [a2, a3, a4, b2, b3, b4]; exact ⟨rfl, rfl, rfl⟩
  · omega
  · omega
  · rcases a3 with ⟨a3, w, a4⟩ | ⟨a3, a4⟩ <;> rcases b3 with ⟨b3, w', b4⟩ | ⟨b3, b4⟩
    · have := a4.uniq b4; omega
    · have := a4.uniq b3; omega
    · have := b4.uniq a3; omega
    · rcases a4 with ⟨c1, c2, c3, c4⟩ | ⟨c1, c2, c3⟩ <;> rcases b4 with ⟨d1, d2, d3, d4⟩ | ⟨d1, d2, d3⟩
      · omega
      · exact absurd ⟨c1, c2⟩ d1
      · exact absurd ⟨d1, d2⟩ c1
      · omega
theorem CutP.lt {W I : Nat} {wt tc : Nat → Nat} {R : Nat → Nat → Bool} {F T : Nat → Nat} {lo h1 le n : Nat} {f l wh : Int} (h : CutP W I wt tc R F T lo h1 le n f l wh) : (f = -1 ∧ l = -1 ∧ (wh = 1 → ¬ lo < h1)) ∨ ∃ p q : Nat, f = p ∧ l = q ∧ lo ≤ p ∧ p ≤ q ∧ q < h1 := by
  rcases h with ⟨a1, a2, a3, a4⟩ | ⟨a1, a2, a3⟩
  · by_cases e : lo < h1
    · rw [if_pos e] at a3 a4
      exact .inr ⟨lo, h1 - 1, a3, by omega, by omega, by omega, by omega⟩
    · rw [if_neg e] at a3 a4
      exact .inl ⟨a3, a4, fun _ => e⟩
  · rcases a3 with ⟨a3, w, a4⟩ | ⟨a3, a4⟩
    · rcases a4 with ⟨g1, g2, g3, g4⟩ | ⟨p, q, g1, g2, g3, g4, g5⟩
      · exact absurd g1 a3
      · exact .inr ⟨p, q, g1, g2, g4.1, g4.2.1, g4.2.2.1⟩
    · rcases a4 with ⟨c1, c2, c3, c4⟩ | ⟨c1, c2, c3⟩
      · have k1 := sk_step (p := fun t => decide (T t ≤ n + F lo)) (N := h1) (i := lo) c1 (decide_eq_true c2)
        have k2 := sk_ge (fun t => decide (T t ≤ n + F lo)) h1 (lo + 1)
        have k3 := sk_le (p := fun t => decide (T t ≤ n + F lo)) (N := h1) (i := lo + 1) (by omega)
        exact .inr ⟨lo, sk (fun t => decide (T t ≤ n + F lo)) h1 lo - 1, c3, by omega, by omega, by omega, by omega⟩
      · exact .inl ⟨c2, c3, fun e => by omega⟩
theorem WRes_0 {W I : Nat} {wt tc : Nat → Nat} {R : Nat → Nat → Bool} {F T : Nat → Nat} {lo h1 n : Nat} (h : h1 ≤ lo) : WRes W I wt tc R F T lo h1 n (-1) (-1) 0 := .inl ⟨rfl, rfl, rfl, fun a b hc => by have := hc.1; have := hc.2.1; have := hc.2.2.1; omega⟩
theorem b_cut {b : Nat → Int} {N W I : Nat} {wt tc : Nat → Nat} {R : Nat → Nat → Bool} {F T le : Nat → Nat} {sa wb we ws ss sf sw qw qt bg en : Nat → Int} {lo9 hi9 : Nat → Int64} {s n : Nat} {z1 z2 z3 z4 : Int} {Q : Int → Int → Int → Int → Prop} (hWn : W = Wn b N) (hF : FTo W F T) (hL : WlA W F T sa wb we) (h : TcA W I tc R qt) (hw : QwA I wt qw) (hbg : ∀ v, v < W → bg v = bs (fun k => R k v) I) (hen : ∀ v, v < W → en v = bs (fun k => enR tc R k v) I) (hP : PlA b N ws sf sw lo9 hi9) (hLe : LeA (Sn b N) le ss) (hs : s < Sn b N)
    (hq : ∀ f l w wh, CutP W I wt tc R F T (fW b N s) (fW b N (s + 1)) (le s) n f l wh → Q f l w wh) : wp_Windows_seekCut sa wb we ss sf sw qw qt bg en I z1 z2 z3 z4 s n Q := by
  have hW := hF.1
  have h14 := hLe.1
  have hle := hLe.2 s hs
  have hsf := (hP.2 s hs).2.1
  have hf1 := fW_le b N (s + 1)
  have hf2 := fW_mono (b := b) (N := N) (show s ≤ s + 1 by omega)
  rw [← hWn] at hf1
  unfold wp_Windows_seekCut
  simp only [Int.toNat_natCast]
  rw [hle.1, hsf]
  refine ⟨⟨by omega, by omega⟩, b_last hP hs ⟨⟨by omega, by omega⟩, fun h1 => ?_, fun h1 => ?_⟩⟩
  · by_cases e : fW b N s < fW b N (s + 1)
    · rw [if_pos e, if_pos e]
      refine b_widest hF hL h hw hbg hen hf1 (show max ((fW b N s : Nat) : Int) 0 = (fW b N s : Nat) by omega) fun f l w hr => ⟨fun h2 => hq _ _ _ _ (.inr ⟨by omega, rfl, .inl ⟨h2, w, hr⟩⟩), fun h2 => ⟨fun h3 => by omega, fun _ => ?_⟩⟩
      have hr0 : WRes W I wt tc R F T (fW b N s) (fW b N (s + 1)) n (-1) (-1) 0 := by
        rcases hr with ⟨g1, g2, g3, g4⟩ | ⟨p, q, g1, _⟩
        · exact .inl ⟨rfl, rfl, rfl, g4⟩
        · omega
      have hl : l = -1 := by
        rcases hr with ⟨g1, g2, g3, g4⟩ | ⟨p, q, g1, _⟩
        · exact g2
        · omega
      subst h2
      subst hl
      generalize fW b N s = lo at *
      generalize fW b N (s + 1) = h9 at *
      unfold wp_Windows_seekBeginning
      refine ⟨fun f l x => ∃ t : Nat, x = t ∧ lo ≤ t ∧ t ≤ h9 ∧ ((t = lo ∧ f = -1 ∧ l = -1) ∨ (lo < t ∧ f = lo ∧ l = (t : Int) - 1 ∧ T lo ≤ n + F lo)) ∧ sk (fun t => decide (T t ≤ n + F lo)) h9 t = sk (fun t => decide (T t ≤ n + F lo)) h9 lo, fun _ _ x => h9 - x.toNat, ⟨lo, rfl, Nat.le_refl _, by omega, .inl ⟨rfl, rfl, rfl⟩, rfl⟩, ?_⟩
      rintro f l x ⟨t, rfl, ht1, ht2, hx, hsk⟩
      have fin : t = sk (fun t => decide (T t ≤ n + F lo)) h9 lo → Q f l w 0 := by
        intro et
        refine hq _ _ _ _ (.inr ⟨by omega, rfl, .inr ⟨hr0, ?_⟩⟩)
        rcases hx with ⟨x1, x2, x3⟩ | ⟨x1, x2, x3, x4⟩
        · refine .inr ⟨fun g => ?_, x2, x3⟩
          have k1 := sk_step (p := fun t => decide (T t ≤ n + F lo)) (N := h9) (i := lo) g.1 (decide_eq_true g.2)
          have k2 := sk_ge (fun t => decide (T t ≤ n + F lo)) h9 (lo + 1)
          omega
        · exact .inl ⟨e, x4, x2, by omega⟩
      refine ⟨fun h3 => fin ?_, fun h3 => b_wl hF hL (by omega) (by omega) ⟨fun h4 => fin ?_, fun h4 => ⟨⟨by omega, by omega⟩, ⟨t + 1, by omega, by omega, by omega, .inr ⟨by omega, rfl, by omega, ?_⟩, ?_⟩, by (try dsimp only); omega⟩⟩⟩
      · rw [← hsk, sk_end (by omega)]
      · rw [← hsk, sk_stop (decide_eq_false (by omega))]
      · rcases hx with ⟨x1, x2, x3⟩ | ⟨x1, x2, x3, x4⟩
        · rw [x1] at h4; omega
        · exact x4
      · rw [← hsk, sk_step (i := t) (by omega) (decide_eq_true (by omega))]
    · rw [if_neg e, if_neg e]
      have hr0 : WRes W I wt tc R F T (fW b N s) (fW b N (s + 1)) n (-1) (-1) 0 := WRes_0 (by omega)
      refine b_widest (lo := 0) (h1 := 0) hF hL h hw hbg hen (Nat.zero_le _) (by decide) fun f l w hr => ?_
      have := hr.uniq (WRes_0 (Nat.le_refl 0))
      rw [this.1, this.2.1]
      exact ⟨fun h2 => absurd rfl h2, fun _ => ⟨fun _ => hq _ _ _ _ (.inr ⟨by omega, rfl, .inr ⟨hr0, .inr ⟨fun g => e g.1, rfl, rfl⟩⟩⟩), fun h3 => absurd rfl h3⟩⟩
  · unfold wp_Windows_forget
    exact hq _ _ _ _ (.inl ⟨by omega, rfl, rfl, rfl⟩)
theorem so_eq {b : Nat → Int} {N w s : Nat} (hs : s < Sn b N) : so b N w = (s : Int) ↔ soN b N w = s := by
  have := soN_le b N w
  unfold so
  split <;> omega
theorem b_MfirstW {b so0 : Nat → Int} {N s : Nat} {Q : Int → Prop} (hS : ∀ w, w < Wn b N → so0 w = so b N w) (hs : s < Sn b N) (hq : Q (if fW b N s < fW b N (s + 1) then (fW b N s : Int) else -1)) : wp_M_firstWord so0 (Wn b N) s Q := by
  have h100 : Wn b N ≤ 100 := by unfold Wn; omega
  have hf1 := fW_le b N (s + 1)
  unfold wp_M_firstWord
  refine ⟨fun x => ∃ w : Nat, x = w ∧ w ≤ Wn b N ∧ ∀ v, v < w → soN b N v ≠ s, fun x => Wn b N - x.toNat, ⟨0, rfl, by omega, fun v h => by omega⟩, ?_⟩
  rintro x ⟨w, rfl, hw, hv⟩
  refine ⟨fun h => ?_, fun h => ⟨⟨by omega, by omega⟩, ?_⟩⟩
  · rw [if_neg] at hq
    · exact hq
    · intro hlt
      have h1 := (fW_iff (b := b) (N := N) (w := fW b N s) (k := s + 1) (by omega)).mp hlt
      have h2 : ¬ soN b N (fW b N s) < s := fun g => by have := (fW_iff (b := b) (N := N) (w := fW b N s) (k := s) (by omega)).mpr g; omega
      exact hv (fW b N s) (by omega) (by omega)
  · rw [Int.toNat_natCast, hS w (by omega), so_eq hs]
    refine ⟨fun h2 => ⟨⟨by omega, by omega⟩, ⟨w + 1, by omega, by omega, fun v hv2 => ?_⟩, by (try dsimp only); omega⟩, fun h2 => ?_⟩
    · by_cases e : v = w
      · rw [e]; exact h2
      · exact hv v (by omega)
    · have h3 := (fW_iff (b := b) (N := N) (w := w) (k := s + 1) (by omega)).mpr (by omega)
      have h4 : ¬ w < fW b N s := fun g => by have := (fW_iff (b := b) (N := N) (w := w) (k := s) (by omega)).mp g; omega
      have h5 : fW b N s = w := by
        rcases Nat.lt_or_ge (fW b N s) w with e | e
        · exfalso
          have h6 := (fW_iff (b := b) (N := N) (w := fW b N s) (k := s + 1) (by omega)).mp (by omega)
          have h7 : ¬ soN b N (fW b N s) < s := fun g => by have := (fW_iff (b := b) (N := N) (w := fW b N s) (k := s) (by omega)).mpr g; omega
          exact hv (fW b N s) e (by omega)
        · omega
      rw [if_pos (by omega), h5] at hq
      exact hq
theorem b_MwordsIn {b so0 : Nat → Int} {N s : Nat} {Q : Int → Prop} (hS : ∀ w, w < Wn b N → so0 w = so b N w) (hs : s < Sn b N) (hq : Q ((fW b N (s + 1) : Int) - fW b N s)) : wp_M_wordsIn so0 (Wn b N) s Q := by
  have h100 : Wn b N ≤ 100 := by unfold Wn; omega
  have e := scn_W b N s
  unfold wp_M_wordsIn
  refine ⟨fun x y => ∃ w : Nat, y = w ∧ w ≤ Wn b N ∧ x = (scn b N s w : Nat), fun _ y => Wn b N - y.toNat, ⟨0, rfl, by omega, rfl⟩, ?_⟩
  rintro x y ⟨w, rfl, hw, rfl⟩
  have hc : scn b N s w ≤ w := cn_le _ _
  refine ⟨fun h => qe hq (by rw [show w = Wn b N by omega]; omega), fun h => ⟨⟨by omega, by omega⟩, ?_⟩⟩
  rw [Int.toNat_natCast, hS w (by omega), so_eq hs]
  refine jn1_i ⟨fun h2 => ⟨⟨by omega, by omega⟩, ⟨by omega, by omega⟩, ⟨w + 1, by omega, by omega, ?_⟩, by (try dsimp only); omega⟩, fun h2 => ⟨⟨by omega, by omega⟩, ⟨by omega, by omega⟩, ⟨w + 1, by omega, by omega, ?_⟩, by (try dsimp only); omega⟩⟩
  · rw [show scn b N s (w + 1) = scn b N s w from cn_f (decide_eq_false h2)]; omega
  · rw [show scn b N s (w + 1) = scn b N s w + 1 from cn_t (decide_eq_true h2)]; omega
theorem b_Mcuts {b : Nat → Int} {N I : Nat} {wt tc : Nat → Nat} {R : Nat → Nat → Bool} {F T le : Nat → Nat} {mi mf ml im mw mt wf wt9 so0 fr to inw win : Nat → Int} {s n : Nat} {z1 z2 z3 : Int} {Q : Int → (Nat → Int) → (Nat → Int) → Int → Int → Int → Prop} (hF : FTo (Wn b N) F T) (hL : MlA (Wn b N) F T wf wt9) (h : TcA (Wn b N) I tc R mt) (hw : QwA I wt mw) (hM : MmA (Wn b N) I tc R mi mf ml im) (hS : ∀ w, w < Wn b N → so0 w = so b N w) (hLe : FtA (Sn b N) le fr to) (hs : s < Sn b N)
    (hq : ∀ r inw' win' cf cl wh, ((r = 1 ∧ ¬ (wh = 0 ∧ cf = -1) ∧ CutP (Wn b N) I wt tc R F T (fW b N s) (fW b N (s + 1)) (le s) n cf cl wh) ∨ (r = 0 ∧ wh = 0 ∧ CutP (Wn b N) I wt tc R F T (fW b N s) (fW b N (s + 1)) (le s) n (-1) (-1) 0)) → Q r inw' win' cf cl wh) : wp_M_cuts wf wt9 so0 fr to mw mt im inw win (Wn b N) I z1 z2 z3 s n Q := by
  have hW := hF.1
  have h14 := hLe.1
  have hle := hLe.2 s hs
  have hf1 := fW_le b N (s + 1)
  have hf2 := fW_mono (b := b) (N := N) (show s ≤ s + 1 by omega)
  unfold wp_M_cuts
  refine b_MfirstW hS hs (b_MwordsIn hS hs ?_)
  simp only [Int.toNat_natCast]
  rw [hle.1]
  generalize fW b N s = lo at *
  generalize fW b N (s + 1) = h9 at *
  have t0 : Int.toNat 0 = 0 := rfl
  have t1 : Int.toNat 1 = 1 := rfl
  by_cases e : lo < h9
  · rw [if_pos e]
    have hd : ((lo : Int) + ((h9 : Int) - (lo : Int)) - 1) = (h9 : Int) - 1 := by omega
    rw [hd]
    refine ⟨⟨by omega, by omega⟩, ⟨by omega, by omega⟩, ⟨by omega, by omega⟩, ⟨by omega, by omega⟩, ⟨by omega, by omega⟩, jn1_i ⟨fun h1 => ⟨⟨by omega, by omega⟩, jn1_i ⟨fun _ => ⟨fun _ => ⟨fun _ => ?_, fun g => by omega⟩, fun g => absurd rfl g⟩, fun g => by omega⟩⟩, fun h1 => ⟨⟨by omega, by omega⟩, jn1_i ⟨fun _ => ⟨fun g => absurd g (by decide), fun _ => hq _ _ _ _ _ _ (.inl ⟨rfl, fun g => absurd g.1 (by decide), .inl ⟨by omega, rfl, ?_, ?_⟩⟩)⟩, fun g => by omega⟩⟩⟩⟩
    · refine b_Mwidest hF hL h hw hM hf1 fun f l inw' win' hr hwn => ⟨fun h2 => ?_, fun h2 => ⟨⟨by omega, by omega⟩, ⟨by omega, by omega⟩, ?_⟩⟩
      · have hr0 : WRes (Wn b N) I wt tc R F T lo h9 n (-1) (-1) 0 := by
          rcases hr with ⟨g1, g2, g3, g4⟩ | ⟨p, q, g1, g2, g3, g4, _⟩
          · exact .inl ⟨rfl, rfl, rfl, g4⟩
          · have h2 := bI_0 h2
            have := of_decide_eq_false h2
            have := g4.2.2.2.2
            omega
        refine ⟨fun x => ∃ c : Nat, x = c ∧ lo ≤ c ∧ c < h9 ∧ (c = lo ∨ T c ≤ n + F lo) ∧ sk (fun t => decide (T t ≤ n + F lo)) h9 (c + 1) = sk (fun t => decide (T t ≤ n + F lo)) h9 (lo + 1), fun x => h9 - x.toNat, ⟨lo, rfl, Nat.le_refl _, e, .inl rfl, rfl⟩, ?_⟩
        rintro x ⟨c, rfl, hc1, hc2, hc3, hsk⟩
        refine ⟨c + 1 = sk (fun t => decide (T t ≤ n + F lo)) h9 (lo + 1) ∨ ¬ T lo ≤ n + F lo, fun hend => b_Mlong hF hL (by omega) (by omega) ⟨fun h3 => hq _ _ _ _ _ _ (.inr ⟨rfl, rfl, .inr ⟨by omega, rfl, .inr ⟨hr0, .inr ⟨fun g => ?_, rfl, rfl⟩⟩⟩⟩), fun h3 => hq _ _ _ _ _ _ (.inl ⟨rfl, fun g => by omega, .inr ⟨by omega, rfl, .inr ⟨hr0, .inl ⟨e, ?_, rfl, ?_⟩⟩⟩⟩)⟩, fun h3 => .inl ?_, fun h3 => ⟨⟨by omega, by omega⟩, ?_⟩⟩
        · rcases hc3 with g2 | g2
          · rw [g2] at h3; omega
          · omega
        · have := (hF.mT hc1 (by omega)).1
          omega
        · have hlo : T lo ≤ n + F lo := by
            have := (hF.mT hc1 (by omega)).1
            omega
          rcases hend with g | g
          · rw [sk_step (i := lo) e (decide_eq_true hlo)]; omega
          · exact absurd hlo g
        · rw [← hsk, sk_end (by omega)]
        · rw [show (c : Int) + 1 = ((c + 1 : Nat) : Int) by omega]
          refine b_Mlong hF hL (by omega) (by omega) ⟨fun h4 => ?_, fun h4 => ⟨⟨by omega, by omega⟩, ⟨c + 1, rfl, by omega, by omega, .inr (by omega), ?_⟩, by (try dsimp only); omega⟩⟩
          · left
            rw [← hsk, sk_stop (decide_eq_false (by omega))]
          · rw [← hsk, sk_step (i := c + 1) (by omega) (decide_eq_true (by omega))]
      · have h2 := of_decide_eq_true (bI_1 h2)
        simp only [t0, t1]
        rcases hr with ⟨g1, g2, g3, g4⟩ | ⟨p, q, g1, g2, g3, g4, g5⟩
        · omega
        · have h3 := hwn p q g1 g2
          rw [h3.1, h3.2.1]
          refine hq _ _ _ _ _ _ (.inl ⟨rfl, fun g => by omega, .inr ⟨by omega, rfl, .inl ⟨by omega, _, .inr ⟨p, q, rfl, rfl, rfl, g4, g5⟩⟩⟩⟩)
    · rw [if_pos e]
    · rw [if_pos e]
  · rw [if_neg e]
    have e2 : h9 = lo := by omega
    subst e2
    have hd : ((-1 : Int) + ((h9 : Int) - (h9 : Int)) - 1) = -2 := by omega
    rw [hd]
    refine ⟨⟨by omega, by omega⟩, ⟨by omega, by omega⟩, ⟨by omega, by omega⟩, ⟨by omega, by omega⟩, ⟨by omega, by omega⟩, jn1_i ⟨fun h1 => ⟨⟨by omega, by omega⟩, jn1_i ⟨fun g => absurd rfl g, fun _ => ⟨fun _ => ⟨fun g => absurd rfl g, fun _ => hq _ _ _ _ _ _ (.inr ⟨rfl, rfl, .inr ⟨by omega, rfl, .inr ⟨WRes_0 (Nat.le_refl _), .inr ⟨fun g => e g.1, rfl, rfl⟩⟩⟩⟩)⟩, fun g => absurd rfl g⟩⟩⟩, fun h1 => ⟨⟨by omega, by omega⟩, jn1_i ⟨fun g => absurd rfl g, fun _ => ⟨fun g => absurd g (by decide), fun _ => hq _ _ _ _ _ _ (.inl ⟨rfl, fun g => absurd g.1 (by decide), .inl ⟨by omega, rfl, ?_, ?_⟩⟩)⟩⟩⟩⟩⟩
    · rw [if_neg e]
    · rw [if_neg e]
