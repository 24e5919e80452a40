/-! B34: the class writes a set -/
def sfI (b : Nat → Int) (N s : Nat) : Int := if fW b N s < fW b N (s + 1) then (fW b N s : Int) else -1
def slI (b : Nat → Int) (N s : Nat) : Int := if fW b N s < fW b N (s + 1) then (fW b N (s + 1) : Int) - 1 else -1
def jnt (ah : Int) (op : Bool) (s : Nat) (oL : Bool) : Nat := if ah = -1 then (if oL then 11 else 20) else if (s : Int) = ah + 1 ∧ op = false ∧ oL = false then 21 else 22
def wBe (b : Nat → Int) (N s : Nat) (f : Int) : Nat := if sfI b N s < f then wBg b N f.toNat else sBg b N s
def wEe (b : Nat → Int) (N s : Nat) (l : Int) : Nat := if l < slI b N s then wEn b N l.toNat else sEn b N s
noncomputable def wst1 (b : Nat → Int) (N I : Nat) (tc : Nat → Nat) (R : Nat → Nat → Bool) (sf : Nat → Bool) (s : Nat) (f l ah : Int) (op : Bool) (st : WSt) : WSt :=
  pas (mS b N I tc R (stg sf) f l) (mS b N I tc R sf f l) b (wBe b N s f) (wEe b N s l - wBe b N s f) (addS (jnt ah op s (decide (sfI b N s < f))) st)
def CtN (b : Nat → Int) (N I : Nat) (wt tc : Nat → Nat) (R : Nat → Nat → Bool) (n s : Nat) (f l wh : Int) : Prop := CutP (Wn b N) I wt tc R (FN b N) (TN b N) (fW b N s) (fW b N (s + 1)) (leN b N s) n f l wh
def WrR (b : Nat → Int) (N I : Nat) (wt tc : Nat → Nat) (R : Nat → Nat → Bool) (sf : Nat → Bool) (n ch : Nat) : Nat → WSt → Int → Bool → Prop
  | 0, st, ah, op => st = ([], 0, 0) ∧ ah = -1 ∧ op = false
  | s + 1, st, ah, op => ∃ st0 ah0 op0, WrR b N I wt tc R sf n ch s st0 ah0 op0 ∧ ((ch.testBit s = false ∧ st = st0 ∧ ah = ah0 ∧ op = op0) ∨ (ch.testBit s = true ∧ ∃ f l wh, CtN b N I wt tc R n s f l wh ∧ ((wh = 0 ∧ f = -1 ∧ st = st0 ∧ ah = ah0 ∧ op = op0) ∨ (¬ (wh = 0 ∧ f = -1) ∧ st = wst1 b N I tc R sf s f l ah0 op0 st0 ∧ ah = s ∧ op = decide (l < slI b N s)))))
theorem WrR.uniq {b : Nat → Int} {N I : Nat} {wt tc : Nat → Nat} {R : Nat → Nat → Bool} {sf : Nat → Bool} {n ch : Nat} : ∀ {s : Nat} {st st' : WSt} {ah ah' : Int} {op op' : Bool}, WrR b N I wt tc R sf n ch s st ah op → WrR b N I wt tc R sf n ch s st' ah' op' → st = st' ∧ ah = ah' ∧ op = op'
  | 0, _, _, _, _, _, _, h, g => by rw [h.1, h.2.1, h.2.2, g.1, g.2.1, g.2.2]; exact ⟨rfl, rfl, rfl⟩
  | s + 1, st, st', ah, ah', op, op', ⟨st0, ah0, op0, h1, h2⟩, ⟨st1, ah1, op1, g1, g2⟩ => by
    have e := WrR.uniq h1 g1
    obtain ⟨rfl, rfl, rfl⟩ := e
    rcases h2 with ⟨a1, a2, a3, a4⟩ | ⟨a1, f, l, wh, a2, a3⟩ <;> rcases g2 with ⟨b1, b2, b3, b4⟩ | ⟨b1, f', l', wh', b2, b3⟩
    · rw [a2, a3, a4, b2, b3, b4]; exact ⟨rfl, rfl, rfl⟩
    · rw [a1] at b1; cases b1
    · rw [a1] at b1; cases b1
    · obtain ⟨rfl, rfl, rfl⟩ := CutP.uniq a2 b2
      rcases a3 with ⟨c1, c2, c3, c4, c5⟩ | ⟨c1, c2, c3, c4⟩ <;> rcases b3 with ⟨d1, d2, d3, d4, d5⟩ | ⟨d1, d2, d3, d4⟩
      · rw [c3, c4, c5, d3, d4, d5]; exact ⟨rfl, rfl, rfl⟩
      · exact absurd ⟨c1, c2⟩ d1
      · exact absurd ⟨d1, d2⟩ c1
      · rw [c2, c3, c4, d2, d3, d4]; exact ⟨rfl, rfl, rfl⟩
/-- what a cut has of its sentence -/
theorem ct_rng {b : Nat → Int} {N I : Nat} {wt tc : Nat → Nat} {R : Nat → Nat → Bool} {n s : Nat} {f l wh : Int} (hs : s < Sn b N) (h : CtN b N I wt tc R n s f l wh) (hn : ¬ (wh = 0 ∧ f = -1)) : (f = -1 ∧ l = -1 ∧ wBe b N s f = sBg b N s ∧ wEe b N s l = sEn b N s ∧ sfI b N s = -1 ∧ slI b N s = -1) ∨ ∃ p q : Nat, f = p ∧ l = q ∧ fW b N s ≤ p ∧ p ≤ q ∧ q < fW b N (s + 1) ∧ q < Wn b N ∧ sBg b N s ≤ wBe b N s f ∧ wBe b N s f ≤ wBg b N p ∧ wEn b N q ≤ wEe b N s l ∧ wEe b N s l ≤ sEn b N s := by
  have hfl := fW_le b N (s + 1)
  have hse := sEn_b (Sn_lt hs)
  rcases CutP.lt h with ⟨h1, h2, h3⟩ | ⟨p, q, h1, h2, h3, h4, h5⟩
  · left
    have hwh : wh = 1 := by
      rcases h with ⟨_, g, _⟩ | ⟨_, g, _⟩
      · exact g
      · exact absurd ⟨g, h1⟩ hn
    have h4 := h3 hwh
    have e1 : sfI b N s = -1 := if_neg h4
    have e2 : slI b N s = -1 := if_neg h4
    unfold wBe wEe
    rw [e1, e2, h1, h2, if_neg (by omega), if_neg (by omega)]
    exact ⟨rfl, rfl, rfl, rfl, rfl, rfl⟩
  · right
    have inS : ∀ w, fW b N s ≤ w → w < fW b N (s + 1) → sBg b N s ≤ wBg b N w ∧ wEn b N w ≤ sEn b N s := by
      intro w a1 a2
      have g1 := (fW_iff (b := b) (N := N) (w := w) (k := s + 1) (by omega)).mp a2
      have g2 : ¬ soN b N w < s := fun g => by have := (fW_iff (b := b) (N := N) (w := w) (k := s) (by omega)).mpr g; omega
      have g3 : soN b N w = s := by omega
      have g4 := so_in (show w < Wn b N by omega) (by omega)
      have g5 := wEn_sEn (show w < Wn b N by omega) (by omega)
      rw [g3] at g4 g5
      exact ⟨g4.1, g5⟩
    have i1 := inS p h3 (by omega)
    have i2 := inS q (by omega) h5
    have hwd := wd_lt (show q < Wn b N by omega)
    refine ⟨p, q, h1, h2, h3, h4, h5, by omega, ?_⟩
    unfold wBe wEe
    rw [h1, h2, Int.toNat_natCast, Int.toNat_natCast]
    split <;> split <;> omega
theorem jnt_b (ah : Int) (op : Bool) (s : Nat) (oL : Bool) : jnt ah op s oL < 37 ∧ (sBy (jnt ah op s oL)).length ≤ 4 := by
  unfold jnt
  (repeat' split) <;> decide
theorem b_joint {st : WSt} {wb : Nat → Int} {len sb tb ah : Int} {op oL : Bool} {s : Nat} {Q : (Nat → Int) → Int → Prop} (hs : s ≤ 14) (ha : -1 ≤ ah ∧ ah ≤ 14) (h : WrC st wb len sb tb) (hl : st.1.length + 4 ≤ 5760) (hq : ∀ wb' len', WrC (addS (jnt ah op s oL) st) wb' len' sb tb → Q wb' len') : wp_Writer_putJoint wb len ah (bI op) s (bI oL) Q := by
  unfold wp_Writer_putJoint
  unfold jnt at hq
  refine ⟨fun h1 => ⟨⟨by omega, by omega⟩, ?_⟩, fun h1 => ?_⟩
  · rw [if_neg h1] at hq
    have no : ¬ ((s : Int) = ah + 1 ∧ op = false ∧ oL = false) → wp_Writer_put wb len 22 (fun w l => Q w l) := by
      intro g
      rw [if_neg g] at hq
      exact b_addS (by omega) h (by rw [show (sBy 22).length = 4 from rfl]; omega) hq
    refine ⟨¬ ((s : Int) = ah + 1 ∧ op = false ∧ oL = false), no, fun g k => g k.1, fun g => ⟨fun g2 k => (by rw [k.2.1] at g2; exact g2 rfl), fun g2 => ⟨fun g3 k => (by rw [k.2.2] at g3; exact g3 rfl), fun g3 => ?_⟩⟩⟩
    rw [if_pos ⟨g, bI_0 g2, bI_0 g3⟩] at hq
    exact b_addS (by omega) h (by rw [show (sBy 21).length = 1 from rfl]; omega) hq
  · rw [if_pos h1] at hq
    refine ⟨fun y => y = (if oL then (11 : Nat) else 20), ?_, fun g => by rw [bI_0 g]; rfl, fun g => by rw [bI_1 g]; rfl⟩
    rintro _ rfl
    refine b_addS (by split <;> omega) h ?_ hq
    have : (sBy (if oL then 11 else 20)).length ≤ 4 := by split <;> decide
    omega
theorem b_writeSet {b sa wb we ws sb9 se ss sf9 sw qw qt bg en la wr : Nat → Int} {la9 : Nat → Int} {al : Nat → Int} {lo hi : Nat → Int64} {N I : Nat} {wt tc : Nat → Nat} {R : Nat → Nat → Bool} {sf : Nat → Bool} {qf : Int} {n ch : Nat} {z1 z2 z3 z4 z5 z6 z7 : Int} {Q : (Nat → Int) → (Nat → Int) → Int → Int → Int → Int → Int → Int → Int → Prop} (hP : PgA b N la9 sa wb we ws al sb9 se ss sf9 sw lo hi) (hLe : LeA (Sn b N) (leN b N) ss) (hT : TcA (Wn b N) I tc R qt) (hw : QwA I wt qw) (hbg : ∀ v, v < Wn b N → bg v = bs (fun k => R k v) I) (hen : ∀ v, v < Wn b N → en v = bs (fun k => enR tc R k v) I) (hsf : ∀ k, k < I → ib qf k = sf k) (hch : ch < 2 ^ 14)
    (hq : ∀ (la' wr' : Nat → Int) (f l w wh len sb tb : Int) (st : WSt) (ah : Int) (op : Bool), WrR b N I wt tc R sf n ch (Sn b N) st ah op → WrC (if op then addS 11 st else st) wr' len sb tb → Q la' wr' f l w wh len sb tb) : wp_Writer_writeSet b sa wb we ws sb9 se ss sf9 sw qw qt bg en la wr N (Sn b N) qf I z1 z2 z3 z4 z5 z6 z7 ch n Q := by
  obtain ⟨hB, hLt, hSg, hW, hAl, hSn, hPl⟩ := hP
  have hN := hB.1
  have hF := FTo_N (b := b) hN
  have hL := WlA_N hN hSg hW
  have h100 := hF.1
  have h14 := Sn_le b N
  unfold wp_Writer_writeSet
  refine b_begin fun la0 hz => ?_
  have hLbN := Lb_le (b := b) hN
  refine ⟨fun la wr _ _ _ _ len sb tb x14 x15 x16 => ∃ (s : Nat) (st : WSt) (op : Bool), x16 = s ∧ s ≤ Sn b N ∧ x15 = bI op ∧ -1 ≤ x14 ∧ x14 ≤ 14 ∧ WrR b N I wt tc R sf n ch s st x14 op ∧ WrC st wr len sb tb ∧ st.1.length ≤ 26 * s + (if s = 0 then 0 else Lb b N (sEn b N (s - 1))) ∧ st.2.1 ≤ 601 * s ∧ st.2.2 ≤ 601 * s ∧ ∀ k, s ≤ k → k < Sn b N → ∀ i, sBg b N k ≤ i → i < sEn b N k → la i = 0, fun _ _ _ _ _ _ _ _ _ _ _ x16 => Sn b N - x16.toNat, ⟨0, ([], 0, 0), false, rfl, by omega, rfl, by omega, by omega, ⟨rfl, rfl, rfl⟩, WrC_0 wr, by show 0 ≤ _; omega, by show 0 ≤ _; omega, by show 0 ≤ _; omega, fun k _ hk i _ hi => hz i (by have := (sEn_b (Sn_lt hk)).2.1; omega)⟩, ?_⟩
  rintro la wr f0 l0 w0 wh0 len sb tb x14 x15 x16 ⟨s, st, op, rfl, hs, rfl, ha1, ha2, hR, hC, hl1, hl2, hl3, hz⟩
  have lbs : (if s = 0 then 0 else Lb b N (sEn b N (s - 1))) ≤ 5300 := by
    split
    · omega
    · have := (sEn_b (b := b) (N := N) (k := s - 1) (Sn_lt (by omega))).2.1
      exact Nat.le_trans (Lb_mono this) hLbN
  refine ⟨fun h1 => ?_, fun h1 => b_Has (by omega) (by omega) ?_⟩
  · have es : s = Sn b N := by omega
    rw [es] at hR
    refine ⟨fun h2 => ?_, fun h2 => ?_⟩
    · have := hq la wr f0 l0 w0 wh0 len sb tb st x14 op hR
      rw [bI_0 h2, if_neg Bool.false_ne_true] at this
      exact this hC
    · refine b_addS (by omega) hC (by rw [show (sBy 11).length = 2 from rfl]; omega) fun wr' len' h3 => ?_
      have := hq la wr' f0 l0 w0 wh0 len' sb tb st x14 op hR
      rw [bI_1 h2, if_pos rfl] at this
      exact this h3
  · have hsS : s < Sn b N := by omega
    have hse := sEn_b (Sn_lt hsS)
    have lbE : Lb b N (sEn b N s) ≤ 5300 := Nat.le_trans (Lb_mono hse.2.1) hLbN
    have lbP : (if s = 0 then 0 else Lb b N (sEn b N (s - 1))) ≤ Lb b N (sBg b N s) := by
      split
      · exact Nat.zero_le _
      · exact Lb_mono (sBg_lt (show s - 1 < s by omega) (Sn_lt hsS))
    have go : ∀ (la' wr' : Nat → Int) (f' l' w' wh' len' sb' tb' x14' : Int) (op' : Bool) (st' : WSt), -1 ≤ x14' → x14' ≤ 14 → WrR b N I wt tc R sf n ch (s + 1) st' x14' op' → WrC st' wr' len' sb' tb' → st'.1.length ≤ 26 * (s + 1) + Lb b N (sEn b N s) → st'.2.1 ≤ 601 * (s + 1) → st'.2.2 ≤ 601 * (s + 1) → (∀ k, s + 1 ≤ k → k < Sn b N → ∀ i, sBg b N k ≤ i → i < sEn b N k → la' i = 0) → rng ((s : Int) + 1) ∧ (∃ (s2 : Nat) (st : WSt) (op : Bool), (s : Int) + 1 = s2 ∧ s2 ≤ Sn b N ∧ bI op' = bI op ∧ -1 ≤ x14' ∧ x14' ≤ 14 ∧ WrR b N I wt tc R sf n ch s2 st x14' op ∧ WrC st wr' len' sb' tb' ∧ st.1.length ≤ 26 * s2 + (if s2 = 0 then 0 else Lb b N (sEn b N (s2 - 1))) ∧ st.2.1 ≤ 601 * s2 ∧ st.2.2 ≤ 601 * s2 ∧ ∀ k, s2 ≤ k → k < Sn b N → ∀ i, sBg b N k ≤ i → i < sEn b N k → la' i = 0) ∧ Sn b N - ((s : Int) + 1).toNat < Sn b N - (s : Int).toNat := by
      intro la' wr' f' l' w' wh' len' sb' tb' x14' op' st' a1 a2 a3 a4 a5 a6 a7 a8
      exact ⟨⟨by omega, by omega⟩, ⟨s + 1, st', op', by omega, by omega, rfl, a1, a2, a3, a4, by rw [if_neg (by omega), Nat.add_sub_cancel]; exact a5, a6, a7, a8⟩, by omega⟩
    have lbB : Lb b N (sBg b N s) ≤ Lb b N (sEn b N s) := Lb_mono (by omega)
    refine jn11_i ⟨fun h2 => b_cut (le := leN b N) rfl hF hL hT hw hbg hen hPl hLe hsS fun f l w wh hcut => ?_, fun h2 => ?_⟩
    · have hct : CtN b N I wt tc R n s f l wh := hcut
      have main : ¬ (wh = 0 ∧ f = -1) → (0 ≤ (s : Int) ∧ (s : Int) < 14) ∧ jn1 (fun J4 => (f ≤ sf9 (Int.toNat s) → J4 0) ∧ (¬ f ≤ sf9 (Int.toNat s) → J4 1)) (fun y35 => wp_Page_lastWordOf sf9 sw s (fun r36 => jn1 (fun J5 => (r36 ≤ l → J5 0) ∧ (¬ r36 ≤ l → J5 1)) (fun y37 => wp_Writer_putJoint wr len x14 (bI op) s y35 (fun wr1 len1 => wp_Writer_layMarks b wb we ws qt bg la N qf I f l (fun la1 => jn1 (fun J6 => (y35 = 0 → (0 ≤ (s : Int) ∧ (s : Int) < 14) ∧ J6 (sb9 (Int.toNat s))) ∧ (¬ y35 = 0 → (0 ≤ f ∧ f < 100) ∧ J6 (wb (Int.toNat f)))) (fun y41 => jn1 (fun J7 => (y37 = 0 → (0 ≤ (s : Int) ∧ (s : Int) < 14) ∧ J7 (se (Int.toNat s))) ∧ (¬ y37 = 0 → (0 ≤ l ∧ l < 100) ∧ J7 (we (Int.toNat l)))) (fun y42 => wp_Writer_putPassage b la1 wr1 N len1 sb tb y41 y42 (fun wr2 len2 sb2 tb2 => rng ((s : Int) + 1) ∧ (∃ (s2 : Nat) (st : WSt) (op : Bool), (s : Int) + 1 = s2 ∧ s2 ≤ Sn b N ∧ y37 = bI op ∧ -1 ≤ (s : Int) ∧ (s : Int) ≤ 14 ∧ WrR b N I wt tc R sf n ch s2 st s op ∧ WrC st wr2 len2 sb2 tb2 ∧ st.1.length ≤ 26 * s2 + (if s2 = 0 then 0 else Lb b N (sEn b N (s2 - 1))) ∧ st.2.1 ≤ 601 * s2 ∧ st.2.2 ≤ 601 * s2 ∧ ∀ k, s2 ≤ k → k < Sn b N → ∀ i, sBg b N k ≤ i → i < sEn b N k → la1 i = 0) ∧ Sn b N - ((s : Int) + 1).toNat < Sn b N - (s : Int).toNat)))))))) := by
        intro hnn
        have hrg := ct_rng hsS hct hnn
        have hsfv : sf9 s = sfI b N s := (hPl.2 s hsS).2.1
        have hsn := hSn s hsS
        simp only [Int.toNat_natCast]
        rw [hsfv, hsn.1, hsn.2.1]
        refine ⟨⟨by omega, by omega⟩, ?_⟩
        refine ⟨fun y => y = bI (decide (sfI b N s < f)), ?_, fun g => by rw [decide_eq_false (by omega)]; rfl, fun g => by rw [decide_eq_true (by omega)]; rfl⟩
        rintro _ rfl
        refine b_last hPl hsS ?_
        rw [show (if fW b N s < fW b N (s + 1) then (fW b N (s + 1) : Int) - 1 else -1) = slI b N s from rfl]
        refine ⟨fun y => y = bI (decide (l < slI b N s)), ?_, fun g => by rw [decide_eq_false (by omega)]; rfl, fun g => by rw [decide_eq_true (by omega)]; rfl⟩
        rintro _ rfl
        have jb := jnt_b x14 op s (decide (sfI b N s < f))
        refine b_joint (by omega) ⟨ha1, ha2⟩ hC (by omega) fun wr1 len1 hC1 => ?_
        have la4 : (addS (jnt x14 op s (decide (sfI b N s < f))) st).1.length ≤ st.1.length + 4 := by
          show List.length (_ ++ _) ≤ _
          rw [List.length_append]; omega
        have wE_in : wBe b N s f ≤ wEe b N s l ∧ sBg b N s ≤ wBe b N s f ∧ wEe b N s l ≤ sEn b N s := by
          rcases hrg with ⟨_, _, g3, g4, _⟩ | ⟨p, q, g1, g2, g3, g4, g5, g6, g7, g8, g9, g10⟩
          · rw [g3, g4]; omega
          · have := wEn_in (b := b) (N := N) g4 g6
            omega
        have sgs : SgM b N (mS b N I tc R (stg sf) f l) ∧ SgM b N (mS b N I tc R sf f l) := by
          rcases hrg with ⟨g1, g2, _⟩ | ⟨p, q, g1, g2, g3, g4, g5, g6, _⟩
          · unfold mS; rw [if_pos g1, if_pos g1]; exact ⟨fun _ _ _ => rfl, fun _ _ _ => rfl⟩
          · rw [g1, g2, mS_n, mS_n]; exact ⟨mrk_sg _ hT g6, mrk_sg _ hT g6⟩
        have lay : ∀ P : (Nat → Int) → Prop, (∀ la1 : Nat → Int, (∀ i, wBe b N s f ≤ i → i < wEe b N s l → la1 i = (mkk (mS b N I tc R (stg sf) f l i) (mS b N I tc R sf f l i) : Nat)) → (∀ k, s + 1 ≤ k → k < Sn b N → ∀ i, sBg b N k ≤ i → i < sEn b N k → la1 i = 0) → P la1) → wp_Writer_layMarks b wb we ws qt bg la N qf I f l P := by
          intro P hp
          rcases hrg with ⟨g1, g2, g3, g4, _⟩ | ⟨p, q, g1, g2, g3, g4, g5, g6, g7, g8, g9, g10⟩
          · have hp9 := hp la (fun i hi1 hi2 => ?_) (fun k hk => hz k (by omega))
            · rw [g1, g2]
              exact b_layMarks0 hp9
            · unfold mS
              rw [if_pos g1, if_pos g1, mkk_0]
              rw [g3] at hi1
              rw [g4] at hi2
              exact hz s (Nat.le_refl _) hsS i hi1 hi2
          · have hp9 := fun la1 => hp la1
            simp only [g1, g2] at hp9 g7 g8 g9 g10 ⊢
            simp only [mS_n] at hp9
            refine b_layMarks (lo := sBg b N s) (hi := sEn b N s) hB hW hPl.1 hT hbg hsf g4 g6 (by omega) (by omega) (by omega) (fun i hi1 hi2 => hz s (Nat.le_refl _) hsS i hi1 hi2) fun la1 hla => hp9 la1 (fun i hi1 hi2 => hla.1 i (by omega) (by omega)) (fun k hk hk2 i hi1 hi2 => ?_)
            have e2 := sBg_lt (show s < k by omega) (Sn_lt hk2)
            rw [hla.2 i (by omega)]
            exact hz k (by omega) hk2 i hi1 hi2
        refine lay _ fun la1 hm hz1 => ?_
        refine ⟨fun y => y = ((wBe b N s f : Nat) : Int), ?_, fun g => ⟨⟨by omega, by omega⟩, ?_⟩, fun g => ?_⟩
        · rintro _ rfl
          refine ⟨fun y => y = ((wEe b N s l : Nat) : Int), ?_, fun g => ⟨⟨by omega, by omega⟩, ?_⟩, fun g => ?_⟩
          · rintro _ rfl
            have lm1 := Lb_mono (b := b) (N := N) wE_in.2.1
            have lm2 := Lb_mono (b := b) (N := N) wE_in.2.2
            have lm3 := Lb_mono (b := b) (N := N) wE_in.1
            refine b_passage hN sgs.1 sgs.2 (by omega) wE_in.1 hm hC1 (by omega) ⟨by show st.2.1 ≤ 9000; omega, by show st.2.2 ≤ 9000; omega⟩ fun wr2 len2 sb2 tb2 hC2 => ?_
            have pl := pas_len (B := wBe b N s f) (n := wEe b N s l - wBe b N s f) sgs.1 sgs.2 (addS (jnt x14 op s (decide (sfI b N s < f))) st)
            rw [show wBe b N s f + (wEe b N s l - wBe b N s f) = wEe b N s l by omega] at pl
            change (wst1 b N I tc R sf s f l x14 op st).1.length + _ ≤ _ ∧ (wst1 b N I tc R sf s f l x14 op st).2.1 ≤ _ ∧ (wst1 b N I tc R sf s f l x14 op st).2.2 ≤ _ at pl
            have c1 : (addS (jnt x14 op s (decide (sfI b N s < f))) st).2.1 = st.2.1 := rfl
            have c2 : (addS (jnt x14 op s (decide (sfI b N s < f))) st).2.2 = st.2.2 := rfl
            exact go la1 wr2 f l w wh len2 sb2 tb2 s (decide (l < slI b N s)) _ (by omega) (by omega) ⟨st, x14, op, hR, .inr ⟨bI_1 h2, f, l, wh, hct, .inr ⟨hnn, rfl, rfl, rfl⟩⟩⟩ hC2 (by omega) (by omega) (by omega) hz1
          · have g := of_decide_eq_false (bI_0 g)
            show ((sEn b N s : Nat) : Int) = _
            unfold wEe; rw [if_neg g]
          · have g := of_decide_eq_true (bI_1 g)
            rcases hrg with ⟨_, g2, _, _, _, g6⟩ | ⟨p, q, g1, g2, g3, g4, g5, g6, _⟩
            · omega
            · refine ⟨⟨by omega, by omega⟩, ?_⟩
              show _ = ((wEe b N s l : Nat) : Int)
              unfold wEe; rw [if_pos g, g2, Int.toNat_natCast, (hW q g6).2]
        · have g := of_decide_eq_false (bI_0 g)
          show ((sBg b N s : Nat) : Int) = _
          unfold wBe; rw [if_neg g]
        · have g := of_decide_eq_true (bI_1 g)
          rcases hrg with ⟨g1, _, _, _, g5, _⟩ | ⟨p, q, g1, g2, g3, g4, g5, g6, _⟩
          · omega
          · refine ⟨⟨by omega, by omega⟩, ?_⟩
            show _ = ((wBe b N s f : Nat) : Int)
            unfold wBe; rw [if_pos g, g1, Int.toNat_natCast, (hW p (by omega)).1]
      refine ⟨¬ (wh = 0 ∧ f = -1), main, fun g k => g k.1, fun g => ⟨fun g2 k => g2 k.2, fun g2 => ?_⟩⟩
      exact go la wr f l w wh len sb tb x14 op st ha1 ha2 ⟨st, x14, op, hR, .inr ⟨bI_1 h2, f, l, wh, hct, .inl ⟨g, g2, rfl, rfl, rfl⟩⟩⟩ hC (by omega) (by omega) (by omega) (fun k hk => hz k (by omega))
    · exact go la wr f0 l0 w0 wh0 len sb tb x14 op st ha1 ha2 ⟨st, x14, op, hR, .inl ⟨bI_0 h2, rfl, rfl, rfl⟩⟩ hC (by omega) (by omega) (by omega) (fun k hk => hz k (by omega))
