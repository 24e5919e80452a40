/-! B45: query -/
theorem cp8 {f g : Nat → Int} {k : Nat} (h : k < 8) : cpI f g 0 0 8 k = f k := by
  unfold cpI
  rw [if_pos ⟨Nat.zero_le _, by show k < 0 + 8; omega⟩]
  show f (0 + (k - 0)) = f k
  rw [Nat.zero_add]; rfl
theorem cp32 {f g : Nat → Int} {k : Nat} (h : k < 32) : cpI f g 0 0 32 k = f k := by
  unfold cpI
  rw [if_pos ⟨Nat.zero_le _, by show k < 0 + 32; omega⟩]
  show f (0 + (k - 0)) = f k
  rw [Nat.zero_add]; rfl
theorem cp384 {f g : Nat → Int} {k : Nat} (h : k < 384) : cpI f g 0 0 384 k = f k := by
  unfold cpI
  rw [if_pos ⟨Nat.zero_le _, by show k < 0 + 384; omega⟩]
  show f (0 + (k - 0)) = f k
  rw [Nat.zero_add]; rfl
theorem QyG.cp {t : Nat → Int} {N : Nat} {qw qt qz ql qw' qt' qz' ql' : Nat → Int} {qs qf : Int} (hB : Byt t N) (h : QyG (qM t N) t N qw qt qz ql qs qf) (e1 : ∀ k, k < 8 → qw' k = qw k) (e2 : ∀ k, k < 8 → qt' k = qt k) (e3 : ∀ k, k < 32 → qz' k = qz k) (e4 : ∀ k, k < 384 → ql' k = ql k) : QyG (qM t N) t N qw' qt' qz' ql' qs qf := by
  intro k hk
  have hM := qM_le t N
  obtain ⟨g1, g2, g3⟩ := q_rng hB hk
  obtain ⟨h1, h2, h3, h4⟩ := h k hk
  rw [e1 k (by omega), e2 k (by omega)]
  refine ⟨h1, h2, h3, fun u hu => ?_⟩
  have g4 := (g3 u hu).1
  rw [e3 (4 * k + u) (by omega)]
  refine ⟨(h4 u hu).1, (h4 u hu).2.1, fun i hi => ?_⟩
  rw [e4 _ (by omega)]
  exact (h4 u hu).2.2 i hi
theorem MqG.cp {t : Nat → Int} {N : Nat} {nw nt nz nl ns nf nw' nt' nz' nl' ns' nf' : Nat → Int} (hB : Byt t N) (h : MqG (qM t N) t N nw nt nz nl ns nf) (e1 : ∀ k, k < 8 → nw' k = nw k ∧ nt' k = nt k ∧ nf' k = nf k) (e3 : ∀ k, k < 32 → nz' k = nz k ∧ ns' k = ns k) (e4 : ∀ k, k < 384 → nl' k = nl k) : MqG (qM t N) t N nw' nt' nz' nl' ns' nf' := by
  intro k hk
  have hM := qM_le t N
  obtain ⟨g1, g2, g3⟩ := q_rng hB hk
  obtain ⟨h1, h2, h3, h4⟩ := h k hk
  have e := e1 k (by omega)
  rw [e.1, e.2.1, e.2.2]
  refine ⟨h1, h2, h3, fun u hu => ?_⟩
  have g4 := (g3 u hu).1
  have e5 := e3 (4 * k + u) (by omega)
  rw [e5.1, e5.2]
  refine ⟨(h4 u hu).1, (h4 u hu).2.1, fun i hi => ?_⟩
  rw [e4 _ (by omega)]
  exact (h4 u hu).2.2 i hi
theorem b_query {t b wb we ws sf9 sw qw qt qz ql dw dt dz dl bg en to tk : Nat → Int} {lo hi tl : Nat → Int64} {N M li : Nat} {pf qs qf z1 z2 z3 z4 z5 z6 z7 z8 z9 : Int} {Q : Int → (Nat → Int) → (Nat → Int) → (Nat → Int) → (Nat → Int) → (Nat → Int) → (Nat → Int) → (Nat → Int) → (Nat → Int) → (Nat → Int) → (Nat → Int) → (Nat → Int) → (Nat → Int) → Int → Int → Int → Int → Int → Int → Int → Int → Int → Int → Int → Int → Int → (Nat → Int64) → Prop} {E : Nat → (Nat → Int) → (Nat → Int) → (Nat → Int) → (Nat → Int) → (Nat → Int) → (Nat → Int) → (Nat → Int) → (Nat → Int) → (Nat → Int) → (Nat → Int) → (Nat → Int) → (Nat → Int) → Int → Int → Int → Int → Int → Int → Int → Int → Int → Int → Int → Int → Int → (Nat → Int64) → Prop} (hB : Byt t N) (hBb : Byt b M) (hW : WdA b M wb we) (hP : PlA b M ws sf9 sw lo hi)
    (hq : qF t N = -1 → ∀ (qw' qt' qz' ql' dw' dt' dz' dl' bg' en' to' tk' : Nat → Int) (qs' qf' d1 d2 d3 d4 d5 : Int) (tl' : Nat → Int64), QyA (qM t N) (qWt t N) (qTc t N) (qTz t N) (qLt t N) (qSt t N) (qSf t N) qw' qt' qz' ql' qs' qf' → MtI (Wn b M) (Sn b M) (qM t N) (soN b M) (qTc t N) (mch b M (qTc t N) (qTz t N) (qLt t N) (qSt t N)) bg' en' to' tl' → TkA (Sn b M) (tkl b M li) tk' → Q (qM t N : Nat) qw' qt' qz' ql' dw' dt' dz' dl' bg' en' to' tk' (-1) 0 qs' qf' (qM t N : Nat) d1 d2 d3 d4 d5 (M0 (Wn b M) (qM t N) (mch b M (qTc t N) (qTz t N) (qLt t N) (qSt t N)) : Nat) 0 0 tl')
    (hE : qF t N ≠ -1 → ∀ (dw' dt' dz' dl' : Nat → Int) (d1 d2 d3 d4 d5 : Int), E 3 qw qt qz ql dw' dt' dz' dl' bg en to tk (qF t N) 0 qs qf z1 d1 d2 d3 d4 d5 z7 z8 z9 tl) : wp_Picker_query t b wb we ws sf9 sw qw qt qz ql dw dt dz dl bg en to tk pf N M (Wn b M) (Sn b M) qs qf z1 z2 z3 z4 z5 z6 z7 li z8 z9 lo hi tl Q E := by
  unfold wp_Picker_query
  refine b_readAll hB fun dw' dt' dz' dl' ds df di p fl h => ⟨fun h1 => ?_, fun h1 => hE h1 _ _ _ _ _ _ _ _ _⟩
  obtain ⟨rfl, h2⟩ := h h1
  unfold wp_Query_copyFrom
  have h3 := QyG.qya hB (h2.cp (qw' := cpI dw' qw 0 0 8) (qt' := cpI dt' qt 0 0 8) (qz' := cpI dz' qz 0 0 32) (ql' := cpI dl' ql 0 0 384) hB (fun k hk => cp8 hk) (fun k hk => cp8 hk) (fun k hk => cp32 hk) (fun k hk => cp384 hk))
  refine ⟨by decide, by decide, by decide, by decide, b_findAll hBb hW hP h3 fun bg' en' to' tl' hM => ?_⟩
  unfold wp_Sets_startAnew
  refine b_tooLike hP fun tk' hk => ?_
  rw [h1]
  exact hq h1 _ _ _ _ _ _ _ _ _ _ _ _ _ _ _ _ _ _ _ _ h3 hM hk
theorem qM_stop {t : Nat → Int} {N m : Nat} (h1 : m ≤ qM t N) (h2 : m < 8) (h3 : qgo t N m = false) : qM t N = m := by
  rcases Nat.eq_or_lt_of_le h1 with e | e
  · exact e.symm
  · have := sk_all (p := qgo t N) (N := 8) (i := 0) (j := m) (Nat.zero_le _) e
    rw [h3] at this; cases this
theorem b_Mquery {t mt b pg sa wf wt9 so0 mw mq mz mfs ms ml nw nt nz nf ns nl mi mf9 ml9 im : Nat → Int} {N M : Nat} {thr z1 z2 z3 z4 z5 z6 z7 z8 z9 z10 : Int} {Q : Int → (Nat → Int) → (Nat → Int) → (Nat → Int) → (Nat → Int) → (Nat → Int) → (Nat → Int) → (Nat → Int) → (Nat → Int) → (Nat → Int) → (Nat → Int) → (Nat → Int) → (Nat → Int) → (Nat → Int) → (Nat → Int) → (Nat → Int) → (Nat → Int) → Int → Int → Int → Int → Int → Int → Int → Int → Int → Int → Int → Int → Prop} (hT : TpR t mt N) (hBb : Byt b M) (hp : PgE b M pg) (hm : MsA b M sa) (hW : MwA b M wf wt9) (hS : ∀ w, w < Wn b M → so0 w = so b M w) (hnf : BoA nf) (hns : BoA ns) (hnl : ByA nl)
    (hq : qF t N = -1 → ∀ (mw' mq' mz' mfs' ms' ml' nw' nt' nz' nf' ns' nl' mi' mf9' ml9' im' : Nat → Int) (p1 p2 : Int), MqA (qM t N) (qWt t N) (qTc t N) (qTz t N) (qLt t N) (qSt t N) (qSf t N) mw' mq' mz' ml' ms' mfs' → BoA nf' → BoA ns' → ByA nl' → MmA (Wn b M) (qM t N) (qTc t N) (mch b M (qTc t N) (qTz t N) (qLt t N) (qSt t N)) mi' mf9' ml9' im' → Q (qM t N : Nat) mw' mq' mz' mfs' ms' ml' nw' nt' nz' nf' ns' nl' mi' mf9' ml9' im' 0 0 (qM t N : Nat) (qM t N : Nat) p1 p2 N (-1) (M0 (Wn b M) (qM t N) (mch b M (qTc t N) (qTz t N) (qLt t N) (qSt t N)) : Nat) 0 0 0)
    (hE : qF t N ≠ -1 → ∀ (nw' nt' nz' nf' ns' nl' : Nat → Int) (p0 p1 p2 : Int), BoA nf' → BoA ns' → ByA nl' → Q 0 mw mq mz mfs ms ml nw' nt' nz' nf' ns' nl' mi mf9 ml9 im 1 0 z1 p0 p1 p2 N (qF t N) z7 z8 z9 z10) : wp_M_query mt pg sa wf wt9 so0 mw mq mz mfs ms ml nw nt nz nf ns nl mi mf9 ml9 im thr N (sgn b M M) (Wn b M) z1 z2 z3 z4 z5 z6 z7 z8 z9 z10 Q := by
  have hB := hT.1
  have hN := hB.1
  unfold wp_M_query
  refine b_Mblanks hB hT.2 (Nat.zero_le _) ?_
  refine ⟨fun nw nt nz nf ns nl items point _ => ∃ m : Nat, items = m ∧ m ≤ 8 ∧ m ≤ qM t N ∧ point = (qIp t N m : Nat) ∧ qIp t N m ≤ N ∧ fnb t N (qIp t N m) = qIp t N m ∧ MqC m t N nw nt nz nl ns nf, fun _ _ _ _ _ _ items _ _ => 9 - items.toNat, ⟨0, rfl, by omega, by omega, rfl, (fnb_b (Nat.zero_le _)).2, fnb_fnb (Nat.zero_le _), ⟨fun k hk => by omega, hns, hnf, hnl⟩⟩, ?_⟩
  rintro nw nt nz nf ns nl _ _ bgn ⟨m, rfl, hm8, hmM, rfl, hmN, hfi, hC⟩
  refine ⟨fun h1 => ?_, fun h1 => ?_⟩
  · have hge : N ≤ qIp t N m := by omega
    have eM : qM t N = m := by
      rcases Nat.lt_or_ge m 8 with e | e
      · refine qM_stop hmM e ?_
        unfold qgo
        rw [decide_eq_false (by omega)]; rfl
      · have := qM_le t N; omega
    have eF : qF t N = -1 := by unfold qF; rw [eM, if_pos hge]
    obtain ⟨c1, c2, c3, c4⟩ := hC
    rw [← eM] at c1
    refine ⟨fun mw mq mfs x => ∃ i : Nat, x = i ∧ i ≤ 8 ∧ ∀ j, j < i → mw j = nw j ∧ mq j = nt j ∧ mfs j = nf j, fun _ _ _ x => 8 - x.toNat, ⟨0, rfl, by omega, fun j hj => by omega⟩, ?_⟩
    rintro mw mq mfs _ ⟨i, rfl, hi, hj⟩
    refine ⟨fun h2 => ?_, fun h2 => ⟨⟨by omega, by omega⟩, ⟨by omega, by omega⟩, ⟨by omega, by omega⟩, ⟨by omega, by omega⟩, ⟨by omega, by omega⟩, ⟨⟨by omega, by omega⟩, c3 _⟩, ⟨by omega, by omega⟩, ⟨i + 1, by omega, by omega, fun j hj2 => ?_⟩, by (try dsimp only); omega⟩⟩
    · have f1 : ∀ k, k < 8 → mw k = nw k ∧ mq k = nt k ∧ mfs k = nf k := fun k hk => hj k (by omega)
      refine ⟨fun mz ms x => ∃ i : Nat, x = i ∧ i ≤ 32 ∧ ∀ j, j < i → mz j = nz j ∧ ms j = ns j, fun _ _ x => 32 - x.toNat, ⟨0, rfl, by omega, fun j hj => by omega⟩, ?_⟩
      rintro mz ms _ ⟨i, rfl, hi, hj⟩
      refine ⟨fun h3 => ?_, fun h3 => ⟨⟨by omega, by omega⟩, ⟨by omega, by omega⟩, ⟨by omega, by omega⟩, ⟨⟨by omega, by omega⟩, c2 _⟩, ⟨by omega, by omega⟩, ⟨i + 1, by omega, by omega, fun j hj2 => ?_⟩, by (try dsimp only); omega⟩⟩
      · have f2 : ∀ k, k < 32 → mz k = nz k ∧ ms k = ns k := fun k hk => hj k (by omega)
        refine ⟨fun ml x => ∃ i : Nat, x = i ∧ i ≤ 384 ∧ ∀ j, j < i → ml j = nl j, fun _ x => 384 - x.toNat, ⟨0, rfl, by omega, fun j hj => by omega⟩, ?_⟩
        rintro ml _ ⟨i, rfl, hi, hj⟩
        refine ⟨fun h4 => ?_, fun h4 => ⟨⟨by omega, by omega⟩, ⟨⟨by omega, by omega⟩, c4 _⟩, ⟨by omega, by omega⟩, ⟨i + 1, by omega, by omega, fun j hj2 => ?_⟩, by (try dsimp only); omega⟩⟩
        · have f3 : ∀ k, k < 384 → ml k = nl k := fun k hk => hj k (by omega)
          have hY := MqG.mqa hB (c1.cp hB f1 f2 f3)
          rw [← eM]
          exact b_MMatches hBb hp hm hW hS hY fun mi' mf9' ml9' im' hM => hq eF _ _ _ _ _ _ _ _ _ _ _ _ _ _ _ _ _ _ hY c3 c2 c4 hM
        · by_cases e : j = i
          · rw [uI_e (by omega), e]; rfl
          · rw [uI_n (by omega) (by omega)]; exact hj j (by omega)
      · by_cases e : j = i
        · rw [uI_e (by omega), uI_e (by omega), e]; exact ⟨rfl, rfl⟩
        · rw [uI_n (by omega) (by omega), uI_n (by omega) (by omega)]; exact hj j (by omega)
    · by_cases e : j = i
      · rw [uI_e (by omega), uI_e (by omega), uI_e (by omega), e]; exact ⟨rfl, rfl, rfl⟩
      · rw [uI_n (by omega) (by omega), uI_n (by omega) (by omega), uI_n (by omega) (by omega)]; exact hj j (by omega)
  · have hlt : qIp t N m < N := by omega
    refine b_MreadsItem hB hT.2 hm8 hmM hlt hfi hC (fun h8 hok nw' nt' nz' nf' ns' nl' hC' => ⟨fun g => absurd g (by decide), fun _ => ?_⟩) (fun hor nw' nt' nz' nf' ns' nl' p' p d1 d2 d3 hpv => ⟨fun _ => ?_, fun g => absurd rfl g⟩)
    · have hnx := qNx_b hok
      refine b_Mblanks hB hT.2 hnx ⟨⟨m + 1, rfl, by omega, ?_, rfl, (fnb_b hnx).2, fnb_fnb hnx, hC'⟩, by (try dsimp only); omega⟩
      rcases Nat.eq_or_lt_of_le hmM with e | e
      · have := sk_not (p := qgo t N) (N := 8) (i := 0) (by show qM t N < 8; omega)
        have hg : qgo t N (qM t N) = false := this
        rw [← e] at hg
        unfold qgo at hg
        rw [hok, decide_eq_true hlt] at hg
        cases hg
      · omega
    · have hle := qM_le t N
      have eM : qM t N = m := by
        rcases hor with g | g
        · omega
        · rcases Nat.lt_or_ge m 8 with e | e
          · refine qM_stop hmM e ?_
            unfold qgo
            rw [g, Bool.and_false]
          · omega
      have eF : qF t N = (p : Int) := by
        unfold qF
        rw [eM, if_neg (by omega), hpv]
        split
        · next e => rw [e]
        · rfl
      rw [← eF]
      exact hE (by rw [eF]; omega) _ _ _ _ _ _ _ _ _ d1 d2 d3
