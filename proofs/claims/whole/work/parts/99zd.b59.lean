/-! B59: window, least, most, need: the shells -/
theorem us_neg {a : Int} {k : Nat} (hr : rng a) (hk : k < 31) (h : iUshr a k = 0) : 0 ≤ a := by
  apply Classical.byContradiction
  intro hn
  have e : ((Int32.ofInt a).toUInt32 >>> ((Int32.ofInt (k : Int)).toUInt32 &&& Int32.toUInt32 31)).toInt32 = 0 := Int32.toInt_inj.mp (h.trans (by decide))
  have e2 := pk_ushr (Int32.ofInt a) (nI k) k (n_su k (by omega))
  rw [← ofI_n, e] at e2
  have e3 : (Int32.ofInt a).toBitVec.toInt = a := rng_toInt hr
  have e4 : 2 ^ 31 ≤ (Int32.ofInt a).toBitVec.toNat := by
    rw [BitVec.toInt_eq_toNat_cond] at e3
    split at e3
    · omega
    · omega
  have e5 : 0 < (Int32.ofInt a).toBitVec.toNat / 2 ^ k := Nat.div_pos (Nat.le_trans (Nat.pow_le_pow_right (by omega) (by omega)) e4) (Nat.two_pow_pos k)
  rw [← e2] at e5
  exact absurd e5 (by decide)
theorem dv_0 {a P : Nat} (hP : 0 < P) : ((a / P : Nat) : Int) = 0 ↔ a < P := by
  constructor
  · intro h
    apply Classical.byContradiction
    intro hn
    have := Nat.div_pos (show P ≤ a by omega) hP
    omega
  · intro h
    rw [Nat.div_eq_of_lt h]; rfl
theorem sti_of {I set : Nat} (hI : I ≤ 8) (h : set < 2 ^ I) (h0 : set ≠ 0) : StI I set := by
  obtain ⟨i, hi, _⟩ := ne_bit (x := 0) (y := set) (fun j h => by rw [Nat.zero_testBit] at h; cases h) h0
  exact ⟨Nat.lt_of_lt_of_le h (Nat.pow_le_pow_right (by omega) hI), i, lt_bit h hi, hi⟩
theorem rq_items {I : Nat} {a : Int} {K : Prop} {E : Nat → Prop} (hI : I ≤ 8) (hr : rng a) (h1 : ∀ set : Nat, a = set → set < 2 ^ I → StI I set → K) (h2 : ¬ (0 < a ∧ a < ((2 ^ I : Nat) : Int)) → E 3) : wp_Picker_requireItems I a K E := by
  have hP := Nat.two_pow_pos I
  have hr2 : a < 2147483648 := hr.2
  unfold wp_Picker_requireItems
  refine ⟨¬ (0 < a ∧ a < ((2 ^ I : Nat) : Int)), h2, fun e => by omega, fun e => ⟨fun g => ?_, fun g => ?_⟩⟩
  · have h0 := us_neg hr (by omega) g
    obtain ⟨set, rfl⟩ : ∃ set : Nat, a = set := ⟨a.toNat, by omega⟩
    rw [b_ushr (show set < 2 ^ 31 by omega) (by omega)] at g
    have hlt := (dv_0 hP).mp g
    exact h1 set rfl hlt (sti_of hI hlt (by omega))
  · intro hh
    obtain ⟨set, rfl⟩ : ∃ set : Nat, a = set := ⟨a.toNat, by omega⟩
    rw [b_ushr (show set < 2 ^ 31 by omega) (by omega)] at g
    exact g ((dv_0 hP).mpr (by omega))
theorem m_noset {I : Nat} {a : Int} {Q : Int → Prop} (hI : I ≤ 8) (hr : rng a) (h1 : ∀ set : Nat, a = set → set < 2 ^ I → StI I set → Q 0) (h2 : ¬ (0 < a ∧ a < ((2 ^ I : Nat) : Int)) → Q 1) : wp_M_isNoSet I a Q := by
  have hP := Nat.two_pow_pos I
  have hr2 : a < 2147483648 := hr.2
  unfold wp_M_isNoSet
  refine ⟨¬ (0 < a ∧ a < ((2 ^ I : Nat) : Int)), h2, fun e => by omega, fun e => ⟨fun g => ?_, fun g => ?_⟩⟩
  · obtain ⟨set, rfl⟩ : ∃ set : Nat, a = set := ⟨a.toNat, by omega⟩
    rw [b_shr (show set < 2 ^ 31 by omega) (by omega)] at g
    have hlt := (dv_0 hP).mp g
    exact h1 set rfl hlt (sti_of hI hlt (by omega))
  · intro hh
    obtain ⟨set, rfl⟩ : ∃ set : Nat, a = set := ⟨a.toNat, by omega⟩
    rw [b_shr (show set < 2 ^ 31 by omega) (by omega)] at g
    exact g ((dv_0 hP).mpr (by omega))
theorem th_0 {th code : Int} {K : Int → Int → Prop} (h : K 0 th) : wp_M_throwsIf th 0 code K := by
  unfold wp_M_throwsIf
  exact ⟨fun _ => ⟨by decide, h⟩, fun k => absurd rfl k⟩
theorem th_1 {th code : Int} {K : Int → Int → Prop} (h : K 1 code) : wp_M_throwsIf th 1 code K := by
  unfold wp_M_throwsIf
  exact ⟨fun k => absurd k (by decide), fun _ => ⟨by decide, h⟩⟩
theorem b_window {b sa wb we qt bg nx re : Nat → Int} {N I : Nat} {tc : Nat → Nat} {R : Nat → Nat → Bool} {z1 z2 z3 z4 a1 a2 a3 : Int} {Q : Int → (Nat → Int) → (Nat → Int) → Int → Int → Int → Int → Prop} {E : Nat → (Nat → Int) → (Nat → Int) → Int → Int → Int → Int → Prop} (hN : N ≤ 600) (hr : rng a1) (hL : WlA (Wn b N) (FN b N) (TN b N) sa wb we) (hT : TcA (Wn b N) I tc R qt) (hbg : ∀ v, v < Wn b N → bg v = bs (fun k => R k v) I)
    (h1 : ∀ set : Nat, a1 = set → set < 2 ^ I → StI I set → 0 ≤ a3 ∧ a3 ≤ 2 → ∀ nx' re' f l w wh, Q (wpk (Wn b N) I tc R (FN b N) (TN b N) set a2 a3) nx' re' f l w wh) (h2 : ¬ (0 ≤ a3 ∧ a3 ≤ 2) → E 2 nx re z1 z2 z3 z4) (h3 : 0 ≤ a3 ∧ a3 ≤ 2 → ¬ (0 < a1 ∧ a1 < ((2 ^ I : Nat) : Int)) → E 3 nx re z1 z2 z3 z4) : wp_Picker_window sa wb we qt bg nx re (Wn b N) I z1 z2 z3 z4 a1 a2 a3 Q E := by
  have hF := FTo_N (b := b) hN
  have h100 := hF.1
  unfold wp_Picker_window
  refine rq_what (fun g => rq_items hT.1 hr (fun set e hs1 hs => ?_) (fun k => h3 g k)) h2
  subst e
  have hq := h1 set rfl hs1 hs g
  unfold wpk at hq
  refine ⟨fun k => b_seekMin h100 hT hbg hs fun nx' re' f l hf => ?_, fun k => b_countMin h100 hT hbg hs fun nx' re' => ?_⟩
  · have hq := hq nx' re' f l 0 0
    rw [if_neg k] at hq
    rcases hf with ⟨c, rfl⟩ | ⟨c1, c2, rfl, rfl⟩
    · rw [if_neg c] at hq; exact b_found0 hq
    · rw [if_pos ⟨c1, c2⟩] at hq
      have s := nt_spec (p := mnb (Wn b N) I tc R set) (n := Wn b N) (w := a2.toNat) (by omega)
      exact b_found hF hL s.1 (mnb_lt hT h100 hs s.1 s.2.1).1 hq
  · have hq := hq nx' re' z1 z2 z3 z4
    rw [if_pos k] at hq
    exact hq
theorem b_Mwindow {b wf wt9 mt im mi mf ml : Nat → Int} {N I : Nat} {tc : Nat → Nat} {R : Nat → Nat → Bool} {thr a1 a2 a3 : Int} {Q : Int → Int → Prop} (hN : N ≤ 600) (hr : rng a1) (hL : MlA (Wn b N) (FN b N) (TN b N) wf wt9) (hT : TcA (Wn b N) I tc R mt) (hM : MmA (Wn b N) I tc R mi mf ml im)
    (h1 : ∀ set : Nat, a1 = set → set < 2 ^ I → StI I set → 0 ≤ a3 ∧ a3 ≤ 2 → Q (wpk (Wn b N) I tc R (FN b N) (TN b N) set a2 a3) 0) (h2 : ¬ (0 ≤ a3 ∧ a3 ≤ 2) → Q 0 1) (h3 : 0 ≤ a3 ∧ a3 ≤ 2 → ¬ (0 < a1 ∧ a1 < ((2 ^ I : Nat) : Int)) → Q 0 2) : wp_M_window wf wt9 mt im thr (Wn b N) I a1 a2 a3 Q := by
  have hF := FTo_N (b := b) hN
  unfold wp_M_window
  refine m_no (fun g => ⟨fun k => absurd rfl k, fun _ => m_noset hT.1 hr (fun set e hs1 hs => ?_) (fun k => th_1 ⟨fun e => absurd e (by decide), fun _ => h3 g k⟩)⟩) (fun g => ⟨fun _ => h2 g, fun k => absurd k (by decide)⟩)
  subst e
  exact th_0 ⟨fun _ => b_Mwin (Q := fun r => Q r 0) hF hL hT hM hs hs1 (h1 set rfl hs1 hs g), fun k => absurd rfl k⟩
theorem b_leastQ {b sa wb we qt bg nx re : Nat → Int} {N I : Nat} {tc : Nat → Nat} {R : Nat → Nat → Bool} {z1 z2 z3 z4 a1 a2 : Int} {Q : Int → (Nat → Int) → (Nat → Int) → Int → Int → Int → Int → Prop} {E : Nat → (Nat → Int) → (Nat → Int) → Int → Int → Int → Int → Prop} (hN : N ≤ 600) (hr : rng a1) (hL : WlA (Wn b N) (FN b N) (TN b N) sa wb we) (hT : TcA (Wn b N) I tc R qt) (hbg : ∀ v, v < Wn b N → bg v = bs (fun k => R k v) I)
    (h1 : ∀ set : Nat, a1 = set → set < 2 ^ I → StI I set → 0 ≤ a2 ∧ a2 ≤ 2 → ∀ nx' re' f l w wh, Q (lsI (Wn b N) I tc R (FN b N) (TN b N) set a2) nx' re' f l w wh) (h2 : ¬ (0 ≤ a2 ∧ a2 ≤ 2) → E 2 nx re z1 z2 z3 z4) (h3 : 0 ≤ a2 ∧ a2 ≤ 2 → ¬ (0 < a1 ∧ a1 < ((2 ^ I : Nat) : Int)) → E 3 nx re z1 z2 z3 z4) : wp_Picker_least sa wb we qt bg nx re (Wn b N) I z1 z2 z3 z4 a1 a2 Q E := by
  have hF := FTo_N (b := b) hN
  have h100 := hF.1
  unfold wp_Picker_least
  refine rq_what (fun g => rq_items hT.1 hr (fun set e hs1 hs => ?_) (fun k => h3 g k)) h2
  subst e
  refine b_seekLeast hF hL hT hbg hs fun nx' re' => ?_
  have hq := h1 set rfl hs1 hs g nx' re'
  unfold lsI at hq
  cases e : lsf (Wn b N) I tc R (FN b N) (TN b N) set (Wn b N) with
  | none => rw [e] at hq; exact b_found0 (hq _ _ _ _)
  | some p =>
    rw [e] at hq
    have s := lsf_sp e
    exact b_found (a := p) (b := rch (Wn b N) I tc R set p) hF hL s.1 (mnb_lt hT h100 hs s.1 s.2).1 (hq _ _ _ _)
theorem b_MleastQ {b wf wt9 mt im mi mf ml : Nat → Int} {N I : Nat} {tc : Nat → Nat} {R : Nat → Nat → Bool} {thr a1 a2 : Int} {Q : Int → Int → Prop} (hN : N ≤ 600) (hr : rng a1) (hL : MlA (Wn b N) (FN b N) (TN b N) wf wt9) (hT : TcA (Wn b N) I tc R mt) (hM : MmA (Wn b N) I tc R mi mf ml im)
    (h1 : ∀ set : Nat, a1 = set → set < 2 ^ I → StI I set → 0 ≤ a2 ∧ a2 ≤ 2 → Q (lsI (Wn b N) I tc R (FN b N) (TN b N) set a2) 0) (h2 : ¬ (0 ≤ a2 ∧ a2 ≤ 2) → Q 0 1) (h3 : 0 ≤ a2 ∧ a2 ≤ 2 → ¬ (0 < a1 ∧ a1 < ((2 ^ I : Nat) : Int)) → Q 0 2) : wp_M_least wf wt9 mt im thr (Wn b N) I a1 a2 Q := by
  have hF := FTo_N (b := b) hN
  unfold wp_M_least
  refine m_no (fun g => ⟨fun k => absurd rfl k, fun _ => m_noset hT.1 hr (fun set e hs1 hs => ?_) (fun k => th_1 ⟨fun e => absurd e (by decide), fun _ => h3 g k⟩)⟩) (fun g => ⟨fun _ => h2 g, fun k => absurd k (by decide)⟩)
  subst e
  exact th_0 ⟨fun _ => b_Mleast (Q := fun r => Q r 0) hF hL hT hM hs hs1 (h1 set rfl hs1 hs g), fun k => absurd rfl k⟩
theorem b_mostQ {b sa wb we qt en : Nat → Int} {N I : Nat} {tc : Nat → Nat} {R : Nat → Nat → Bool} {a1 : Int} {Q : Int → Prop} {E : Nat → Prop} (hN : N ≤ 600) (hL : WlA (Wn b N) (FN b N) (TN b N) sa wb we) (hT : TcA (Wn b N) I tc R qt) (hen : ∀ v, v < Wn b N → en v = bs (fun k => enR tc R k v) I)
    (h1 : ∀ n : Nat, a1 = n → 1 ≤ n → n ≤ 600 → Q (mos (Wn b N) I tc R (FN b N) (TN b N) n (Wn b N) : Nat)) (h2 : ¬ (1 ≤ a1 ∧ a1 ≤ 600) → E 3) : wp_Picker_most sa wb we qt en (Wn b N) I a1 Q E := by
  have hF := FTo_N (b := b) hN
  unfold wp_Picker_most
  refine rq_num (fun g => ?_) h2
  obtain ⟨n, rfl⟩ : ∃ n : Nat, a1 = n := ⟨a1.toNat, by omega⟩
  exact b_most hF hL hT hen (h1 n rfl (by omega) (by omega))
theorem b_MmostQ {b wf wt9 mt im mi mf ml : Nat → Int} {N I : Nat} {tc : Nat → Nat} {R : Nat → Nat → Bool} {thr a1 : Int} {Q : Int → Int → Prop} (hN : N ≤ 600) (hL : MlA (Wn b N) (FN b N) (TN b N) wf wt9) (hT : TcA (Wn b N) I tc R mt) (hM : MmA (Wn b N) I tc R mi mf ml im)
    (h1 : ∀ n : Nat, a1 = n → 1 ≤ n → n ≤ 600 → Q (mos (Wn b N) I tc R (FN b N) (TN b N) n (Wn b N) : Nat) 0) (h2 : ¬ (1 ≤ a1 ∧ a1 ≤ 600) → Q 0 1) : wp_M_most wf wt9 mt im thr (Wn b N) I a1 Q := by
  have hF := FTo_N (b := b) hN
  unfold wp_M_most
  refine m_no (fun g => ⟨fun _ => ?_, fun k => absurd rfl k⟩) (fun g => ⟨fun k => absurd k (by decide), fun _ => h2 g⟩)
  obtain ⟨n, rfl⟩ : ∃ n : Nat, a1 = n := ⟨a1.toNat, by omega⟩
  exact b_Mmost (Q := fun r => Q r 0) hF hL hT hM (h1 n rfl (by omega) (by omega))
theorem b_needQ {S I mo : Nat} {wt le : Nat → Nat} {ta : Nat → Nat → Nat} {tk : Nat → Nat → Bool} {qw ss tl : Nat → Int} {tal9 : Nat → Int64} {z1 z2 z3 z4 z5 z6 a : Int} {Q : Int → Int → Int → Int → Int → Int → Int → Prop} {E : Nat → Int → Int → Int → Int → Int → Int → Prop} (hw : QwA I wt qw) (hT : TaA S ta tal9) (hL : LeA S le ss) (hK : TkA S tk tl) (hsy : ∀ s o, tk s o = tk o s) (hir : ∀ s, tk s s = false) (hmo : mo ≤ 6)
    (h1 : ∀ v : Nat, a = v → 1 ≤ v → v ≤ 1008 → ∀ r y1 y2 y3 y4 y5 y6, NdP S I wt le ta tk mo v r → Q r y1 y2 y3 y4 y5 y6) (h2 : ¬ (1 ≤ a ∧ a ≤ 1008) → E 3 z1 z2 z3 z4 z5 z6) : wp_Picker_need ss qw tl S I mo z1 z2 z3 z4 z5 z6 tal9 a Q E := by
  unfold wp_Picker_need
  refine rq_num (fun g => ?_) h2
  obtain ⟨v, rfl⟩ : ∃ v : Nat, a = v := ⟨a.toNat, by omega⟩
  exact b_least hw hT hL hK hsy hir hmo ⟨by omega, by omega⟩ (h1 v rfl (by omega) (by omega))
theorem b_MneedQ {b so0 lk fr to hwa mw mi mf ml im wo ln9 ins tk : Nat → Int} {N I li mo : Nat} {wt tc : Nat → Nat} {R : Nat → Nat → Bool} {thr al ak a : Int} {Q : Int → (Nat → Int) → (Nat → Int) → (Nat → Int) → (Nat → Int) → Int → Int → Int → Prop} (hB : MBs b N I wt tc R so0 lk fr to hwa mw mi mf ml im) (hal : al = 0 ∨ (al = 1 ∧ StA (Sn b N) I wt (taN b N I R) (leN b N) wo ln9)) (hak : ak = 0 ∨ (ak = 1 ∧ TkA (Sn b N) (tkl b N li) tk))
    (h1 : ∀ v : Nat, a = v → 1 ≤ v → v ≤ 1008 → ∀ (r : Int) (wo' ln' ins' tk' : Nat → Int), StA (Sn b N) I wt (taN b N I R) (leN b N) wo' ln' → TkA (Sn b N) (tkl b N li) tk' → NdP (Sn b N) I wt (leN b N) (taN b N I R) (tkl b N li) mo v r → Q r wo' ln' ins' tk' 0 1 1) (h2 : ¬ (1 ≤ a ∧ a ≤ 1008) → Q 0 wo ln9 ins tk 1 al ak) : wp_M_need so0 lk fr to hwa mw mi mf wo ln9 ins tk thr (Wn b N) (Sn b N) I (M0 (Wn b N) I R) al ak mo li a Q := by
  unfold wp_M_need
  refine m_no (fun g => ⟨fun _ => ?_, fun k => absurd rfl k⟩) (fun g => ⟨fun k => absurd k (by decide), fun _ => h2 g⟩)
  obtain ⟨v, rfl⟩ : ∃ v : Nat, a = v := ⟨a.toNat, by omega⟩
  refine b_MLike hB hal hak fun wo' ln' ins' tk' hSt hTk => ?_
  exact b_Mneed (tc := tc) (Q := fun r => Q r wo' ln' ins' tk' 0 1 1) hSt hTk (by omega) fun r hr => h1 v rfl (by omega) (by omega) r wo' ln' ins' tk' hSt hTk hr
