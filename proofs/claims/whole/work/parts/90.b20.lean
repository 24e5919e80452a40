/-! B20: best set, need, loss, variety -/
theorem ndiff_0 {a : Nat} (ha : a < 2 ^ 31) : ndiff a 0 = a := by
  apply Nat.eq_of_testBit_eq
  intro i
  rw [ndiff_bit i ha, Nat.zero_testBit]
  simp
def BsP (S I : Nat) (wt le : Nat → Nat) (ta : Nat → Nat → Nat) (tk : Nat → Nat → Bool) (mo bu wi x : Nat) : Prop := Bst S (wZ S I wt ta) (lS S le) (fun y => may S le tk mo bu y = true ∧ y &&& wi = 0) x
theorem bst_1008 {S I : Nat} {wt le : Nat → Nat} {ta : Nat → Nat → Nat} {tk : Nat → Nat → Bool} {qw : Nat → Int} {mo bu wi x : Nat} (hw : QwA I wt qw) (h : Bst S (fun y => min (wZ S I wt ta y) 1008) (lS S le) (fun y => may S le tk mo bu y = true ∧ y &&& wi = 0) x) : BsP S I wt le ta tk mo bu wi x := by
  refine ⟨h.1, h.2.1, fun y hy hp => ?_⟩
  have h1 := h.2.2 y hy hp
  have h2 := wZ_le (S := S) (ta := ta) hw y
  have h3 := wZ_le (S := S) (ta := ta) hw x
  unfold ble at h1 ⊢
  dsimp only at h1
  omega
theorem b_best {S I : Nat} {wt le : Nat → Nat} {ta : Nat → Nat → Nat} {tk : Nat → Nat → Bool} {qw ss tl : Nat → Int} {tal9 : Nat → Int64} {mo bu : Nat} {bk be z1 z2 z3 z4 z5 z6 : Int} {Q : Int → Int → Int → Int → Int → Int → Int → Int → Int → Prop} (hw : QwA I wt qw) (hT : TaA S ta tal9) (hL : LeA S le ss) (hK : TkA S tk tl) (hsy : ∀ s o, tk s o = tk o s) (hir : ∀ s, tk s s = false) (hmo : mo ≤ 6) (hro : bu ≤ 700) (hk : bk = 0 ∨ (bk = 1 ∧ ∃ x : Nat, be = x ∧ BsP S I wt le ta tk mo bu 0 x))
    (hq : ∀ (x : Nat) z1 z2 z3 z4 z5 z6, BsP S I wt le ta tk mo bu 0 x → Q (x : Nat) 1 (x : Nat) z1 z2 z3 z4 z5 z6) : wp_Sets_bestSet ss qw tl S I bu mo bk be z1 z2 z3 z4 z5 z6 tal9 Q := by
  have hS := hL.1
  unfold wp_Sets_bestSet
  refine ⟨fun h => ?_, fun h => b_ofWorth hS hT ?_⟩
  · rcases hk with e | ⟨e, x, rfl, hx⟩
    · exact absurd e h
    · rw [e]; exact hq x _ _ _ _ _ _ hx
  · rw [← ndiff_0 (bs_31 (fwo ta) (show S ≤ 31 by omega))]
    exact b_seekTop (en := 1008) hw hT hL hK hsy hir hmo hro fun x hx => hq x _ _ _ _ _ _ (bst_1008 hw hx)
/-- the least budget for a worth -/
theorem b_least {S I : Nat} {wt le : Nat → Nat} {ta : Nat → Nat → Nat} {tk : Nat → Nat → Bool} {qw ss tl : Nat → Int} {tal9 : Nat → Int64} {mo v : Nat} {z1 z2 z3 z4 z5 z6 : Int} {Q : Int → Int → Int → Int → Int → Int → Int → Prop} (hw : QwA I wt qw) (hT : TaA S ta tal9) (hL : LeA S le ss) (hK : TkA S tk tl) (hsy : ∀ s o, tk s o = tk o s) (hir : ∀ s, tk s s = false) (hmo : mo ≤ 6) (hv : 1 ≤ v ∧ v ≤ 1008)
    (hq : ∀ (r : Int) z1 z2 z3 z4 z5 z6, ((r = -1 ∧ ∀ y, y < 2 ^ S → may S le tk mo 700 y = true → wZ S I wt ta y < v) ∨ (∃ x, x < 2 ^ S ∧ may S le tk mo 700 x = true ∧ v ≤ wZ S I wt ta x ∧ r = max (lS S le x : Int) 20 ∧ ∀ y, y < 2 ^ S → may S le tk mo 700 y = true → v ≤ wZ S I wt ta y → lS S le x ≤ lS S le y)) → Q r z1 z2 z3 z4 z5 z6) : wp_Sets_leastBudgetFor ss qw tl S I mo z1 z2 z3 z4 z5 z6 tal9 v Q := by
  have hS := hL.1
  unfold wp_Sets_leastBudgetFor
  refine b_ofWorth hS hT ?_
  rw [← ndiff_0 (bs_31 (fwo ta) (show S ≤ 31 by omega))]
  refine b_seekTop (en := v) (ro := 700) hw hT hL hK hsy hir hmo (by omega) fun x hx => ⟨fun h => hq _ _ _ _ _ _ _ (.inr ⟨x, hx.1, hx.2.1.1, by omega, rfl, fun y hy1 hy2 hy3 => ?_⟩), fun h => hq _ _ _ _ _ _ _ (.inl ⟨rfl, fun y hy1 hy2 => ?_⟩)⟩
  · have := hx.2.2 y hy1 ⟨hy2, Nat.and_zero _⟩
    unfold ble at this
    dsimp only at this
    omega
  · have := hx.2.2 y hy1 ⟨hy2, Nat.and_zero _⟩
    unfold ble at this
    dsimp only at this
    omega
theorem bit_and0 {x s : Nat} : x &&& 2 ^ s = 0 ↔ x.testBit s = false := by
  constructor
  · intro h
    have : (x &&& 2 ^ s).testBit s = false := by rw [h, Nat.zero_testBit]
    rw [Nat.testBit_and, Nat.testBit_two_pow_self, Bool.and_true] at this
    exact this
  · intro h
    apply Nat.eq_of_testBit_eq
    intro i
    rw [Nat.zero_testBit, Nat.testBit_and, Nat.testBit_two_pow]
    by_cases e : s = i
    · rw [← e, h]; rfl
    · rw [decide_eq_false e, Bool.and_false]
theorem b_loss {S I : Nat} {wt le : Nat → Nat} {ta : Nat → Nat → Nat} {tk : Nat → Nat → Bool} {qw ss tl : Nat → Int} {tal9 : Nat → Int64} {mo bu s : Nat} {bk be z1 z2 z3 z4 z5 z6 : Int} {Q : Int → Int → Int → Int → Int → Int → Int → Int → Int → Prop} (hw : QwA I wt qw) (hT : TaA S ta tal9) (hL : LeA S le ss) (hK : TkA S tk tl) (hsy : ∀ s o, tk s o = tk o s) (hir : ∀ s, tk s s = false) (hmo : mo ≤ 6) (hro : bu ≤ 700) (hk : bk = 0 ∨ (bk = 1 ∧ ∃ x : Nat, be = x ∧ BsP S I wt le ta tk mo bu 0 x)) (hs : s < S)
    (hq : ∀ (x y : Nat) z1 z2 z3 z4 z5 z6, BsP S I wt le ta tk mo bu 0 x → BsP S I wt le ta tk mo bu (2 ^ s) y → Q ((wZ S I wt ta x : Int) - wZ S I wt ta y) 1 (x : Nat) z1 z2 z3 z4 z5 z6) : wp_Sets_lossWithout ss qw tl S I bu mo bk be z1 z2 z3 z4 z5 z6 tal9 s Q := by
  have hS := hL.1
  have hP := p14 hS
  unfold wp_Sets_lossWithout
  refine b_best hw hT hL hK hsy hir hmo hro hk fun x z1 z2 z3 z4 z5 z6 hx => b_worthSet hS hw hT (by have := hx.1; omega) (b_Has (by have := hx.1; omega) (by omega) ⟨fun h => b_ofWorth hS hT ?_, fun h => ?_⟩)
  · rw [b_shl1 (by omega), b_andn (bs_31 (fwo ta) (show S ≤ 31 by omega))]
    refine b_seekTop (en := 1008) hw hT hL hK hsy hir hmo hro fun y hy => ?_
    have h2 := wZ_le (S := S) (ta := ta) hw y
    have h3 := wZ_le (S := S) (ta := ta) hw x
    refine ⟨⟨by omega, by omega⟩, ?_⟩
    have := hq x y (mo : Nat) (bu : Nat) ((1008 : Nat) : Int) (y : Nat) (min (wZ S I wt ta y) 1008 : Nat) (lS S le y : Nat) hx (bst_1008 hw hy)
    rw [show ((min (wZ S I wt ta y) 1008 : Nat) : Int) = (wZ S I wt ta y : Int) by omega] at this ⊢
    exact this
  · have hx2 : BsP S I wt le ta tk mo bu (2 ^ s) x := ⟨hx.1, ⟨hx.2.1.1, bit_and0.mpr (bI_0 h)⟩, fun y hy hp => hx.2.2 y hy ⟨hp.1, Nat.and_zero _⟩⟩
    have := hq x x z1 z2 z3 z4 z5 z6 hx hx2
    rw [Int.sub_self] at this
    exact this
/-! variety -/
def vle (x y : Nat) : Prop := bc y < bc x ∨ (bc y = bc x ∧ x ≤ y)
theorem vle_refl (x : Nat) : vle x x := .inr ⟨rfl, Nat.le_refl _⟩
theorem vle_trans {x y z : Nat} (h : vle x y) (g : vle y z) : vle x z := by unfold vle at *; omega
theorem vle_anti {x y : Nat} (h : vle x y) (g : vle y x) : x = y := by unfold vle at *; omega
def Vst (S : Nat) (tk : Nat → Nat → Bool) (x : Nat) : Prop := x < 2 ^ S ∧ ap S tk x = true ∧ ∀ y, y < 2 ^ S → ap S tk y = true → vle x y
theorem Vst.uniq {S : Nat} {tk : Nat → Nat → Bool} {x y : Nat} (h : Vst S tk x) (g : Vst S tk y) : x = y := vle_anti (h.2.2 y g.1 g.2.1) (g.2.2 x h.1 h.2.1)
def VFam (S : Nat) (tk : Nat → Nat → Bool) (set fr y : Nat) : Prop := y < 2 ^ S ∧ (∀ i, set.testBit i = true → y.testBit i = true) ∧ (∀ i, y.testBit i = true → set.testBit i = false → fr.testBit i = true) ∧ ap S tk y = true
theorem bc_split {x y z : Nat} (h : ∀ i, x.testBit i = true → y.testBit i = true ∨ z.testBit i = true) : bc x ≤ bc y + bc z := by
  have h1 := cn_or_and y.testBit z.testBit 31
  have h2 : bc x ≤ cn (fun i => y.testBit i || z.testBit i) 31 := cn_imp fun i _ hi => by
    rcases h i hi with g | g
    · rw [g]; rfl
    · rw [g, Bool.or_true]
  unfold bc at *
  omega
theorem b_enlarge {S : Nat} {tk : Nat → Nat → Bool} {tl : Nat → Int} (hS : S ≤ 14) (hK : TkA S tk tl) (hsy : ∀ s o, tk s o = tk o s) (hir : ∀ s, tk s s = false) :
    ∀ (n set fr d la : Nat) (Q : Int → Prop), S + 1 ≤ d + n → d ≤ S → set < 2 ^ S → fr < 2 ^ S → la < 2 ^ S → ap S tk set = true → (∀ i, set.testBit i = true → i < d) → (∀ i, fr.testBit i = true → d ≤ i) → (∀ i, fr.testBit i = true → ∀ s, s < S → set.testBit s = true → tk s i = false) →
    (∀ la', la' < 2 ^ S → (la' = la ∨ VFam S tk set fr la') → vle la' la → (∀ y, VFam S tk set fr y → vle la' y) → Q (la' : Nat)) → wp_Search_enlarge n tl S (la : Nat) (set : Nat) (fr : Nat) (d : Nat) Q := by
  have hP := p14 hS
  intro n
  induction n with
  | zero => intro set fr d la Q h1 h2; omega
  | succ n ih =>
    intro set fr d la Q hd1 hd2 hset hfr hla hapS hbel hfd hap hq
    have c1 := bc_le set
    have c2 := bc_le fr
    have c3 := bc_le la
    unfold wp_Search_enlarge
    refine b_bits (by omega) (b_bits (by omega) ⟨⟨by omega, by omega⟩, b_bits (by omega) ⟨fun h => ⟨fun h2 => ?_, fun h2 => ?_⟩, fun h => hq la hla (.inl rfl) (vle_refl _) fun y hy => ?_⟩⟩)
    · have hdS : d < S := by omega
      have hdn : set.testBit d = false := by
        cases e : set.testBit d
        · rfl
        · have := hbel d e; omega
      have hlo : set ||| 2 ^ d < 2 ^ S := Nat.or_lt_two_pow hset (Nat.pow_lt_pow_right (by omega) hdS)
      have nd := fun i => ndiff_bit (b := 2 ^ d) i (show fr < 2 ^ 31 by omega)
      have ndl : ndiff fr (2 ^ d) < 2 ^ S := by unfold ndiff; exact Nat.lt_of_le_of_lt Nat.and_le_left hfr
      have nd2 := fun i => ndiff_bit (b := bs (tk d) S) i (show ndiff fr (2 ^ d) < 2 ^ 31 by omega)
      have ndl2 : ndiff (ndiff fr (2 ^ d)) (bs (tk d) S) < 2 ^ S := by
        have : ndiff (ndiff fr (2 ^ d)) (bs (tk d) S) ≤ ndiff fr (2 ^ d) := by unfold ndiff; exact Nat.and_le_left
        omega
      have ndb : ∀ i, (ndiff fr (2 ^ d)).testBit i = true → fr.testBit i = true ∧ i ≠ d := by
        intro i hi
        rw [nd, Bool.and_eq_true, Nat.testBit_two_pow] at hi
        refine ⟨hi.1, fun e => ?_⟩
        have := hi.2
        rw [e, decide_eq_true rfl] at this; cases this
      have rest : ∀ la1 : Nat, la1 < 2 ^ S → (la1 = la ∨ VFam S tk set fr la1) → vle la1 la → (∀ y, VFam S tk set fr y → y.testBit d = true → vle la1 y) → wp_Search_enlarge n tl S (la1 : Nat) (set : Nat) (ndiff fr (2 ^ d) : Nat) ((d + 1 : Nat) : Int) (fun r => Q r) := by
        intro la1 hl1 hl2 hl3 hl4
        refine ih set (ndiff fr (2 ^ d)) (d + 1) la1 _ (by omega) (by omega) hset ndl hl1 hapS (fun i hi => by have := hbel i hi; omega) (fun i hi => ?_) (fun i hi s hs1 hs2 => hap i (ndb i hi).1 s hs1 hs2) fun la2 g1 g2 g3 g4 => ?_
        · have h1 := ndb i hi
          have h2 := hfd i h1.1
          omega
        · refine hq la2 g1 ?_ (vle_trans g3 hl3) fun y hy => ?_
          · rcases g2 with e | e
            · rw [e]; exact hl2
            · exact .inr ⟨e.1, e.2.1, fun i hi1 hi2 => (ndb i (e.2.2.1 i hi1 hi2)).1, e.2.2.2⟩
          · cases e : y.testBit d
            · refine g4 y ⟨hy.1, hy.2.1, fun i hi1 hi2 => ?_, hy.2.2.2⟩
              rw [nd, hy.2.2.1 i hi1 hi2, Nat.testBit_two_pow, decide_eq_false]
              · rfl
              · intro e2; rw [e2, hi1] at e; cases e
            · exact vle_trans g3 (hl4 y hy e)
      rw [b_shl1 (by omega), b_andn (show fr < 2 ^ 31 by omega)]
      refine b_Has (by omega) (by omega) (jn1_i ⟨fun h3 => ⟨⟨by omega, by omega⟩, ?_⟩, fun h3 => ⟨⟨by omega, by omega⟩, ⟨by omega, by omega⟩, ?_⟩⟩)
      · rw [show (d : Int) + 1 = ((d + 1 : Nat) : Int) by omega]
        refine rest la hla (.inl rfl) (vle_refl _) fun y hy hyd => ?_
        have := hy.2.2.1 d hyd hdn
        rw [bI_0 h3] at this; cases this
      · rw [Int.toNat_natCast, hK d hdS, b_or (by omega) (p2_31 (by omega)), b_andn (show ndiff fr (2 ^ d) < 2 ^ 31 by omega), show (d : Int) + 1 = ((d + 1 : Nat) : Int) by omega]
        have hapd : ap S tk (set ||| 2 ^ d) = true := by
          refine ap_iff.mpr fun s hs1 hs2 o ho1 ho2 => ?_
          rw [tb_or1] at hs2 ho2
          rcases Bool.or_eq_true_iff.mp hs2 with g | g <;> rcases Bool.or_eq_true_iff.mp ho2 with g' | g'
          · exact ap_iff.mp hapS s hs1 g o ho1 g'
          · rw [← of_decide_eq_true g']; exact hap d (bI_1 h3) s hs1 g
          · rw [← of_decide_eq_true g, hsy]; exact hap d (bI_1 h3) o ho1 g'
          · rw [← of_decide_eq_true g, ← of_decide_eq_true g']; exact hir d
        refine ih (set ||| 2 ^ d) (ndiff (ndiff fr (2 ^ d)) (bs (tk d) S)) (d + 1) la _ (by omega) (by omega) hlo ndl2 hla hapd (fun i hi => ?_) (fun i hi => ?_) (fun i hi s hs1 hs2 => ?_) fun la1 g1 g2 g3 g4 => ⟨⟨by omega, by omega⟩, rest la1 g1 ?_ g3 fun y hy hyd => g4 y ⟨hy.1, fun i hi => ?_, fun i hi1 hi2 => ?_, hy.2.2.2⟩⟩
        · rw [tb_or1] at hi
          rcases Bool.or_eq_true_iff.mp hi with g | g
          · have := hbel i g; omega
          · have := of_decide_eq_true g; omega
        · rw [nd2, Bool.and_eq_true] at hi
          have h1 := ndb i hi.1
          have h2 := hfd i h1.1
          omega
        · rw [nd2, Bool.and_eq_true] at hi
          have h1 := ndb i hi.1
          rw [tb_or1] at hs2
          rcases Bool.or_eq_true_iff.mp hs2 with g | g
          · exact hap i h1.1 s hs1 g
          · rw [← of_decide_eq_true g]
            have h5 := hi.2
            rw [bs_in (lt_bit hfr h1.1)] at h5
            cases e : tk d i
            · rfl
            · rw [e] at h5; cases h5
        · rcases g2 with e | e
          · exact .inl e
          · refine .inr ⟨e.1, fun i hi => e.2.1 i (or_sub set d i hi), fun i hi1 hi2 => ?_, e.2.2.2⟩
            by_cases ed : i = d
            · rw [ed]; exact bI_1 h3
            · have := e.2.2.1 i hi1 (by rw [tb_or1, hi2, decide_eq_false (fun h => ed h.symm)]; rfl)
              rw [nd2, Bool.and_eq_true] at this
              exact (ndb i this.1).1
        · rw [tb_or1] at hi
          rcases Bool.or_eq_true_iff.mp hi with g | g
          · exact hy.2.1 i g
          · rw [← of_decide_eq_true g]; exact hyd
        · rw [tb_or1, Bool.or_eq_false_iff] at hi2
          have h5 := hy.2.2.1 i hi1 hi2.1
          have h6 := of_decide_eq_false hi2.2
          have hiS := lt_bit hy.1 hi1
          rw [nd2, nd, h5, Nat.testBit_two_pow, decide_eq_false h6, bs_in hiS, ap_iff.mp hy.2.2.2 d hdS hyd i hiS hi1]
          rfl
    · have hf0 : fr = 0 := by
        apply Nat.eq_of_testBit_eq
        intro i
        rw [Nat.zero_testBit]
        cases e : fr.testBit i
        · rfl
        · have := hfd i e
          have := lt_bit hfr e
          omega
      have hb0 : bc fr = 0 := by rw [hf0]; exact cn_zero fun i _ => Nat.zero_testBit i
      have only : ∀ y, VFam S tk set fr y → y = set := by
        intro y hy
        apply Classical.byContradiction
        intro hne
        obtain ⟨i, g1, g2⟩ := ne_bit hy.2.1 hne
        have := hy.2.2.1 i g1 g2
        rw [hf0, Nat.zero_testBit] at this; cases this
      have hself : VFam S tk set fr set := ⟨hset, fun i h => h, fun i h1 h2 => (by rw [h1] at h2; cases h2), hapS⟩
      have take : vle set la → Q (set : Nat) := fun hv => hq set hset (.inr hself) hv fun y hy => by rw [only y hy]; exact vle_refl _
      have keep : vle la set → Q (la : Nat) := fun hv => hq la hla (.inl rfl) (vle_refl _) fun y hy => by rw [only y hy]; exact hv
      refine b_bits (by omega) (jn1_i ⟨fun h3 => jn1_i (jn0_i ⟨fun h4 => absurd rfl h4, fun _ => ⟨fun h4 => keep ?_, fun h4 => take ?_⟩⟩), fun h3 => jn1_i (jn0_i ⟨fun _ => take ?_, fun h4 => absurd h4 (by decide)⟩)⟩)
      · unfold vle; omega
      · unfold vle; omega
      · unfold vle; omega
    · have := bc_split (x := y) (y := set) (z := fr) fun i hi => by
        cases e : set.testBit i
        · exact .inr (hy.2.2.1 i hi e)
        · exact .inl rfl
      unfold vle; omega
theorem b_largest {S : Nat} {tk : Nat → Nat → Bool} {tl : Nat → Int} {z : Int} {Q : Int → Int → Prop} (hS : S ≤ 14) (hK : TkA S tk tl) (hsy : ∀ s o, tk s o = tk o s) (hir : ∀ s, tk s s = false) (hq : ∀ x, Vst S tk x → Q (x : Nat) (x : Nat)) : wp_Search_largestSet tl S z Q := by
  have hP := p14 hS
  have p1 := Nat.two_pow_pos S
  unfold wp_Search_largestSet
  rw [b_shl1 (by omega), show ((2 ^ S : Nat) : Int) - 1 = ((2 ^ S - 1 : Nat) : Int) by omega]
  have hb : ∀ i, (2 ^ S - 1).testBit i = decide (i < S) := fun i => Nat.testBit_two_pow_sub_one S i
  have ap0 : ap S tk 0 = true := ap_iff.mpr fun s _ h => by rw [Nat.zero_testBit] at h; cases h
  refine ⟨⟨by omega, by omega⟩, ?_⟩
  refine b_enlarge hS hK hsy hir 16 0 (2 ^ S - 1) 0 0 _ (by omega) (by omega) p1 (by omega) p1 ap0 (fun i hi => by rw [Nat.zero_testBit] at hi; cases hi) (fun i _ => Nat.zero_le _) (fun i _ s _ hs => by rw [Nat.zero_testBit] at hs; cases hs) fun x hx1 hx2 _ hx4 => hq x ⟨hx1, ?_, fun y hy1 hy2 => hx4 y ⟨hy1, fun i hi => (by rw [Nat.zero_testBit] at hi; cases hi), fun i hi _ => ?_, hy2⟩⟩
  · rcases hx2 with e | e
    · rw [e]; exact ap0
    · exact e.2.2.2
  · rw [hb]; exact decide_eq_true (lt_bit hy1 hi)
theorem b_Mvariety {b : Nat → Int} {N I : Nat} {wt tc : Nat → Nat} {R : Nat → Nat → Bool} {so0 lk fr to hwa mw mi mf ml im wo ln9 ins tk : Nat → Int} {al ak : Int} {li : Nat} {Q : Int → (Nat → Int) → (Nat → Int) → (Nat → Int) → (Nat → Int) → Int → Int → Prop} (hB : MBs b N I wt tc R so0 lk fr to hwa mw mi mf ml im) (hal : al = 0 ∨ (al = 1 ∧ StA (Sn b N) I wt (taN b N I R) (leN b N) wo ln9)) (hak : ak = 0 ∨ (ak = 1 ∧ TkA (Sn b N) (tkl b N li) tk))
    (hq : ∀ x wo' ln' ins' tk', StA (Sn b N) I wt (taN b N I R) (leN b N) wo' ln' → TkA (Sn b N) (tkl b N li) tk' → Vst (Sn b N) (tkl b N li) x → Q (x : Nat) wo' ln' ins' tk' 1 1) : wp_M_variety so0 lk fr to hwa mw mi mf wo ln9 ins tk (Wn b N) (Sn b N) I (M0 (Wn b N) I R) al ak li Q := by
  have h14 := Sn_le b N
  have hP := p14 h14
  have p1 := Nat.two_pow_pos (Sn b N)
  unfold wp_M_variety
  refine b_MLike hB hal hak fun wo' ln' ins' tk' hst htk => ?_
  have hq := fun x h => hq x wo' ln' ins' tk' hst htk h
  rw [b_shl1 (by omega)]
  have ap0 : ap (Sn b N) (tkl b N li) 0 = true := ap_iff.mpr fun s _ h => by rw [Nat.zero_testBit] at h; cases h
  refine ⟨fun x7 x8 => ∃ x n : Nat, x7 = x ∧ x8 = n ∧ 1 ≤ n ∧ n ≤ 2 ^ Sn b N ∧ x < n ∧ ap (Sn b N) (tkl b N li) x = true ∧ ∀ y, y < n → ap (Sn b N) (tkl b N li) y = true → vle x y, fun _ x8 => 2 ^ Sn b N - x8.toNat, ⟨0, 1, rfl, rfl, by omega, p1, by omega, ap0, fun y hy _ => by rw [show y = 0 by omega]; exact vle_refl _⟩, ?_⟩
  rintro x7 x8 ⟨x, n, rfl, rfl, hn1, hn, hxn, hx, hb⟩
  refine ⟨fun h => hq x ⟨by omega, hx, fun y hy hp => hb y (by omega) hp⟩, fun h => b_Mbits (by omega) (b_Mbits (by omega) (jn1_i ⟨fun h2 => ⟨⟨by omega, by omega⟩, ⟨x, n + 1, rfl, by omega, by omega, by omega, by omega, hx, fun y hy hp => ?_⟩, by (try dsimp only); omega⟩, fun h2 => b_Munlike h14 htk (by omega) ⟨fun h3 => ⟨⟨by omega, by omega⟩, ⟨x, n + 1, rfl, by omega, by omega, by omega, by omega, hx, fun y hy hp => ?_⟩, by (try dsimp only); omega⟩, fun h3 => ⟨⟨by omega, by omega⟩, ⟨n, n + 1, rfl, by omega, by omega, by omega, by omega, bI_1 h3, fun y hy hp => ?_⟩, by (try dsimp only); omega⟩⟩⟩))⟩
  · by_cases e : y = n
    · rw [e]; unfold vle; omega
    · exact hb y (by omega) hp
  · by_cases e : y = n
    · rw [e, bI_0 h3] at hp; cases hp
    · exact hb y (by omega) hp
  · by_cases e : y = n
    · rw [e]; exact vle_refl _
    · exact vle_trans (show vle n x by unfold vle; omega) (hb y (by omega) hp)
