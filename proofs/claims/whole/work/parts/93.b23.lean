/-! B23: the least windows, the most items -/
theorem mnb_lt {W I : Nat} {tc : Nat → Nat} {R : Nat → Nat → Bool} {qt : Nat → Int} {set a : Nat} (h : TcA W I tc R qt) (hW : W ≤ 100) (hs : StI I set) (ha : a < W) (hm : mnb W I tc R set a = true) : rch W I tc R set a < W ∧ a ≤ rch W I tc R set a := by
  have h1 := rch_b h hW hs (show a ≤ W by omega)
  have h2 := rch_b h hW hs (show a + 1 ≤ W by omega)
  have h3 := of_decide_eq_true hm
  omega
theorem cov_mn {W I : Nat} {tc : Nat → Nat} {R : Nat → Nat → Bool} {qt : Nat → Int} {set a : Nat} (h : TcA W I tc R qt) (hW : W ≤ 100) (hs : StI I set) (ha : a < W) (hm : mnb W I tc R set a = true) : cov W I tc R set a = (rch W I tc R set a : Int) := by
  unfold cov; rw [if_pos (mnb_lt h hW hs ha hm).1]
def wat (F T : Nat → Nat) (what : Int) (a b : Nat) : Int := if what = 0 then (a : Int) else if what = 1 then (b : Int) else (T b : Int) - F a
theorem b_found {W : Nat} {F T : Nat → Nat} {sa wb we : Nat → Int} {a b : Nat} {what : Int} {Q : Int → Prop} (hF : FTo W F T) (hW : WlA W F T sa wb we) (ha : a < W) (hb : b < W) (hq : Q (wat F T what a b)) : wp_Windows_found sa wb we a b what Q := by
  unfold wp_Windows_found
  unfold wat at hq
  refine ⟨fun _ => ⟨fun h1 => ⟨fun h2 => b_wl hF hW ha hb ?_, fun h2 => ?_⟩, fun h1 => ?_⟩, fun h => by omega⟩
  · rw [if_neg h1, if_neg h2] at hq; exact hq
  · rw [if_neg h1, if_pos h2] at hq; exact hq
  · rw [if_pos h1] at hq; exact hq
theorem b_found0 {sa wb we : Nat → Int} {l what : Int} {Q : Int → Prop} (hq : Q (-1)) : wp_Windows_found sa wb we (-1) l what Q := by
  unfold wp_Windows_found
  exact ⟨fun h => absurd rfl h, fun _ => hq⟩
def wpk (W I : Nat) (tc : Nat → Nat) (R : Nat → Nat → Bool) (F T : Nat → Nat) (set : Nat) (k what : Int) : Int :=
  if k = -1 then (cn (mnb W I tc R set) W : Int) else if 0 ≤ k ∧ k < cn (mnb W I tc R set) W then wat F T what (nt (mnb W I tc R set) W k.toNat) (rch W I tc R set (nt (mnb W I tc R set) W k.toNat)) else -1
theorem b_countMin {W I : Nat} {tc : Nat → Nat} {R : Nat → Nat → Bool} {qt bg nx re : Nat → Int} {set : Nat} {Q : Int → (Nat → Int) → (Nat → Int) → Prop} (hW : W ≤ 100) (h : TcA W I tc R qt) (hbg : ∀ v, v < W → bg v = bs (fun k => R k v) I) (hs : StI I set) (hq : ∀ nx' re', Q (cn (mnb W I tc R set) W : Nat) nx' re') : wp_Windows_countMinimal qt bg nx re W I set Q := by
  unfold wp_Windows_countMinimal
  refine b_reach hW h hbg hs fun nx' re' hr => ?_
  refine ⟨fun x y => ∃ a : Nat, y = a ∧ a ≤ W ∧ x = (cn (mnb W I tc R set) a : Nat), fun _ y => W - y.toNat, ⟨0, rfl, by omega, rfl⟩, ?_⟩
  rintro x y ⟨a, rfl, ha, rfl⟩
  have hc := cn_le (mnb W I tc R set) a
  refine ⟨fun h1 => by rw [show a = W by omega]; exact hq _ _, fun h1 => b_minF hW hr (by omega) (jn1_i ⟨fun h2 => ⟨⟨by omega, by omega⟩, ⟨by omega, by omega⟩, ⟨a + 1, by omega, by omega, ?_⟩, by (try dsimp only); omega⟩, fun h2 => ⟨⟨by omega, by omega⟩, ⟨by omega, by omega⟩, ⟨a + 1, by omega, by omega, ?_⟩, by (try dsimp only); omega⟩⟩)⟩
  · rw [cn_f (bI_0 h2)]; omega
  · rw [cn_t (bI_1 h2)]; omega
theorem b_seekMin {W I : Nat} {tc : Nat → Nat} {R : Nat → Nat → Bool} {qt bg nx re : Nat → Int} {set : Nat} {k z1 z2 z3 z4 : Int} {Q : (Nat → Int) → (Nat → Int) → Int → Int → Int → Int → Prop} (hW : W ≤ 100) (h : TcA W I tc R qt) (hbg : ∀ v, v < W → bg v = bs (fun k => R k v) I) (hs : StI I set)
    (hq : ∀ (nx' re' : Nat → Int) (f l : Int), ((¬ (0 ≤ k ∧ k < cn (mnb W I tc R set) W) ∧ f = -1) ∨ (0 ≤ k ∧ k < cn (mnb W I tc R set) W ∧ f = (nt (mnb W I tc R set) W k.toNat : Nat) ∧ l = (rch W I tc R set (nt (mnb W I tc R set) W k.toNat) : Nat))) → Q nx' re' f l 0 0) : wp_Windows_seekMinimal qt bg nx re W I z1 z2 z3 z4 set k Q := by
  unfold wp_Windows_seekMinimal wp_Windows_forget
  refine b_reach hW h hbg hs fun nx' re' hr => ?_
  refine ⟨fun f l x y => ∃ a : Nat, y = a ∧ a ≤ W ∧ x = (cn (mnb W I tc R set) a : Nat) ∧ ((¬ (0 ≤ k ∧ k < cn (mnb W I tc R set) a) ∧ f = -1) ∨ (0 ≤ k ∧ k < cn (mnb W I tc R set) a ∧ f = (nt (mnb W I tc R set) W k.toNat : Nat) ∧ l = (rch W I tc R set (nt (mnb W I tc R set) W k.toNat) : Nat))), fun _ _ _ y => W - y.toNat, ⟨0, rfl, by omega, rfl, .inl ⟨by show ¬ (0 ≤ k ∧ k < (0 : Nat)); omega, rfl⟩⟩, ?_⟩
  rintro f l x y ⟨a, rfl, ha, rfl, hx⟩
  have hc := cn_le (mnb W I tc R set) a
  refine ⟨fun h1 => by rw [show a = W by omega] at hx; exact hq _ _ _ _ hx, fun h1 => b_minF hW hr (by omega) (jn3_i ⟨fun h2 => ⟨⟨by omega, by omega⟩, ⟨a + 1, by omega, by omega, by rw [cn_f (bI_0 h2)], by rw [cn_f (bI_0 h2)]; exact hx⟩, by (try dsimp only); omega⟩, fun h2 => jn2_i ⟨fun h3 => ?_, fun h3 => ⟨⟨by omega, by omega⟩, ?_⟩⟩⟩)⟩
  · have e := cn_t (bI_1 h2)
    refine ⟨⟨by omega, by omega⟩, ⟨by omega, by omega⟩, ⟨a + 1, by omega, by omega, by omega, ?_⟩, by (try dsimp only); omega⟩
    rcases hx with ⟨g1, g2⟩ | ⟨g1, g2, g3, g4⟩
    · exact .inl ⟨by omega, g2⟩
    · exact .inr ⟨g1, by omega, g3, g4⟩
  · have e := cn_t (bI_1 h2)
    have en : nt (mnb W I tc R set) W k.toNat = a := nt_eq (bI_1 h2) (by omega) (by omega)
    rw [Int.toNat_natCast, hr a (by omega)]
    refine ⟨⟨by omega, by omega⟩, ⟨by omega, by omega⟩, ⟨a + 1, by omega, by omega, by omega, .inr ⟨by omega, by omega, ?_, ?_⟩⟩, by (try dsimp only); omega⟩
    · rw [en]
    · rw [en]
theorem b_Mwin {W I : Nat} {tc : Nat → Nat} {R : Nat → Nat → Bool} {F T : Nat → Nat} {mi mf ml im mt wf wt : Nat → Int} {set : Nat} {k what : Int} {Q : Int → Prop} (hF : FTo W F T) (hL : MlA W F T wf wt) (h : TcA W I tc R mt) (hM : MmA W I tc R mi mf ml im) (hs : StI I set) (hsI : set < 2 ^ I) (hq : Q (wpk W I tc R F T set k what)) : lpw2 (fun (x8 x9 : Int) (k2 : Int → Int → Prop) => ((W : Int) ≤ x9 → (¬ k = (-1) → Q (-1)) ∧ (k = (-1) → Q x8)) ∧ (¬ (W : Int) ≤ x9 → wp_M_coveredBy mt im W I set x9 (fun (r10 : Int) => wp_M_isMinimal mt im W I set x9 r10 (fun (r11 : Int) => jn1 (fun (J3 : Int → Prop) => (¬ r11 = 0 → (¬ x8 = k → (rng (x8 + 1)) ∧ (J3 (x8 + 1))) ∧ (x8 = k → (¬ what = 0 → (¬ what = 1 → wp_M_longOf wf wt x9 r10 (fun (r13 : Int) => Q r13)) ∧ (what = 1 → Q r10)) ∧ (what = 0 → Q x9))) ∧ (r11 = 0 → J3 x8)) (fun (x12 : Int) => (rng (x9 + 1)) ∧ (k2 x12 (x9 + 1))))))) 0 0 := by
  have hW := hF.1
  refine ⟨fun x y => ∃ a : Nat, y = a ∧ a ≤ W ∧ x = (cn (mnb W I tc R set) a : Nat) ∧ ¬ (0 ≤ k ∧ k < cn (mnb W I tc R set) a), fun _ y => W - y.toNat, ⟨0, rfl, by omega, rfl, by show ¬ (0 ≤ k ∧ k < (0 : Nat)); omega⟩, ?_⟩
  rintro x y ⟨a, rfl, ha, rfl, hx⟩
  have hc := cn_le (mnb W I tc R set) a
  refine ⟨fun h1 => ?_, fun h1 => b_Mcov hW h hM hs hsI (by omega) (b_Mmin hW h hM hs hsI (by omega) (jn1_i ⟨fun h2 => ⟨fun h3 => ?_, fun h3 => ?_⟩, fun h2 => ⟨⟨by omega, by omega⟩, ⟨a + 1, by omega, by omega, by rw [cn_f (bI_0 h2)], by rw [cn_f (bI_0 h2)]; exact hx⟩, by (try dsimp only); omega⟩⟩))⟩
  · rw [show a = W by omega] at hx ⊢
    refine ⟨fun h2 => qe hq ?_, fun h2 => qe hq ?_⟩
    · unfold wpk; rw [if_neg h2, if_neg hx]
    · unfold wpk; rw [if_pos h2]
  · have e := cn_t (bI_1 h2)
    exact ⟨⟨by omega, by omega⟩, ⟨by omega, by omega⟩, ⟨a + 1, by omega, by omega, by omega, by omega⟩, by (try dsimp only); omega⟩
  · have e := cn_lt (bI_1 h2) (show a < W by omega)
    have en : nt (mnb W I tc R set) W k.toNat = a := nt_eq (bI_1 h2) (by omega) (by omega)
    have hm := mnb_lt h hW hs (show a < W by omega) (bI_1 h2)
    have hw : wpk W I tc R F T set k what = wat F T what a (rch W I tc R set a) := by
      unfold wpk; rw [if_neg (by omega), if_pos (by omega), en]
    rw [hw] at hq
    rw [cov_mn h hW hs (by omega) (bI_1 h2)]
    unfold wat at hq
    refine ⟨fun h4 => ⟨fun h5 => b_Mlong hF hL (by omega) hm.1 ?_, fun h5 => ?_⟩, fun h4 => ?_⟩
    · rw [if_neg h4, if_neg h5] at hq; exact hq
    · rw [if_neg h4, if_pos h5] at hq; exact hq
    · rw [if_pos h4] at hq; exact hq
/-! the least one -/
def lgt (W I : Nat) (tc : Nat → Nat) (R : Nat → Nat → Bool) (F T : Nat → Nat) (set a : Nat) : Int := (T (rch W I tc R set a) : Int) - F a
def lsb (W I : Nat) (tc : Nat → Nat) (R : Nat → Nat → Bool) (F T : Nat → Nat) (set a : Nat) (q : Option Nat) : Bool := match q with
  | none => true
  | some p => decide (lgt W I tc R F T set a < lgt W I tc R F T set p)
def lsf (W I : Nat) (tc : Nat → Nat) (R : Nat → Nat → Bool) (F T : Nat → Nat) (set : Nat) : Nat → Option Nat
  | 0 => none
  | a + 1 => if mnb W I tc R set a = true ∧ lsb W I tc R F T set a (lsf W I tc R F T set a) = true then some a else lsf W I tc R F T set a
theorem lsf_s (W I : Nat) (tc : Nat → Nat) (R : Nat → Nat → Bool) (F T : Nat → Nat) (set a : Nat) : lsf W I tc R F T set (a + 1) = if mnb W I tc R set a = true ∧ lsb W I tc R F T set a (lsf W I tc R F T set a) = true then some a else lsf W I tc R F T set a := rfl
theorem lsf_sp {W I : Nat} {tc : Nat → Nat} {R : Nat → Nat → Bool} {F T : Nat → Nat} {set p : Nat} : ∀ {n : Nat}, lsf W I tc R F T set n = some p → p < n ∧ mnb W I tc R set p = true
  | 0, h => by cases h
  | n + 1, h => by
    rw [lsf_s] at h
    split at h
    · rename_i hc
      cases h
      exact ⟨by omega, hc.1⟩
    · have := lsf_sp h
      exact ⟨by omega, this.2⟩
def oL (W I : Nat) (tc : Nat → Nat) (R : Nat → Nat → Bool) (set : Nat) (o : Option Nat) : Int := match o with
  | none => -1
  | some p => (rch W I tc R set p : Int)
theorem b_seekLeast {W I : Nat} {tc : Nat → Nat} {R : Nat → Nat → Bool} {F T : Nat → Nat} {sa wb we qt bg nx re : Nat → Int} {set : Nat} {z1 z2 z3 z4 : Int} {Q : (Nat → Int) → (Nat → Int) → Int → Int → Int → Int → Prop} (hF : FTo W F T) (hL : WlA W F T sa wb we) (h : TcA W I tc R qt) (hbg : ∀ v, v < W → bg v = bs (fun k => R k v) I) (hs : StI I set)
    (hq : ∀ nx' re', Q nx' re' (oI (lsf W I tc R F T set W)) (oL W I tc R set (lsf W I tc R F T set W)) 0 0) : wp_Windows_seekLeast sa wb we qt bg nx re W I z1 z2 z3 z4 set Q := by
  have hW := hF.1
  unfold wp_Windows_seekLeast wp_Windows_forget
  refine b_reach hW h hbg hs fun nx' re' hr => ?_
  refine ⟨fun f l y => ∃ a : Nat, y = a ∧ a ≤ W ∧ f = oI (lsf W I tc R F T set a) ∧ l = oL W I tc R set (lsf W I tc R F T set a), fun _ _ y => W - y.toNat, ⟨0, rfl, by omega, rfl, rfl⟩, ?_⟩
  rintro f l y ⟨a, rfl, ha, rfl, rfl⟩
  refine ⟨fun h1 => by rw [show a = W by omega]; exact hq _ _, fun h1 => b_minF hW hr (by omega) ?_⟩
  have es := lsf_s W I tc R F T set a
  rw [Int.toNat_natCast, hr a (by omega)]
  refine jn2_i ⟨fun h2 => ?_, fun h2 => ?_⟩
  · rw [if_neg (by rw [bI_0 h2]; intro g; cases g.1)] at es
    exact ⟨⟨by omega, by omega⟩, ⟨a + 1, by omega, by omega, by rw [es], by rw [es]⟩, by (try dsimp only); omega⟩
  · have hm := mnb_lt h hW hs (show a < W by omega) (bI_1 h2)
    cases hp : lsf W I tc R F T set a with
    | none =>
      rw [hp, if_pos ⟨bI_1 h2, rfl⟩] at es
      exact jn0_i ⟨fun _ => ⟨⟨by omega, by omega⟩, ⟨by omega, by omega⟩, ⟨a + 1, by omega, by omega, by rw [es]; rfl, by rw [es]; rfl⟩, by (try dsimp only); omega⟩, fun g => absurd rfl g⟩
    | some p =>
      have hsp := lsf_sp hp
      have hm2 := mnb_lt h hW hs (show p < W by omega) hsp.2
      rw [hp] at es
      show jn0 (fun J3 => ((p : Int) = -1 → J3) ∧ (¬ (p : Int) = -1 → (0 ≤ (a : Int) ∧ (a : Int) < 101) ∧ wp_Page_windowLength sa wb we a ((rch W I tc R set a : Nat) : Int) (fun r13 => wp_Page_windowLength sa wb we (p : Int) ((rch W I tc R set p : Nat) : Int) (fun r14 => (r14 ≤ r13 → _) ∧ (¬ r14 ≤ r13 → J3))))) _
      refine jn0_i ⟨fun g => by omega, fun _ => ⟨⟨by omega, by omega⟩, b_wl hF hL (by omega) hm.1 (b_wl hF hL (by omega) hm2.1 ⟨fun h3 => ?_, fun h3 => ?_⟩)⟩⟩
      · rw [if_neg (fun g => by have g2 := of_decide_eq_true g.2; unfold lgt at g2; omega)] at es
        exact ⟨⟨by omega, by omega⟩, ⟨a + 1, by omega, by omega, by rw [es], by rw [es]⟩, by (try dsimp only); omega⟩
      · rw [if_pos ⟨bI_1 h2, decide_eq_true (by unfold lgt; omega)⟩] at es
        exact ⟨⟨by omega, by omega⟩, ⟨by omega, by omega⟩, ⟨a + 1, by omega, by omega, by rw [es]; rfl, by rw [es]; rfl⟩, by (try dsimp only); omega⟩
def lsI (W I : Nat) (tc : Nat → Nat) (R : Nat → Nat → Bool) (F T : Nat → Nat) (set : Nat) (what : Int) : Int := match lsf W I tc R F T set W with
  | none => -1
  | some p => wat F T what p (rch W I tc R set p)
theorem b_Mleast {W I : Nat} {tc : Nat → Nat} {R : Nat → Nat → Bool} {F T : Nat → Nat} {mi mf ml im mt wf wt : Nat → Int} {set : Nat} {what : Int} {Q : Int → Prop} (hF : FTo W F T) (hL : MlA W F T wf wt) (h : TcA W I tc R mt) (hM : MmA W I tc R mi mf ml im) (hs : StI I set) (hsI : set < 2 ^ I) (hq : Q (lsI W I tc R F T set what)) : lpw3 (fun (x8 x9 x10 : Int) (k2 : Int → Int → Int → Prop) => ((W : Int) ≤ x10 → (¬ x8 = (-1) → (¬ what = 0 → (¬ what = 1 → wp_M_longOf wf wt x8 x9 (fun (r11 : Int) => Q r11)) ∧ (what = 1 → Q x9)) ∧ (what = 0 → Q x8)) ∧ (x8 = (-1) → Q (-1))) ∧ (¬ (W : Int) ≤ x10 → wp_M_coveredBy mt im W I set x10 (fun (r12 : Int) => wp_M_isMinimal mt im W I set x10 r12 (fun (r13 : Int) => jn2 (fun (J3 : Int → Int → Prop) => (r13 = 0 → J3 x8 x9) ∧ (¬ r13 = 0 → jn0 (fun (J4 : Prop) => (x8 = (-1) → J4) ∧ (¬ x8 = (-1) → wp_M_longOf wf wt x10 r12 (fun (r16 : Int) => wp_M_longOf wf wt x8 x9 (fun (r17 : Int) => (r16 < r17 → J4) ∧ (¬ r16 < r17 → J3 x8 x9))))) (J3 x10 r12))) (fun (x14 x15 : Int) => (rng (x10 + 1)) ∧ (k2 x14 x15 (x10 + 1))))))) (-1) (-1) 0 := by
  have hW := hF.1
  refine ⟨fun f l y => ∃ a : Nat, y = a ∧ a ≤ W ∧ f = oI (lsf W I tc R F T set a) ∧ l = oL W I tc R set (lsf W I tc R F T set a), fun _ _ y => W - y.toNat, ⟨0, rfl, by omega, rfl, rfl⟩, ?_⟩
  rintro f l y ⟨a, rfl, ha, rfl, rfl⟩
  refine ⟨fun h1 => ?_, fun h1 => b_Mcov hW h hM hs hsI (by omega) (b_Mmin hW h hM hs hsI (by omega) ?_)⟩
  · rw [show a = W by omega]
    unfold lsI at hq
    cases hp : lsf W I tc R F T set W with
    | none =>
      rw [hp] at hq
      exact ⟨fun g => absurd rfl g, fun _ => hq⟩
    | some p =>
      have hsp := lsf_sp hp
      have hm2 := mnb_lt h hW hs (show p < W by omega) hsp.2
      rw [hp] at hq
      have hq : Q (wat F T what p (rch W I tc R set p)) := hq
      unfold wat at hq
      refine ⟨fun _ => ⟨fun h4 => ⟨fun h5 => b_Mlong (a := p) hF hL (by omega) hm2.1 ?_, fun h5 => ?_⟩, fun h4 => ?_⟩, fun g => ?_⟩
      · rw [if_neg h4, if_neg h5] at hq; exact hq
      · rw [if_neg h4, if_pos h5] at hq; exact hq
      · rw [if_pos h4] at hq; exact hq
      · have g : (p : Int) = -1 := g
        omega
  · have es := lsf_s W I tc R F T set a
    refine jn2_i ⟨fun h2 => ?_, fun h2 => ?_⟩
    · rw [if_neg (by rw [bI_0 h2]; intro g; cases g.1)] at es
      exact ⟨⟨by omega, by omega⟩, ⟨a + 1, by omega, by omega, by rw [es], by rw [es]⟩, by (try dsimp only); omega⟩
    · have hm := mnb_lt h hW hs (show a < W by omega) (bI_1 h2)
      rw [cov_mn h hW hs (by omega) (bI_1 h2)]
      cases hp : lsf W I tc R F T set a with
      | none =>
        rw [hp, if_pos ⟨bI_1 h2, rfl⟩] at es
        exact jn0_i ⟨fun _ => ⟨⟨by omega, by omega⟩, ⟨a + 1, by omega, by omega, by rw [es]; rfl, by rw [es]; rfl⟩, by (try dsimp only); omega⟩, fun g => absurd rfl g⟩
      | some p =>
        have hsp := lsf_sp hp
        have hm2 := mnb_lt h hW hs (show p < W by omega) hsp.2
        rw [hp] at es
        refine jn0_i ⟨fun g => ?_, fun _ => b_Mlong hF hL (by omega) hm.1 (b_Mlong (a := p) (b := rch W I tc R set p) hF hL (by omega) hm2.1 ⟨fun h3 => ?_, fun h3 => ?_⟩)⟩
        · have g : (p : Int) = -1 := g
          omega
        · rw [if_pos ⟨bI_1 h2, decide_eq_true (by unfold lgt; omega)⟩] at es
          exact ⟨⟨by omega, by omega⟩, ⟨a + 1, by omega, by omega, by rw [es]; rfl, by rw [es]; rfl⟩, by (try dsimp only); omega⟩
        · rw [if_neg (fun g => by have g2 := of_decide_eq_true g.2; unfold lgt at g2; omega)] at es
          exact ⟨⟨by omega, by omega⟩, ⟨a + 1, by omega, by omega, by rw [es], by rw [es]⟩, by (try dsimp only); omega⟩
/-! most items -/
theorem bs_or (p q : Nat → Bool) (n : Nat) : bs p n ||| bs q n = bs (fun k => p k || q k) n := by
  refine bs_ext (Nat.or_lt_two_pow (bs_lt p n) (bs_lt q n)) fun i hi => ?_
  rw [Nat.testBit_or, bs_in hi, bs_in hi]
theorem bs_zero {p : Nat → Bool} : ∀ {n : Nat}, (∀ i, i < n → p i = false) → bs p n = 0
  | 0, _ => rfl
  | n + 1, h => by rw [bs_f (h n (by omega)), bs_zero (fun i hi => h i (by omega))]
theorem b_ending {W I : Nat} {tc : Nat → Nat} {R : Nat → Nat → Bool} {qt en : Nat → Int} {a b : Nat} {Q : Int → Prop} (hW : W ≤ 100) (h : TcA W I tc R qt) (hen : ∀ v, v < W → en v = bs (fun k => enR tc R k v) I) (hb : b < W) (hq : Q (bs (fun k => ew tc R k a b) I : Nat)) : wp_Windows_endingWithin qt en I a b Q := by
  have hI := h.1
  unfold wp_Windows_endingWithin
  refine ⟨fun x y => ∃ k : Nat, y = k ∧ k ≤ I ∧ x = (bs (fun k => ew tc R k a b) k : Nat), fun _ y => I - y.toNat, ⟨0, rfl, by omega, rfl⟩, ?_⟩
  rintro x y ⟨k, rfl, hk, rfl⟩
  refine ⟨fun h1 => qe hq (by rw [show k = I by omega]), fun h1 => ⟨⟨by omega, by omega⟩, ?_⟩⟩
  simp only [Int.toNat_natCast]
  rw [hen b hb]
  refine ⟨fun h2 => qe hq ?_, fun h2 => ⟨⟨by omega, by omega⟩, b_Has (bs_31 _ (by omega)) (by omega) ?_⟩⟩
  · have hz : ∀ j, j < I → ew tc R j a b = false := by
      intro j hj
      cases e : ew tc R j a b
      · rfl
      · have h3 := ew_iff.mp e
        have h4 : (bs (fun k => enR tc R k b) I).testBit j = true := by
          rw [bs_in hj]; unfold enR; rw [decide_eq_true (by omega), h3.2]; rfl
        rw [show bs (fun k => enR tc R k b) I = 0 by omega, Nat.zero_testBit] at h4
        cases h4
    rw [bs_zero hz, bs_zero fun i hi => hz i (by omega)]
  · rw [bs_in (show k < I by omega)]
    have ht := h.2.1 k (by omega)
    refine jn1_i ⟨fun h3 => ⟨⟨by omega, by omega⟩, ⟨k + 1, by omega, by omega, ?_⟩, by (try dsimp only); omega⟩, fun h3 => ?_⟩
    · have h3 := bI_0 h3
      rw [bs_f]
      cases e : ew tc R k a b
      · rfl
      · have h4 := ew_iff.mp e
        unfold enR at h3
        rw [decide_eq_true (by omega), h4.2] at h3; cases h3
    · have h3 := bI_1 h3
      unfold enR at h3
      rw [Bool.and_eq_true] at h3
      rw [ht.1]
      refine ⟨⟨by omega, by omega⟩, ⟨by omega, by omega⟩, ⟨by omega, by omega⟩, fun h4 => ⟨⟨by omega, by omega⟩, ⟨k + 1, by omega, by omega, ?_⟩, by (try dsimp only); omega⟩, fun h4 => ⟨⟨by omega, by omega⟩, ⟨k + 1, by omega, by omega, ?_⟩, by (try dsimp only); omega⟩⟩
      · rw [bs_f]
        cases e : ew tc R k a b
        · rfl
        · have h5 := ew_iff.mp e
          omega
      · have hd := of_decide_eq_true h3.1
        rw [b_orb (bs_31 _ (by omega)) (by omega), bs_t]
        exact ew_iff.mpr ⟨by omega, h3.2⟩
def tend (W : Nat) (F T : Nat → Nat) (n a : Nat) : Nat := sk (fun t => decide (T t ≤ n + F a)) W a
def hset (W I : Nat) (tc : Nat → Nat) (R : Nat → Nat → Bool) (a b : Nat) : Nat := bs (fun k => decide (ne9 W tc R k a < b)) I
theorem hset_s {W I : Nat} {tc : Nat → Nat} {R : Nat → Nat → Bool} {qt : Nat → Int} {a b : Nat} (h : TcA W I tc R qt) (hW : W ≤ 100) (hb : b < W) (ha : a ≤ b) : hset W I tc R a b ||| bs (fun k => ew tc R k a b) I = hset W I tc R a (b + 1) := by
  unfold hset
  rw [bs_or]
  refine bs_congr fun k hk => ?_
  rw [Bool.eq_iff_iff, Bool.or_eq_true, decide_eq_true_iff, decide_eq_true_iff]
  have := ne_ew (k := k) h hW hk hb ha
  rw [← this]; omega
theorem hset_0 {W I : Nat} {tc : Nat → Nat} {R : Nat → Nat → Bool} {qt : Nat → Int} {a : Nat} (h : TcA W I tc R qt) (hW : W ≤ 100) (ha : a ≤ W) : hset W I tc R a a = 0 := bs_zero fun k hk => by
  have := (ne_ge (k := k) h hW hk ha).1
  exact decide_eq_false (by omega)
def mos (W I : Nat) (tc : Nat → Nat) (R : Nat → Nat → Bool) (F T : Nat → Nat) (n : Nat) : Nat → Nat
  | 0 => 0
  | a + 1 => max (mos W I tc R F T n a) (bc (hset W I tc R a (tend W F T n a)))
theorem b_most {W I : Nat} {tc : Nat → Nat} {R : Nat → Nat → Bool} {F T : Nat → Nat} {sa wb we qt en : Nat → Int} {n : Nat} {Q : Int → Prop} (hF : FTo W F T) (hL : WlA W F T sa wb we) (h : TcA W I tc R qt) (hen : ∀ v, v < W → en v = bs (fun k => enR tc R k v) I) (hq : Q (mos W I tc R F T n W : Nat)) : wp_Windows_mostItems sa wb we qt en W I n Q := by
  have hW := hF.1
  have hI := h.1
  unfold wp_Windows_mostItems
  refine ⟨fun x y => ∃ a : Nat, y = a ∧ a ≤ W ∧ x = (mos W I tc R F T n a : Nat), fun _ y => W - y.toNat, ⟨0, rfl, by omega, rfl⟩, ?_⟩
  rintro x y ⟨a, rfl, ha, rfl⟩
  refine ⟨fun h1 => qe hq (by rw [show a = W by omega]), fun h1 => ?_⟩
  refine ⟨fun x y => ∃ b : Nat, y = b ∧ a ≤ b ∧ b ≤ W ∧ x = (hset W I tc R a b : Nat) ∧ sk (fun t => decide (T t ≤ n + F a)) W b = tend W F T n a, fun _ y => W - y.toNat, ⟨a, rfl, Nat.le_refl _, by omega, by rw [hset_0 h hW (by omega)]; rfl, rfl⟩, ?_⟩
  rintro x y ⟨b, rfl, hb1, hb2, rfl, hsk⟩
  have hl : hset W I tc R a b < 2 ^ 8 := Nat.lt_of_lt_of_le (bs_lt _ _) (Nat.pow_le_pow_right (by omega) hI)
  refine ⟨b = tend W F T n a, fun eb => b_bits (by omega) ⟨⟨by omega, by omega⟩, ⟨a + 1, by omega, by omega, ?_⟩, by (try dsimp only); omega⟩, fun h2 => ?_, fun h2 => b_wl hF hL (by omega) (by omega) ⟨fun h3 => ?_, fun h3 => b_ending hW h hen (by omega) ⟨⟨by omega, by omega⟩, ⟨b + 1, by omega, by omega, by omega, ?_, ?_⟩, by (try dsimp only); omega⟩⟩⟩
  · rw [eb]
    show max _ _ = ((max (mos W I tc R F T n a) (bc (hset W I tc R a (tend W F T n a))) : Nat) : Int)
    omega
  · rw [← hsk, sk_end (by omega)]
  · rw [← hsk, sk_stop (decide_eq_false (by omega))]
  · rw [b_or (by omega) (bs_31 _ (by omega)), hset_s h hW (by omega) hb1]
  · rw [← hsk, sk_step (i := b) (by omega) (decide_eq_true (by omega))]
theorem b_Mmost {W I : Nat} {tc : Nat → Nat} {R : Nat → Nat → Bool} {F T : Nat → Nat} {mi mf ml im mt wf wt : Nat → Int} {n : Nat} {Q : Int → Prop} (hF : FTo W F T) (hL : MlA W F T wf wt) (h : TcA W I tc R mt) (hM : MmA W I tc R mi mf ml im) (hq : Q (mos W I tc R F T n W : Nat)) : lpw2 (fun (x5 x6 : Int) (k2 : Int → Int → Prop) => ((W : Int) ≤ x6 → Q x5) ∧ (¬ (W : Int) ≤ x6 → lpw2 (fun (x7 x8 : Int) (k3 : Int → Int → Prop) => jn0 (fun (J4 : Prop) => ((W : Int) ≤ x8 → J4) ∧ (¬ (W : Int) ≤ x8 → wp_M_longOf wf wt x6 x8 (fun (r12 : Int) => ((n : Int) < r12 → J4) ∧ (¬ (n : Int) < r12 → lpw2 (fun (x13 x14 : Int) (k6 : Int → Int → Prop) => ((I : Int) ≤ x14 → (rng (x8 + 1)) ∧ (k3 x13 (x8 + 1))) ∧ (¬ (I : Int) ≤ x14 → wp_M_endsAt mt im x14 x8 x6 (fun (r15 : Int) => jn1 (fun (J7 : Int → Prop) => (r15 = 0 → J7 0) ∧ (¬ r15 = 0 → J7 (iShl 1 x14))) (fun (y16 : Int) => (rng (x14 + 1)) ∧ (k6 (iOr x13 y16) (x14 + 1)))))) x7 0)))) (wp_M_bits x7 (fun (r9 : Int) => jn1 (fun (J5 : Int → Prop) => (r9 ≤ x5 → J5 x5) ∧ (¬ r9 ≤ x5 → wp_M_bits x7 (fun (r11 : Int) => J5 r11))) (fun (y10 : Int) => (rng (x6 + 1)) ∧ (k2 y10 (x6 + 1)))))) 0 x6)) 0 0 := by
  have hW := hF.1
  have hI := h.1
  refine ⟨fun x y => ∃ a : Nat, y = a ∧ a ≤ W ∧ x = (mos W I tc R F T n a : Nat), fun _ y => W - y.toNat, ⟨0, rfl, by omega, rfl⟩, ?_⟩
  rintro x y ⟨a, rfl, ha, rfl⟩
  refine ⟨fun h1 => qe hq (by rw [show a = W by omega]), fun h1 => ?_⟩
  refine ⟨fun x y => ∃ b : Nat, y = b ∧ a ≤ b ∧ b ≤ W ∧ x = (hset W I tc R a b : Nat) ∧ sk (fun t => decide (T t ≤ n + F a)) W b = tend W F T n a, fun _ y => W - y.toNat, ⟨a, rfl, Nat.le_refl _, by omega, by rw [hset_0 h hW (by omega)]; rfl, rfl⟩, ?_⟩
  rintro x y ⟨b, rfl, hb1, hb2, rfl, hsk⟩
  have hl : hset W I tc R a b < 2 ^ 8 := Nat.lt_of_lt_of_le (bs_lt _ _) (Nat.pow_le_pow_right (by omega) hI)
  refine ⟨b = tend W F T n a, fun eb => b_Mbits (by omega) (jn1_i ⟨fun h3 => ⟨⟨by omega, by omega⟩, ⟨a + 1, by omega, by omega, ?_⟩, by (try dsimp only); omega⟩, fun h3 => b_Mbits (by omega) ⟨⟨by omega, by omega⟩, ⟨a + 1, by omega, by omega, ?_⟩, by (try dsimp only); omega⟩⟩), fun h2 => ?_, fun h2 => b_Mlong hF hL (by omega) (by omega) ⟨fun h3 => ?_, fun h3 => ?_⟩⟩
  · rw [eb] at h3
    show _ = ((max (mos W I tc R F T n a) (bc (hset W I tc R a (tend W F T n a))) : Nat) : Int)
    omega
  · rw [eb] at h3 ⊢
    show _ = ((max (mos W I tc R F T n a) (bc (hset W I tc R a (tend W F T n a))) : Nat) : Int)
    omega
  · rw [← hsk, sk_end (by omega)]
  · rw [← hsk, sk_stop (decide_eq_false (by omega))]
  · refine ⟨fun x y => ∃ k : Nat, y = k ∧ k ≤ I ∧ x = (hset W I tc R a b ||| bs (fun k => ew tc R k a b) k : Nat), fun _ y => I - y.toNat, ⟨0, rfl, by omega, by rw [show bs (fun k => ew tc R k a b) 0 = 0 from rfl, Nat.or_zero]⟩, ?_⟩
    rintro x y ⟨k, rfl, hk, rfl⟩
    have hl2 : hset W I tc R a b ||| bs (fun k => ew tc R k a b) k < 2 ^ 8 := Nat.or_lt_two_pow hl (Nat.lt_of_lt_of_le (bs_lt _ _) (Nat.pow_le_pow_right (by omega) (by omega)))
    refine ⟨fun h4 => ⟨⟨by omega, by omega⟩, ⟨b + 1, by omega, by omega, by omega, ?_, ?_⟩, by (try dsimp only); omega⟩, fun h4 => b_MendsAt hW hI hM (by omega) (h.2.1 k (by omega)) (by omega) (jn1_i ⟨fun h5 => ⟨⟨by omega, by omega⟩, ⟨k + 1, by omega, by omega, ?_⟩, by (try dsimp only); omega⟩, fun h5 => ⟨⟨by omega, by omega⟩, ⟨k + 1, by omega, by omega, ?_⟩, by (try dsimp only); omega⟩⟩)⟩
    · rw [show k = I by omega, hset_s h hW (by omega) hb1]
    · rw [← hsk, sk_step (i := b) (by omega) (decide_eq_true (by omega))]
    · rw [b_or0 (by omega), bs_f (p := fun k => ew tc R k a b) (bI_0 h5)]
    · rw [b_orb (by omega) (by omega), bs_t (p := fun k => ew tc R k a b) (bI_1 h5), Nat.or_assoc]
