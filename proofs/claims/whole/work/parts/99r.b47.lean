/-! B47: signs -/
theorem sa_ps {b sa : Nat → Int} {N s : Nat} (hS : SgA b N sa) (h : s < sgn b N N) : sa (ps b N s) = s := by
  have h1 := ps_lt h
  rw [hS.at (by omega) (ps_sec b N s), h1.2.2]
theorem sa_rng {b sa : Nat → Int} {N x : Nat} (hS : SgA b N sa) (h : x < N) : 0 ≤ sa x ∧ sa x < sgn b N N := by
  have h1 := sgn_lt (b := b) (N := N) (i := 0) (j := x + 1) (sec_0 b N) (by omega)
  have h2 := sgn_mono (b := b) (N := N) (show x + 1 ≤ N by omega)
  rw [hS.1 x h]; omega
theorem b_sign {b sa : Nat → Int} {N : Nat} {a : Int} {Q : Int → Prop} (hN : N ≤ 600) (hS : SgA b N sa) (h1 : ∀ s : Nat, a = s → s < sgn b N N → Q (ps b N s : Nat)) (h2 : ¬ (0 ≤ a ∧ a < (sgn b N N : Int)) → Q (-1)) : wp_Page_beginOfSign sa N a Q := by
  unfold wp_Page_beginOfSign
  refine ⟨fun x1 => ∃ x : Nat, x1 = x ∧ x ≤ N ∧ ∀ j, j < x → sa j ≠ a, fun x1 => N - x1.toNat, ⟨0, rfl, by omega, fun j hj => by omega⟩, ?_⟩
  rintro _ ⟨x, rfl, hx, hj⟩
  refine ⟨fun g => h2 fun k => ?_, fun g => ⟨⟨by omega, by omega⟩, fun g2 => ⟨⟨by omega, by omega⟩, ⟨x + 1, by omega, by omega, fun j hj2 => ?_⟩, by (try dsimp only); omega⟩, fun g2 => ?_⟩⟩
  · have hs : a.toNat < sgn b N N := by omega
    have := sa_ps hS hs
    have h3 := (ps_lt hs).1
    exact hj (ps b N a.toNat) (by omega) (by omega)
  · by_cases e : j = x
    · rw [e]; exact g2
    · exact hj j (by omega)
  · rw [Int.toNat_natCast] at g2
    have hr := sa_rng hS (show x < N by omega)
    have hs : a.toNat < sgn b N N := by omega
    have h3 := sa_ps hS hs
    have h4 := (ps_lt hs)
    have h5 : ¬ ps b N a.toNat < x := fun k => hj _ k (by omega)
    have h6 : ¬ x < ps b N a.toNat := fun k => by
      have := sgn_mono (b := b) (N := N) (show x + 1 ≤ ps b N a.toNat by omega)
      have e := hS.1 x (by omega)
      omega
    have := h1 a.toNat (by omega) hs
    rw [show ps b N a.toNat = x by omega] at this
    exact this
theorem c_sign {b sa msa : Nat → Int} {N : Nat} {thr a : Int} {Q : Int → Int → Int → Prop} (hN : N ≤ 600) (hS : SgA b N sa) (hm : MsA b N msa) (hq : ∀ r, Q r r 0) : wp_Picker_sign sa N a (fun r => wp_M_sign msa thr (sgn b N N) a (fun r' th => Q r r' th)) := by
  have hsN := sgn_le b N N
  unfold wp_Picker_sign wp_M_sign
  refine b_sign hN hS (fun s e hs => ?_) (fun k => ?_)
  · subst e
    refine ⟨⟨by omega, by omega⟩, b_Min ⟨fun g => ?_, fun g => ⟨⟨by omega, by omega⟩, ?_⟩⟩⟩
    · have := of_decide_eq_false (bI_0 g); omega
    · rw [Int.toNat_natCast, hm s (by omega)]; exact hq _
  · refine ⟨⟨by omega, by omega⟩, b_Min ⟨fun g => hq _, fun g => ?_⟩⟩
    have := of_decide_eq_true (bI_1 g); omega
theorem b_MsignOf {b msa : Nat → Int} {N : Nat} {thr a : Int} {Q : Int → Int → Prop} (hN : N ≤ 600) (hm : MsA b N msa) (h1 : ∀ i : Nat, a = i → i < N → Q ((sgn b N (i + 1) : Int) - 1) 0) (h2 : ¬ (0 ≤ a ∧ a < (N : Int)) → Q (-1) 0) : wp_M_signOf msa thr (sgn b N N) a Q := by
  have hsN := sgn_le b N N
  unfold wp_M_signOf
  refine ⟨fun x1 => ∃ x : Nat, x1 = x ∧ x ≤ sgn b N N ∧ ∀ s, s < x → ¬ ((ps b N s : Int) ≤ a ∧ a < (ps b N (s + 1) : Int)), fun x1 => sgn b N N - x1.toNat, ⟨0, rfl, by omega, fun j hj => by omega⟩, ?_⟩
  rintro _ ⟨x, rfl, hx, hj⟩
  have fnd : ∀ i : Nat, i < N → ∀ s, s < sgn b N N → (ps b N s ≤ i ∧ i < ps b N (s + 1) ↔ sgn b N (i + 1) = s + 1) := by
    intro i hi s hs
    have e1 := sgn_ps (b := b) (N := N) (s := s) (by omega)
    have e2 := sgn_ps (b := b) (N := N) (s := s + 1) (by omega)
    constructor
    · rintro ⟨k1, k2⟩
      have a1 := sgn_lt (ps_sec b N s) (show ps b N s < i + 1 by omega)
      have a2 := sgn_mono (b := b) (N := N) (show i + 1 ≤ ps b N (s + 1) by omega)
      omega
    · intro k
      constructor
      · rcases Nat.lt_or_ge i (ps b N s) with g | g
        · have := sgn_mono (b := b) (N := N) (show i + 1 ≤ ps b N s by omega)
          omega
        · exact g
      · rcases Nat.lt_or_ge i (ps b N (s + 1)) with g | g
        · exact g
        · have := sgn_lt (ps_sec b N (s + 1)) (show ps b N (s + 1) < i + 1 by omega)
          omega
  refine ⟨fun g => h2 fun k => ?_, fun g => ⟨⟨by omega, by omega⟩, ?_⟩⟩
  · have p1 := sgn_lt (b := b) (N := N) (i := 0) (j := a.toNat + 1) (sec_0 b N) (by omega)
    have p2 := sgn_mono (b := b) (N := N) (show a.toNat + 1 ≤ N by omega)
    have := (fnd a.toNat (by omega) (sgn b N (a.toNat + 1) - 1) (by omega)).mpr (by omega)
    exact hj (sgn b N (a.toNat + 1) - 1) (by omega) ⟨by omega, by omega⟩
  · have pxN := ps_le b N x
    rw [Int.toNat_natCast, show Int.toNat ((x : Int) + 1) = x + 1 from rfl, hm x hx, hm (x + 1) (by omega)]
    refine ⟨¬ ((ps b N x : Int) ≤ a ∧ a < (ps b N (x + 1) : Int)), fun k => ⟨⟨by omega, by omega⟩, ⟨x + 1, by omega, by omega, fun s hs => ?_⟩, by (try dsimp only); omega⟩, fun k => by omega, fun k => ⟨⟨by omega, by omega⟩, ⟨by omega, by omega⟩, fun k2 => by omega, fun k2 => ?_⟩⟩
    · by_cases e : s = x
      · rw [e]; exact k
      · exact hj s (by omega)
    · have p3 := ps_le b N (x + 1)
      have := (fnd a.toNat (by omega) x (by omega)).mp ⟨by omega, by omega⟩
      have h3 := h1 a.toNat (by omega) (by omega)
      rw [this] at h3
      rw [show (((x + 1 : Nat) : Int) - 1) = x by omega] at h3
      exact h3
theorem c_signOf {b sa msa : Nat → Int} {N : Nat} {thr a : Int} {Q : Int → Int → Int → Prop} (hN : N ≤ 600) (hS : SgA b N sa) (hm : MsA b N msa) (hq : ∀ r, Q r r 0) : wp_Picker_signOf sa N a (fun r => wp_M_signOf msa thr (sgn b N N) a (fun r' th => Q r r' th)) := by
  unfold wp_Picker_signOf
  refine ⟨¬ (0 ≤ a ∧ a < (N : Int)), fun k => b_MsignOf hN hm (fun i e hi => by omega) (fun _ => hq _), fun k => by omega, fun k => ⟨fun k2 => ⟨⟨by omega, by omega⟩, ?_⟩, fun k2 => by omega⟩⟩
  refine b_MsignOf hN hm (fun i e hi => ?_) (fun k3 => by omega)
  subst e
  rw [Int.toNat_natCast, hS.1 i hi]; exact hq _
