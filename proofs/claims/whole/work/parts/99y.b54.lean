/-! B54: widest of the class; rank -/
theorem b_wid {b sa wb we qw qt bg en : Nat → Int} {N I : Nat} {wt tc : Nat → Nat} {R : Nat → Nat → Bool} {z1 z2 z3 z4 a1 a2 : Int} {Q : Int → Int → Int → Int → Int → Prop} {E : Nat → Int → Int → Int → Int → Prop} (hN : N ≤ 600) (hL : WlA (Wn b N) (FN b N) (TN b N) sa wb we) (hT : TcA (Wn b N) I tc R qt) (hw : QwA I wt qw) (hbg : ∀ v, v < Wn b N → bg v = bs (fun k => R k v) I) (hen : ∀ v, v < Wn b N → en v = bs (fun k => enR tc R k v) I)
    (h1 : ∀ n : Nat, a1 = n → 1 ≤ n → n ≤ 600 → 0 ≤ a2 ∧ a2 ≤ 3 → ∀ f l w, WRes (Wn b N) I wt tc R (FN b N) (TN b N) 0 (Wn b N) n f l w → ∀ f' l' w' wh', Q (vwi (FN b N) (TN b N) a2 f l w) f' l' w' wh') (h2 : ¬ (0 ≤ a2 ∧ a2 ≤ 3) → E 2 z1 z2 z3 z4) (h3 : 0 ≤ a2 ∧ a2 ≤ 3 → ¬ (1 ≤ a1 ∧ a1 ≤ 600) → E 3 z1 z2 z3 z4) : wp_Picker_widest sa wb we qw qt bg en (Wn b N) I z1 z2 z3 z4 a1 a2 Q E := by
  have hF := FTo_N (b := b) hN
  have h100 := hF.1
  unfold wp_Picker_widest
  refine rq_what (fun g2 => rq_num (fun g1 => ⟨⟨by omega, by omega⟩, ?_⟩) (fun g1 => h3 g2 g1)) h2
  obtain ⟨n, rfl⟩ : ∃ n : Nat, a1 = n := ⟨a1.toNat, by omega⟩
  refine b_widest (lo := 0) (h1 := Wn b N) hF hL hT hw hbg hen (Nat.le_refl _) (by decide) fun f l w hr => ?_
  have hq := h1 n rfl (by omega) (by omega) g2 f l w hr f l w 0
  unfold vwi at hq
  refine ⟨fun k => ?_, fun k => ?_⟩
  · rw [if_neg k] at hq
    rcases hr with ⟨rfl, rfl, g3, _⟩ | ⟨p, q, rfl, rfl, g3, g4, _⟩
    · rw [if_pos rfl] at hq; exact b_found0 hq
    · rw [if_neg (show ¬ (p : Int) = -1 by omega), Int.toNat_natCast, Int.toNat_natCast] at hq
      have c1 := g4.2.1
      have c2 := g4.2.2.1
      exact b_found hF hL (by omega) (by omega) hq
  · rw [if_pos k] at hq; exact hq
theorem b_rank {S I : Nat} {wt : Nat → Nat} {ta : Nat → Nat → Nat} {qw : Nat → Int} {tl : Nat → Int64} {a : Int} {Q : Int → Prop} (hS : S ≤ 14) (hw : QwA I wt qw) (hT : TaA S ta tl) (hq : Q (rkI S (fun s => wth I wt (ta s)) a)) : wp_Picker_rank qw S I tl a Q := by
  unfold wp_Picker_rank
  refine ⟨a < 0 ∨ (S : Int) ≤ a, fun k => ?_, fun k => .inl k, fun k => ⟨fun _ => b_ranked hS hw hT hq, fun k2 => .inr (by omega)⟩⟩
  rw [rkI_out k] at hq; exact hq
theorem nd_le (a b : Nat) : ndiff a b ≤ a := Nat.and_le_left
theorem b_drop {S I ch : Nat} {wt : Nat → Nat} {ta : Nat → Nat → Nat} {qw : Nat → Int} {tl : Nat → Int64} {a : Int} {Q : Int → Int → Prop} {E : Nat → Int → Prop} (hS : S ≤ 14) (hw : QwA I wt qw) (hT : TaA S ta tl) (hc : ch < 2 ^ S)
    (h1 : ∀ s : Nat, a = s → s < S → ch.testBit s = true → Q (wZ S I wt ta (ndiff ch (2 ^ s))) ((ndiff ch (2 ^ s) : Nat) : Int)) (h2 : ¬ (0 ≤ a ∧ a < (S : Int)) → E 1 ch) (h3 : ∀ s : Nat, a = s → s < S → ch.testBit s = false → E 4 ch) : wp_Picker_drop qw S I ch tl a Q E := by
  have hp : 2 ^ S ≤ 2 ^ 14 := Nat.pow_le_pow_right (by omega) hS
  unfold wp_Picker_drop
  refine rq_idx (fun g => ?_) h2
  obtain ⟨s, rfl⟩ : ∃ s : Nat, a = s := ⟨a.toNat, by omega⟩
  refine b_Has (by omega) (by omega) ⟨fun k => ?_, fun k => h3 s rfl (by omega) (bI_0 k)⟩
  rw [b_shl1 (by omega), b_andn (by omega)]
  have := nd_le ch (2 ^ s)
  exact b_worthSet hS hw hT (by omega) (h1 s rfl (by omega) (bI_1 k))
theorem m_if {r th code : Int} {K : Int → Int → Prop} (h1 : ¬ r = 0 → K 0 th) (h2 : r = 0 → K 1 code) : jn1 (fun (J1 : Int → Prop) => (¬ r = 0 → J1 0) ∧ (r = 0 → J1 1)) (fun (y2 : Int) => wp_M_throwsIf th y2 code (fun (r3 : Int) (th' : Int) => K r3 th')) := by
  unfold wp_M_throwsIf
  exact jn1_i ⟨fun g => ⟨fun _ => ⟨by decide, h1 g⟩, fun k => absurd rfl k⟩, fun g => ⟨fun k => absurd k (by decide), fun _ => ⟨by decide, h2 g⟩⟩⟩
theorem b_Mdrop {b so0 lk fr to hwa mw mi mf ml im wo ln9 ins tk : Nat → Int} {N I ch li : Nat} {wt tc : Nat → Nat} {R : Nat → Nat → Bool} {thr al ak a : Int} {Q : Int → (Nat → Int) → (Nat → Int) → (Nat → Int) → (Nat → Int) → Int → Int → Int → Int → Prop} (hB : MBs b N I wt tc R so0 lk fr to hwa mw mi mf ml im) (hal : al = 0 ∨ (al = 1 ∧ StA (Sn b N) I wt (taN b N I R) (leN b N) wo ln9)) (hak : ak = 0 ∨ (ak = 1 ∧ TkA (Sn b N) (tkl b N li) tk)) (hc : ch < 2 ^ Sn b N)
    (h1 : ∀ s : Nat, a = s → s < Sn b N → ch.testBit s = true → ∀ wo' ln' ins' tk', StA (Sn b N) I wt (taN b N I R) (leN b N) wo' ln' → TkA (Sn b N) (tkl b N li) tk' → Q (wZ (Sn b N) I wt (taN b N I R) (ndiff ch (2 ^ s))) wo' ln' ins' tk' 0 1 1 ((ndiff ch (2 ^ s) : Nat) : Int)) (h2 : ¬ (0 ≤ a ∧ a < (Sn b N : Int)) → Q 0 wo ln9 ins tk 1 al ak ch) (h3 : ∀ s : Nat, a = s → s < Sn b N → ch.testBit s = false → Q 0 wo ln9 ins tk 2 al ak ch) : wp_M_drop so0 lk fr to hwa mw mi mf wo ln9 ins tk thr (Wn b N) (Sn b N) I (M0 (Wn b N) I R) al ak li ch a Q := by
  have h14 := Sn_le b N
  have hp : 2 ^ Sn b N ≤ 2 ^ 14 := Nat.pow_le_pow_right (by omega) h14
  unfold wp_M_drop
  refine m_noS (by omega) (fun g => ⟨fun k => absurd rfl k, fun _ => ?_⟩) (fun g => ⟨fun _ => h2 g, fun k => absurd k (by decide)⟩)
  obtain ⟨s, rfl⟩ : ∃ s : Nat, a = s := ⟨a.toNat, by omega⟩
  refine b_Mholds (by omega) (by omega) (m_if (fun k => ⟨fun _ => ?_, fun e => absurd rfl e⟩) (fun k => ⟨fun e => absurd e (by decide), fun _ => h3 s rfl (by omega) (bI_0 k)⟩))
  refine b_MLike hB hal hak fun wo' ln' ins' tk' hSt hTk => ?_
  rw [b_shl1 (by omega), b_andn (by omega)]
  have hn := nd_le ch (2 ^ s)
  have hq := h1 s rfl (by omega) (bI_1 k) wo' ln' ins' tk' hSt hTk
  rw [Int.toNat_natCast, (hSt _ (by omega)).1]
  exact ⟨⟨by omega, by omega⟩, hq⟩
