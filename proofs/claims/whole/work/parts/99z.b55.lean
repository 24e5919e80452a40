/-! B55: choose -/
theorem or_S {S ch s : Nat} (hc : ch < 2 ^ S) (hs : s < S) : ch ||| 2 ^ s < 2 ^ S := Nat.or_lt_two_pow hc (Nat.pow_lt_pow_right (by omega) hs)
theorem b_choose {S I ch mo bu : Nat} {wt le : Nat → Nat} {ta : Nat → Nat → Nat} {tk : Nat → Nat → Bool} {qw ss tk9 : Nat → Int} {tl : Nat → Int64} {a : Int} {Q : Int → Int → Prop} {E : Nat → Int → Prop} (hL : LeA S le ss) (hK : TkA S tk tk9) (hw : QwA I wt qw) (hT : TaA S ta tl) (hc : ch < 2 ^ S)
    (h1 : ∀ s : Nat, a = s → s < S → (!ch.testBit s && may S le tk mo bu (ch ||| 2 ^ s)) = true → Q (wZ S I wt ta (ch ||| 2 ^ s)) ((ch ||| 2 ^ s : Nat) : Int)) (h2 : ¬ (0 ≤ a ∧ a < (S : Int)) → E 1 ch) (h3 : ∀ s : Nat, a = s → s < S → (!ch.testBit s && may S le tk mo bu (ch ||| 2 ^ s)) = false → E 4 ch) : wp_Picker_choose ss qw tk9 S I bu mo ch tl a Q E := by
  have hS := hL.1
  have hp : 2 ^ S ≤ 2 ^ 14 := Nat.pow_le_pow_right (by omega) hS
  unfold wp_Picker_choose
  refine rq_idx (fun g => ?_) h2
  obtain ⟨s, rfl⟩ : ∃ s : Nat, a = s := ⟨a.toNat, by omega⟩
  have ho := or_S hc (show s < S by omega)
  refine b_mayJoin hL hK (by omega) (by omega) ⟨fun k => ?_, fun k => h3 s rfl (by omega) (bI_0 k)⟩
  rw [b_orb (by omega) (by omega)]
  exact b_worthSet hS hw hT (by omega) (h1 s rfl (by omega) (bI_1 k))
theorem b_Mchoose {b so0 lk fr to hwa mw mi mf ml im wo ln9 ins tk : Nat → Int} {N I ch li mo bu : Nat} {wt tc : Nat → Nat} {R : Nat → Nat → Bool} {thr al ak a : Int} {Q : Int → (Nat → Int) → (Nat → Int) → (Nat → Int) → (Nat → Int) → Int → Int → Int → Int → Prop} (hB : MBs b N I wt tc R so0 lk fr to hwa mw mi mf ml im) (hal : al = 0 ∨ (al = 1 ∧ StA (Sn b N) I wt (taN b N I R) (leN b N) wo ln9)) (hak : ak = 0 ∨ (ak = 1 ∧ TkA (Sn b N) (tkl b N li) tk)) (hc : ch < 2 ^ Sn b N)
    (h1 : ∀ s : Nat, a = s → s < Sn b N → (!ch.testBit s && may (Sn b N) (leN b N) (tkl b N li) mo bu (ch ||| 2 ^ s)) = true → ∀ wo' ln' ins' tk', StA (Sn b N) I wt (taN b N I R) (leN b N) wo' ln' → TkA (Sn b N) (tkl b N li) tk' → Q (wZ (Sn b N) I wt (taN b N I R) (ch ||| 2 ^ s)) wo' ln' ins' tk' 0 1 1 ((ch ||| 2 ^ s : Nat) : Int)) (h2 : ¬ (0 ≤ a ∧ a < (Sn b N : Int)) → Q 0 wo ln9 ins tk 1 al ak ch) (h3 : ∀ s : Nat, a = s → s < Sn b N → (!ch.testBit s && may (Sn b N) (leN b N) (tkl b N li) mo bu (ch ||| 2 ^ s)) = false → ∀ wo' ln' ins' tk', StA (Sn b N) I wt (taN b N I R) (leN b N) wo' ln' → TkA (Sn b N) (tkl b N li) tk' → Q 0 wo' ln' ins' tk' 2 1 1 ch) : wp_M_choose so0 lk fr to hwa mw mi mf wo ln9 ins tk thr (Wn b N) (Sn b N) I (M0 (Wn b N) I R) al ak bu mo li ch a Q := by
  have h14 := Sn_le b N
  have hp : 2 ^ Sn b N ≤ 2 ^ 14 := Nat.pow_le_pow_right (by omega) h14
  unfold wp_M_choose
  refine m_noS (by omega) (fun g => ⟨fun _ => ?_, fun k => absurd rfl k⟩) (fun g => ⟨fun k => absurd k (by decide), fun _ => h2 g⟩)
  obtain ⟨s, rfl⟩ : ∃ s : Nat, a = s := ⟨a.toNat, by omega⟩
  have hs : s < Sn b N := by omega
  have ho := or_S hc hs
  refine b_MLike hB hal hak fun wo' ln' ins' tk' hSt hTk => b_Mholds (by omega) (by omega) ?_
  rw [b_orb (by omega) (by omega)]
  refine ⟨fun y => ((!ch.testBit s && may (Sn b N) (leN b N) (tkl b N li) mo bu (ch ||| 2 ^ s)) = true ∧ y = 0) ∨ ((!ch.testBit s && may (Sn b N) (leN b N) (tkl b N li) mo bu (ch ||| 2 ^ s)) = false ∧ y = 1), ?_, ⟨(!ch.testBit s && may (Sn b N) (leN b N) (tkl b N li) mo bu (ch ||| 2 ^ s)) = false, fun k => .inr ⟨k, rfl⟩, fun k => by rw [bI_1 k]; rfl, fun k => b_Mmay h14 (hSt _ ho).2 hTk (by omega) ⟨fun k2 => .inl ⟨by rw [bI_0 k, bI_1 k2]; rfl, rfl⟩, fun k2 => by rw [bI_0 k2, Bool.and_false]⟩⟩⟩
  unfold wp_M_throwsIf
  rintro _ (⟨k, rfl⟩ | ⟨k, rfl⟩)
  · refine ⟨fun _ => ⟨by decide, fun _ => ⟨⟨by omega, by omega⟩, ?_⟩, fun e => absurd rfl e⟩, fun e => absurd rfl e⟩
    rw [Int.toNat_natCast, (hSt _ ho).1]
    exact h1 s rfl hs k wo' ln' ins' tk' hSt hTk
  · exact ⟨fun e => absurd e (by decide), fun _ => ⟨by decide, fun e => absurd e (by decide), fun _ => h3 s rfl hs k wo' ln' ins' tk' hSt hTk⟩⟩
