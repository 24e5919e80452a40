/-! B58: choice, loss of the reference -/
theorem b_Mchoice {b so0 lk fr to hwa mw mi mf ml im wo ln9 ins tk sp : Nat → Int} {N I li mo bu : Nat} {wt tc : Nat → Nat} {R : Nat → Nat → Bool} {al ak z a : Int} {Q : Int → (Nat → Int) → (Nat → Int) → (Nat → Int) → (Nat → Int) → (Nat → Int) → Int → Int → Int → Prop} (hB : MBs b N I wt tc R so0 lk fr to hwa mw mi mf ml im) (hal : al = 0 ∨ (al = 1 ∧ StA (Sn b N) I wt (taN b N I R) (leN b N) wo ln9)) (hak : ak = 0 ∨ (ak = 1 ∧ TkA (Sn b N) (tkl b N li) tk)) (hmo : mo ≤ 6)
    (hq : ∀ (x : Nat) (wo' ln' ins' tk' sp' : Nat → Int) (z' : Int), StA (Sn b N) I wt (taN b N I R) (leN b N) wo' ln' → TkA (Sn b N) (tkl b N li) tk' → (a = 0 → x = grd (Sn b N) I wt (leN b N) (taN b N I R) (tkl b N li) mo bu) → (¬ a = 0 → Bst (Sn b N) (wZ (Sn b N) I wt (taN b N I R)) (lS (Sn b N) (leN b N)) (fun y => may (Sn b N) (leN b N) (tkl b N li) mo bu y = true ∧ y &&& 0 = 0) x) → Q (x : Nat) wo' ln' ins' tk' sp' 1 1 z') : wp_M_chooses so0 lk fr to hwa mw mi mf wo ln9 ins tk sp (Wn b N) (Sn b N) I (M0 (Wn b N) I R) al ak bu mo li z a Q := by
  unfold wp_M_chooses
  refine ⟨fun g => b_MGreedy hB hal hak hmo fun wo' ln' ins' tk' sp' z' hS hK => hq _ wo' ln' ins' tk' sp' z' hS hK (fun _ => rfl) (fun k => absurd g k), fun g => b_Mbest (wi := 0) hB hal hak (by decide) fun x wo' ln' ins' tk' hS hK hx => hq x wo' ln' ins' tk' _ _ hS hK (fun k => absurd k g) (fun _ => hx)⟩
theorem b_Mloss {b so0 lk fr to hwa mw mi mf ml im wo ln9 ins tk : Nat → Int} {N I li mo bu : Nat} {wt tc : Nat → Nat} {R : Nat → Nat → Bool} {thr al ak a : Int} {Q : Int → (Nat → Int) → (Nat → Int) → (Nat → Int) → (Nat → Int) → Int → Int → Int → Prop} (hB : MBs b N I wt tc R so0 lk fr to hwa mw mi mf ml im) (hal : al = 0 ∨ (al = 1 ∧ StA (Sn b N) I wt (taN b N I R) (leN b N) wo ln9)) (hak : ak = 0 ∨ (ak = 1 ∧ TkA (Sn b N) (tkl b N li) tk))
    (h1 : ∀ s : Nat, a = s → s < Sn b N → ∀ (x y : Nat) (wo' ln' ins' tk' : Nat → Int), StA (Sn b N) I wt (taN b N I R) (leN b N) wo' ln' → TkA (Sn b N) (tkl b N li) tk' → BsP (Sn b N) I wt (leN b N) (taN b N I R) (tkl b N li) mo bu 0 x → BsP (Sn b N) I wt (leN b N) (taN b N I R) (tkl b N li) mo bu (2 ^ s) y → Q ((wZ (Sn b N) I wt (taN b N I R) x : Int) - wZ (Sn b N) I wt (taN b N I R) y) wo' ln' ins' tk' 0 1 1) (h2 : ¬ (0 ≤ a ∧ a < (Sn b N : Int)) → Q 0 wo ln9 ins tk 1 al ak) (hz : ∀ x, wZ (Sn b N) I wt (taN b N I R) x ≤ 100000) : wp_M_loss so0 lk fr to hwa mw mi mf wo ln9 ins tk thr (Wn b N) (Sn b N) I (M0 (Wn b N) I R) al ak bu mo li a Q := by
  have h14 := Sn_le b N
  have hp : 2 ^ Sn b N ≤ 2 ^ 14 := Nat.pow_le_pow_right (by omega) h14
  unfold wp_M_loss
  refine m_noS (by omega) (fun g => ⟨fun _ => ?_, fun k => absurd rfl k⟩) (fun g => ⟨fun k => absurd k (by decide), fun _ => h2 g⟩)
  obtain ⟨s, rfl⟩ : ∃ s : Nat, a = s := ⟨a.toNat, by omega⟩
  rw [b_shl1 (by omega)]
  have hs : 2 ^ s < 2 ^ Sn b N := Nat.pow_lt_pow_right (by omega) (by omega)
  refine b_Mbest (wi := 2 ^ s) hB hal hak (by omega) fun y wo1 ln1 ins1 tk1 hS1 hK1 hy => ?_
  have hy0 := hy.1
  refine ⟨⟨by omega, by omega⟩, b_Mbest (wi := 0) hB (.inr ⟨rfl, hS1⟩) (.inr ⟨rfl, hK1⟩) (by decide) fun x wo2 ln2 ins2 tk2 hS2 hK2 hx => ?_⟩
  have hx0 := hx.1
  have z1 := hz x
  have z2 := hz y
  rw [Int.toNat_natCast, Int.toNat_natCast, (hS2 x (by omega)).1, (hS1 y (by omega)).1]
  exact ⟨⟨by omega, by omega⟩, ⟨by omega, by omega⟩, h1 s rfl (by omega) x y wo2 ln2 ins2 tk2 hS2 hK2 hx hy⟩
