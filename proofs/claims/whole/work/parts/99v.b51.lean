/-! B51: common, tell -/
theorem b_cmn {b ws sf sw : Nat → Int} {lo hi : Nat → Int64} {N : Nat} {a1 a2 : Int} {Q : Int → Prop} {E : Nat → Prop} (hP : PlA b N ws sf sw lo hi) (h1 : ∀ s o : Nat, a1 = s → a2 = o → s < Sn b N → o < Sn b N → Q (cmo b N s o)) (h2 : ¬ ((0 ≤ a1 ∧ a1 < (Sn b N : Int)) ∧ (0 ≤ a2 ∧ a2 < (Sn b N : Int))) → E 1) : wp_Picker_common (Sn b N) lo hi a1 a2 Q E := by
  unfold wp_Picker_common
  refine rq_idx (fun g1 => rq_idx (fun g2 => ?_) (fun g2 => h2 fun k => g2 k.2)) (fun g1 => h2 fun k => g1 k.1)
  obtain ⟨s, rfl⟩ : ∃ s : Nat, a1 = s := ⟨a1.toNat, by omega⟩
  obtain ⟨o, rfl⟩ : ∃ o : Nat, a2 = o := ⟨a2.toNat, by omega⟩
  exact b_common hP (by omega) (by omega) (h1 s o rfl rfl (by omega) (by omega))
theorem b_Mcmn {b lk hwa : Nat → Int} {N : Nat} {thr a1 a2 : Int} {Q : Int → Int → Prop} (hA : AlA b N lk) (hH : MhA b N hwa) (h1 : ∀ s o : Nat, a1 = s → a2 = o → s < Sn b N → o < Sn b N → Q (cmo b N s o) 0) (h2 : ¬ ((0 ≤ a1 ∧ a1 < (Sn b N : Int)) ∧ (0 ≤ a2 ∧ a2 < (Sn b N : Int))) → Q 0 1) : wp_M_common lk hwa thr (Wn b N) (Sn b N) a1 a2 Q := by
  have h14 := Sn_le b N
  unfold wp_M_common
  refine m_noS (by omega) (fun g1 => ?_) (fun g1 => jn1_i ⟨fun _ => h2 fun k => g1 k.1, fun k => absurd k (by decide)⟩)
  refine jn1_i ⟨fun k => absurd rfl k, fun _ => m_noS (by omega) (fun g2 => ⟨fun _ => ?_, fun k => absurd rfl k⟩) (fun g2 => ⟨fun k => absurd k (by decide), fun _ => h2 fun k => g2 k.2⟩)⟩
  obtain ⟨s, rfl⟩ : ∃ s : Nat, a1 = s := ⟨a1.toNat, by omega⟩
  obtain ⟨o, rfl⟩ : ∃ o : Nat, a2 = o := ⟨a2.toNat, by omega⟩
  exact b_Mcommon hA hH (by omega) (by omega) (h1 s o rfl rfl (by omega) (by omega))
def tlK (a1 a2 : Int) : Prop := (a1 = 0 → 20 ≤ a2 ∧ a2 ≤ 700) ∧ (a1 = 1 → 1 ≤ a2 ∧ a2 ≤ 6) ∧ (a1 = 2 → 0 ≤ a2 ∧ a2 ≤ 100)
def tlO (a1 bu mo li : Int) : Int := if a1 = 0 then bu else if a1 = 1 then mo else li
def tlN (c a1 a2 z : Int) : Int := if a1 = c then a2 else z
theorem b_tell {b ws sf sw tk : Nat → Int} {lo hi : Nat → Int64} {N : Nat} {bu mo li ch bk a1 a2 : Int} {Q : Int → (Nat → Int) → Int → Int → Int → Int → Int → Prop} {E : Nat → (Nat → Int) → Int → Int → Int → Int → Int → Prop} (hP : PlA b N ws sf sw lo hi) (hli : 0 ≤ li)
    (h1 : 0 ≤ a1 ∧ a1 ≤ 2 → tlK a1 a2 → ∀ (tk' : Nat → Int) (l' : Nat), tlN 2 a1 a2 li = l' → TkA (Sn b N) (tkl b N l') tk' → Q (tlO a1 bu mo li) tk' (tlN 0 a1 a2 bu) (tlN 1 a1 a2 mo) (tlN 2 a1 a2 li) 0 0) (h2 : ¬ (0 ≤ a1 ∧ a1 ≤ 2) → E 2 tk bu mo li ch bk) (h3 : 0 ≤ a1 ∧ a1 ≤ 2 → ¬ tlK a1 a2 → E 3 tk bu mo li ch bk) : wp_Picker_tell tk (Sn b N) bu mo li ch bk lo hi a1 a2 Q E := by
  unfold wp_Picker_tell
  refine rq_what (fun g => ?_) h2
  have main : ∀ r bu' mo' li', r = tlO a1 bu mo li → tlK a1 a2 → bu' = tlN 0 a1 a2 bu → mo' = tlN 1 a1 a2 mo → li' = tlN 2 a1 a2 li → wp_Sets_startAnew tk (Sn b N) li' ch bk lo hi (fun tk' c' b' => Q r tk' bu' mo' li' c' b') := by
    intro r bu' mo' li' e0 hk e1 e2 e3
    have hl : 0 ≤ li' := by
      rw [e3]; unfold tlN
      split
      · next e => exact (hk.2.2 e).1
      · exact hli
    obtain ⟨l', hl'⟩ : ∃ l' : Nat, li' = l' := ⟨li'.toNat, by omega⟩
    unfold wp_Sets_startAnew
    rw [hl']
    refine b_tooLike hP fun tk' ht => ?_
    rw [← hl', e0, e1, e2, e3]
    exact h1 g hk tk' l' (by rw [← e3]; exact hl') ht
  unfold wp_Sets_setting
  have h0 : a1 = 0 ∨ a1 = 1 ∨ a1 = 2 := by omega
  rcases h0 with rfl | rfl | rfl
  · refine ⟨fun k => absurd rfl k, fun _ => jn3_i ⟨fun k => absurd rfl k, fun _ => rq_num (fun g2 => main _ _ _ _ rfl ⟨fun _ => g2, fun k => absurd k (by decide), fun k => absurd k (by decide)⟩ rfl rfl rfl) (fun g2 => h3 g fun k => g2 (k.1 rfl))⟩⟩
  · refine ⟨fun _ => ⟨fun k => absurd rfl k, fun _ => jn3_i ⟨fun _ => ⟨fun k => absurd rfl k, fun _ => rq_num (fun g2 => main _ _ _ _ rfl ⟨fun k => absurd k (by decide), fun _ => g2, fun k => absurd k (by decide)⟩ rfl rfl rfl) (fun g2 => h3 g fun k => g2 (k.2.1 rfl))⟩, fun k => absurd k (by decide)⟩⟩, fun k => absurd k (by decide)⟩
  · refine ⟨fun _ => ⟨fun _ => jn3_i ⟨fun _ => ⟨fun _ => rq_num (fun g2 => main _ _ _ _ rfl ⟨fun k => absurd k (by decide), fun k => absurd k (by decide), fun _ => g2⟩ rfl rfl rfl) (fun g2 => h3 g fun k => g2 (k.2.2 rfl)), fun k => absurd k (by decide)⟩, fun k => absurd k (by decide)⟩, fun k => absurd k (by decide)⟩, fun k => absurd k (by decide)⟩
theorem b_Mtell {thr al bu mo li ch a1 a2 : Int} {Q : Int → Int → Int → Int → Int → Int → Int → Prop}
    (h1 : 0 ≤ a1 ∧ a1 ≤ 2 → tlK a1 a2 → Q (tlO a1 bu mo li) 0 0 (tlN 0 a1 a2 bu) (tlN 1 a1 a2 mo) (tlN 2 a1 a2 li) 0) (h2 : ¬ (0 ≤ a1 ∧ a1 ≤ 2) → Q 0 1 al bu mo li ch) (h3 : 0 ≤ a1 ∧ a1 ≤ 2 → ¬ tlK a1 a2 → Q 0 2 al bu mo li ch) : wp_M_tell thr al bu mo li ch a1 a2 Q := by
  unfold wp_M_tell
  refine m_no (fun g => ⟨fun _ => ?_, fun k => absurd rfl k⟩) (fun g => ⟨fun k => absurd k (by decide), fun _ => h2 g⟩)
  refine ⟨fun y => (tlK a1 a2 ∧ y = 0) ∨ (¬ tlK a1 a2 ∧ y = 1), ?_, ?_⟩
  · unfold wp_M_throwsIf
    rintro _ (⟨k, rfl⟩ | ⟨k, rfl⟩)
    · refine ⟨fun _ => ⟨by decide, fun _ => ?_, fun e => absurd rfl e⟩, fun e => absurd rfl e⟩
      have hq := h1 g k
      have h0 : a1 = 0 ∨ a1 = 1 ∨ a1 = 2 := by omega
      rcases h0 with rfl | rfl | rfl
      · exact jn1_i ⟨fun e => absurd rfl e, fun _ => jn1_i ⟨fun e => absurd rfl e, fun _ => jn1_i ⟨fun _ => jn1_i ⟨fun _ => hq, fun e => absurd e (by decide)⟩, fun e => absurd e (by decide)⟩⟩⟩
      · exact jn1_i ⟨fun _ => ⟨fun e => absurd rfl e, fun _ => jn1_i ⟨fun _ => jn1_i ⟨fun e => absurd rfl e, fun _ => jn1_i ⟨fun _ => hq, fun e => absurd e (by decide)⟩⟩, fun e => absurd e (by decide)⟩⟩, fun e => absurd e (by decide)⟩
      · exact jn1_i ⟨fun _ => ⟨fun _ => jn1_i ⟨fun _ => jn1_i ⟨fun _ => jn1_i ⟨fun e => absurd rfl e, fun _ => hq⟩, fun e => absurd e (by decide)⟩, fun e => absurd e (by decide)⟩, fun e => absurd e (by decide)⟩, fun e => absurd e (by decide)⟩
    · exact ⟨fun e => absurd e (by decide), fun _ => ⟨by decide, fun e => absurd e (by decide), fun _ => h3 g k⟩⟩
  · have ask : ∀ l h : Int, (l ≤ a2 ∧ a2 ≤ h ↔ tlK a1 a2) → wp_M_in a2 l h (fun r => (¬ r = 0 → (tlK a1 a2 ∧ (0 : Int) = 0) ∨ (¬ tlK a1 a2 ∧ (0 : Int) = 1)) ∧ (r = 0 → (tlK a1 a2 ∧ (1 : Int) = 0) ∨ (¬ tlK a1 a2 ∧ (1 : Int) = 1))) := fun l h e => b_Min ⟨fun k => .inl ⟨e.mp (of_decide_eq_true (bI_1 k)), rfl⟩, fun k => .inr ⟨fun k2 => of_decide_eq_false (bI_0 k) (e.mpr k2), rfl⟩⟩
    have h0 : a1 = 0 ∨ a1 = 1 ∨ a1 = 2 := by omega
    rcases h0 with rfl | rfl | rfl
    · exact ⟨fun e => absurd rfl e, fun _ => ask 20 700 ⟨fun k => ⟨fun _ => k, fun e => absurd e (by decide), fun e => absurd e (by decide)⟩, fun k => k.1 rfl⟩⟩
    · exact ⟨fun _ => ⟨fun e => absurd rfl e, fun _ => ask 1 6 ⟨fun k => ⟨fun e => absurd e (by decide), fun _ => k, fun e => absurd e (by decide)⟩, fun k => k.2.1 rfl⟩⟩, fun e => absurd e (by decide)⟩
    · exact ⟨fun _ => ⟨fun _ => ask 0 100 ⟨fun k => ⟨fun e => absurd e (by decide), fun e => absurd e (by decide), fun _ => k⟩, fun k => k.2.2 rfl⟩, fun e => absurd e (by decide)⟩, fun e => absurd e (by decide)⟩
