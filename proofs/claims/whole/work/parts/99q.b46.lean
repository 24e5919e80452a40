/-! B46: what is required; small answers -/
theorem rq_idx {a n : Int} {K : Prop} {E : Nat → Prop} (h1 : 0 ≤ a ∧ a < n → K) (h2 : ¬ (0 ≤ a ∧ a < n) → E 1) : wp_Picker_requireIndex a n K E := by
  unfold wp_Picker_requireIndex
  exact ⟨¬ (0 ≤ a ∧ a < n), h2, fun g => by omega, fun g => ⟨fun g2 => h1 ⟨by omega, g2⟩, fun g2 => by omega⟩⟩
theorem rq_what {a n : Int} {K : Prop} {E : Nat → Prop} (h1 : 0 ≤ a ∧ a ≤ n → K) (h2 : ¬ (0 ≤ a ∧ a ≤ n) → E 2) : wp_Picker_requireWhat a n K E := by
  unfold wp_Picker_requireWhat
  exact ⟨¬ (0 ≤ a ∧ a ≤ n), h2, fun g => by omega, fun g => ⟨fun g2 => h1 ⟨by omega, g2⟩, fun g2 => by omega⟩⟩
theorem rq_num {a l h : Int} {K : Prop} {E : Nat → Prop} (h1 : l ≤ a ∧ a ≤ h → K) (h2 : ¬ (l ≤ a ∧ a ≤ h) → E 3) : wp_Picker_requireNumber a l h K E := by
  unfold wp_Picker_requireNumber
  exact ⟨¬ (l ≤ a ∧ a ≤ h), h2, fun g => by omega, fun g => ⟨fun g2 => h1 ⟨by omega, g2⟩, fun g2 => by omega⟩⟩
theorem m_no {a l h th code : Int} {K : Int → Int → Prop} (h1 : l ≤ a ∧ a ≤ h → K 0 th) (h2 : ¬ (l ≤ a ∧ a ≤ h) → K 1 code) : wp_M_in a l h (fun r1 => jn1 (fun (J1 : Int → Prop) => (¬ r1 = 0 → J1 0) ∧ (r1 = 0 → J1 1)) (fun (y2 : Int) => wp_M_throwsIf th y2 code (fun (r3 : Int) (th' : Int) => K r3 th'))) := by
  refine b_Min ?_
  unfold wp_M_throwsIf
  by_cases g : l ≤ a ∧ a ≤ h
  · rw [decide_eq_true g]
    exact jn1_i ⟨fun _ => ⟨fun _ => ⟨by decide, h1 g⟩, fun k => absurd rfl k⟩, fun k => absurd k (by decide)⟩
  · rw [decide_eq_false g]
    exact jn1_i ⟨fun k => absurd rfl k, fun _ => ⟨fun k => absurd k (by decide), fun _ => ⟨by decide, h2 g⟩⟩⟩
theorem m_noS {a th : Int} {S : Nat} {K : Int → Int → Prop} (hS : S ≤ 1000) (h1 : 0 ≤ a ∧ a < (S : Int) → K 0 0) (h2 : ¬ (0 ≤ a ∧ a < (S : Int)) → K 1 1) : wp_M_noSentence th S a K := by
  unfold wp_M_noSentence
  exact ⟨⟨by omega, by omega⟩, m_no (K := fun r3 th' => (0 ≤ r3 ∧ r3 ≤ 1) ∧ K r3 th') (fun g => ⟨by decide, h1 (by omega)⟩) (fun g => ⟨by decide, h2 (by omega)⟩)⟩
theorem m_noI {a th : Int} {S : Nat} {K : Int → Int → Prop} (hS : S ≤ 1000) (h1 : 0 ≤ a ∧ a < (S : Int) → K 0 0) (h2 : ¬ (0 ≤ a ∧ a < (S : Int)) → K 1 1) : wp_M_noItem th S a K := by
  unfold wp_M_noItem
  exact ⟨⟨by omega, by omega⟩, m_no (K := fun r3 th' => (0 ≤ r3 ∧ r3 ≤ 1) ∧ K r3 th') (fun g => ⟨by decide, h1 (by omega)⟩) (fun g => ⟨by decide, h2 (by omega)⟩)⟩
theorem c_octet {st : WSt} {wb mo : Nat → Int} {l1 s1 t1 l2 s2 t2 thr a : Int} {Q : Int → Int → Int → Prop} (h : WrC st wb l1 s1 t1) (g : MrC st mo l2 s2 t2) (hb : st.1.length ≤ 5760) (hby : ∀ j, j < st.1.length → 0 ≤ st.1.getD j 0 ∧ st.1.getD j 0 ≤ 255) (hq : ∀ r, Q r r 0) : wp_Picker_octet wb l1 a (fun r => wp_M_octet mo thr l2 a (fun r' th => Q r r' th)) := by
  rw [h.1, g.1]
  have key : ∀ r, ((0 ≤ a ∧ a < (st.1.length : Int)) → r = st.1.getD a.toNat 0) → (¬ (0 ≤ a ∧ a < (st.1.length : Int)) → r = -1) → wp_M_octet mo thr (st.1.length : Nat) a (fun r' th => Q r r' th) := by
    intro r h1 h2
    unfold wp_M_octet
    refine ⟨⟨by omega, by omega⟩, b_Min ⟨fun k => ?_, fun k => ?_⟩⟩
    · have k := of_decide_eq_false (bI_0 k)
      rw [h2 (by omega)]; exact hq _
    · have k := of_decide_eq_true (bI_1 k)
      have e := h1 (by omega)
      refine ⟨⟨by omega, by omega⟩, ?_⟩
      rw [g.2.2.2 a.toNat (by omega), sgb_and (hby _ (by omega)), ← e]
      exact hq _
  unfold wp_Picker_octet
  refine ⟨¬ (0 ≤ a ∧ a < (st.1.length : Int)), fun k => key _ (fun k2 => absurd k2 k) (fun _ => rfl), fun k => by omega, fun k => ⟨fun k2 => ⟨⟨by omega, by omega⟩, key _ (fun _ => h.2.2.2 a.toNat (by omega)) (fun k3 => by omega)⟩, fun k2 => by omega⟩⟩
theorem c_marks {st : WSt} {wb mo : Nat → Int} {l1 s1 t1 l2 s2 t2 thr a : Int} {Q : Int → Int → Int → Prop} (h : WrC st wb l1 s1 t1) (g : MrC st mo l2 s2 t2) (hq : ∀ r, Q r r 0) : wp_Picker_marks s1 t1 a (fun r => wp_M_marks thr s2 t2 a (fun r' th => Q r r' th)) := by
  rw [h.2.1, h.2.2.1, g.2.1, g.2.2.1]
  unfold wp_Picker_marks wp_M_marks
  exact ⟨fun k => ⟨fun _ => hq _, fun k2 => absurd k k2⟩, fun k => ⟨fun k2 => absurd k2 k, fun _ => hq _⟩⟩
theorem c_fault {f thr : Int} {Q : Int → Int → Int → Prop} (hq : ∀ r, Q r r 0) : wp_Picker_fault f (fun r => wp_M_fault thr f (fun r' th => Q r r' th)) := hq f
