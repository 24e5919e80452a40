/-! B50: fits -/
theorem b_fits {b wb we qw qt qz ql : Nat → Int} {N I : Nat} {wt tc tz : Nat → Nat} {lt : Nat → Int} {st sf : Nat → Bool} {qs qf a1 a2 a3 : Int} {Q : Int → Prop} {E : Nat → Prop} (hB : Byt b N) (hW : WdA b N wb we) (hY : QyA I wt tc tz lt st sf qw qt qz ql qs qf)
    (h1 : ∀ k w : Nat, a1 = k → a3 = w → k < I → w < Wn b N → Q (if 0 ≤ a2 ∧ a2 < (tc k : Int) then bI (fit b N tz lt st (4 * k + a2.toNat) w) else 0)) (h2 : ¬ ((0 ≤ a1 ∧ a1 < (I : Int)) ∧ (0 ≤ a3 ∧ a3 < (Wn b N : Int))) → E 1) : wp_Picker_fits b wb we qt qz ql N (Wn b N) qs I a1 a2 a3 Q E := by
  have hI := hY.1
  have h100 : Wn b N ≤ 100 := by have := hB.1; unfold Wn; omega
  unfold wp_Picker_fits
  refine rq_idx (fun g1 => rq_idx (fun g3 => ?_) (fun g3 => h2 fun k => g3 k.2)) (fun g1 => h2 fun k => g1 k.1)
  obtain ⟨k, rfl⟩ : ∃ k : Nat, a1 = k := ⟨a1.toNat, by omega⟩
  obtain ⟨w, rfl⟩ : ∃ w : Nat, a3 = w := ⟨a3.toNat, by omega⟩
  have hk : k < I := by omega
  have hw : w < Wn b N := by omega
  have hq := h1 k w rfl rfl hk hw
  have hy := hY.2 k hk
  rw [Int.toNat_natCast, hy.2.1.1]
  refine ⟨fun g => ?_, fun g => ⟨⟨by omega, by omega⟩, fun g2 => ?_, fun g2 => ?_⟩⟩
  · rw [if_neg (by omega)] at hq; exact hq
  · obtain ⟨t, rfl⟩ : ∃ t : Nat, a2 = t := ⟨a2.toNat, by omega⟩
    rw [if_pos ⟨by omega, g2⟩, Int.toNat_natCast] at hq
    have ht := hy.2.2.2 t (by omega)
    exact b_termFits hB hW hw (by omega) ht.1.1 ht.1.2.2 ht.2.1 (fun i hi => (ht.2.2 i hi).1) ⟨bI_b _, hq⟩
  · rw [if_neg (by omega)] at hq; exact hq
theorem b_Mfits {b pg sa wf wt9 mw mt mz ml ms mf : Nat → Int} {N I : Nat} {wt tc tz : Nat → Nat} {lt : Nat → Int} {st sf : Nat → Bool} {thr a1 a2 a3 : Int} {Q : Int → Int → Prop} (hB : Byt b N) (hp : PgE b N pg) (hm : MsA b N sa) (hW : MwA b N wf wt9) (hY : MqA I wt tc tz lt st sf mw mt mz ml ms mf)
    (h1 : ∀ k w : Nat, a1 = k → a3 = w → k < I → w < Wn b N → Q (if 0 ≤ a2 ∧ a2 < (tc k : Int) then bI (fit b N tz lt st (4 * k + a2.toNat) w) else 0) 0) (h2 : ¬ ((0 ≤ a1 ∧ a1 < (I : Int)) ∧ (0 ≤ a3 ∧ a3 < (Wn b N : Int))) → Q 0 1) : wp_M_fits pg sa wf wt9 mt mz ms ml thr (sgn b N N) (Wn b N) I a1 a2 a3 Q := by
  have hI := hY.1
  have h100 : Wn b N ≤ 100 := by have := hB.1; unfold Wn; omega
  unfold wp_M_fits
  refine m_noI (by omega) (fun g1 => ⟨fun k => absurd rfl k, fun _ => ⟨⟨by omega, by omega⟩, m_no (fun g3 => ⟨fun _ => ?_, fun k => absurd rfl k⟩) (fun g3 => ⟨fun k => absurd k (by decide), fun _ => h2 (by omega)⟩)⟩⟩) (fun g1 => ⟨fun _ => h2 (by omega), fun k => absurd k (by decide)⟩)
  obtain ⟨k, rfl⟩ : ∃ k : Nat, a1 = k := ⟨a1.toNat, by omega⟩
  obtain ⟨w, rfl⟩ : ∃ w : Nat, a3 = w := ⟨a3.toNat, by omega⟩
  have hk : k < I := by omega
  have hw : w < Wn b N := by omega
  have hq := h1 k w rfl rfl hk hw
  have hy := hY.2 k hk
  rw [Int.toNat_natCast, hy.2.1.1]
  refine ⟨⟨by omega, by omega⟩, ⟨by omega, by omega⟩, b_Min ⟨fun g => ?_, fun g => ?_⟩⟩
  · have g := of_decide_eq_false (bI_0 g)
    rw [if_neg (by omega)] at hq; exact hq
  · have g := of_decide_eq_true (bI_1 g)
    obtain ⟨t, rfl⟩ : ∃ t : Nat, a2 = t := ⟨a2.toNat, by omega⟩
    rw [if_pos ⟨by omega, by omega⟩, Int.toNat_natCast] at hq
    have ht := hy.2.2.2 t (by omega)
    refine b_MfitsOne hB hp hm hW hw (by omega) ht.1.1 ht.1.2.2 ht.2.1 ht.2.2 ⟨fun e => ?_, fun e => ?_⟩
    · rw [e] at hq; exact hq
    · rw [bI_1 e] at hq; exact hq
