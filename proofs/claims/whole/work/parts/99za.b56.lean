/-! B56: step -/
def spv (nx : Nat → Option Nat) (a : Int) : Int := if 0 ≤ a ∧ a < (gK nx : Int) then oI (nx (gst nx a.toNat)) else -1
theorem b_step {S I mo bu : Nat} {wt le : Nat → Nat} {ta : Nat → Nat → Nat} {tk : Nat → Nat → Bool} {qw ss tl sp : Nat → Int} {tal9 : Nat → Int64} {z a : Int} {Q : Int → (Nat → Int) → Int → Prop} (hw : QwA I wt qw) (hT : TaA S ta tal9) (hL : LeA S le ss) (hK : TkA S tk tl) (hq : ∀ sp' z', Q (spv (nX S I wt le ta tk mo bu) a) sp' z') : wp_Picker_step ss qw sp tl S I bu mo z tal9 a Q := by
  unfold wp_Picker_step
  refine b_steps hw hT hL hK fun sp' h => ?_
  have h6 := gK_le (nX S I wt le ta tk mo bu)
  have hq := hq sp' (gK (nX S I wt le ta tk mo bu) : Nat)
  unfold spv at hq
  refine ⟨¬ (0 ≤ a ∧ a < (gK (nX S I wt le ta tk mo bu) : Int)), fun k => ?_, fun k => by omega, fun k => ⟨fun k2 => ⟨⟨by omega, by omega⟩, ?_⟩, fun k2 => by omega⟩⟩
  · rw [if_neg k] at hq; exact hq
  · rw [if_pos ⟨by omega, k2⟩] at hq
    rw [h a.toNat (by omega)]; exact hq
theorem b_Mstep {b so0 lk fr to hwa mw mi mf ml im wo ln9 ins tk sp : Nat → Int} {N I li mo bu : Nat} {wt tc : Nat → Nat} {R : Nat → Nat → Bool} {thr al ak z a : Int} {Q : Int → (Nat → Int) → (Nat → Int) → (Nat → Int) → (Nat → Int) → (Nat → Int) → Int → Int → Int → Int → Prop} (hB : MBs b N I wt tc R so0 lk fr to hwa mw mi mf ml im) (hal : al = 0 ∨ (al = 1 ∧ StA (Sn b N) I wt (taN b N I R) (leN b N) wo ln9)) (hak : ak = 0 ∨ (ak = 1 ∧ TkA (Sn b N) (tkl b N li) tk)) (hmo : mo ≤ 6)
    (hq : ∀ wo' ln' ins' tk' sp' z', StA (Sn b N) I wt (taN b N I R) (leN b N) wo' ln' → TkA (Sn b N) (tkl b N li) tk' → Q (spv (nX (Sn b N) I wt (leN b N) (taN b N I R) (tkl b N li) mo bu) a) wo' ln' ins' tk' sp' 0 1 1 z') : wp_M_step so0 lk fr to hwa mw mi mf wo ln9 ins tk sp thr (Wn b N) (Sn b N) I (M0 (Wn b N) I R) al ak bu mo li z a Q := by
  unfold wp_M_step
  refine b_MSteps hB hal hak hmo fun wo' ln' ins' tk' sp' hSt hTk h => ?_
  have h6 := gK_le (nX (Sn b N) I wt (leN b N) (taN b N I R) (tkl b N li) mo bu)
  have hq := hq wo' ln' ins' tk' sp' (gK (nX (Sn b N) I wt (leN b N) (taN b N I R) (tkl b N li) mo bu) : Nat) hSt hTk
  unfold spv at hq
  refine ⟨⟨by omega, by omega⟩, b_Min ⟨fun k => ?_, fun k => ⟨⟨?_, ?_⟩, ?_⟩⟩⟩
  · have k := of_decide_eq_false (bI_0 k)
    rw [if_neg (by omega)] at hq; exact hq
  · have k := of_decide_eq_true (bI_1 k); omega
  · have k := of_decide_eq_true (bI_1 k); omega
  · have k := of_decide_eq_true (bI_1 k)
    rw [if_pos (by omega)] at hq
    rw [h a.toNat (by omega)]; exact hq
