/-! B63: sentence -/
theorem LeA_N {b sb se ss : Nat → Int} {N : Nat} (hN : N ≤ 600) (h : SnA b N sb se ss) : LeA (Sn b N) (leN b N) ss := by
  refine ⟨Sn_le b N, fun s hs => ?_⟩
  have h1 := sEn_b (Sn_lt hs)
  have h2 := sgn_mono (b := b) (N := N) (Nat.le_of_lt h1.1)
  have h3 := sgn_le b N (sEn b N s)
  rw [(h s hs).2.2]
  unfold leN
  exact ⟨by omega, by omega⟩
theorem FtA_N {b fr to : Nat → Int} {N : Nat} (hN : N ≤ 600) (h : MtA b N fr to) : FtA (Sn b N) (leN b N) fr to := by
  refine ⟨Sn_le b N, fun s hs => ?_⟩
  have h1 := sEn_b (Sn_lt hs)
  have h2 := sgn_mono (b := b) (N := N) (Nat.le_of_lt h1.1)
  have h3 := sgn_le b N (sEn b N s)
  rw [(h s hs).1, (h s hs).2]
  unfold leN
  exact ⟨by omega, by omega, by omega, by omega, by omega⟩
def nvl (b : Nat → Int) (N I : Nat) (wt : Nat → Nat) (ta : Nat → Nat → Nat) (tk : Nat → Nat → Bool) (mo bu ch : Nat) (a : Int) (s : Nat) : Int :=
  if a = 0 then (sBg b N s : Int) else if a = 1 then (sEn b N s : Int) - sBg b N s else if a = 2 then (leN b N s : Int) else if a = 3 then (if fW b N s < fW b N (s + 1) then (fW b N s : Int) else -1) else if a = 4 then (fW b N (s + 1) : Int) - fW b N s else if a = 5 then (uw b N s : Int) else if a = 6 then (bs (fun k => decide (0 < ta s k)) I : Nat) else if a = 7 then (wth I wt (ta s) : Int) else if a = 8 then (wZ (Sn b N) I wt ta (ch ||| 2 ^ s) : Int) - wZ (Sn b N) I wt ta ch else if a = 9 then bI (!ch.testBit s && may (Sn b N) (leN b N) tk mo bu (ch ||| 2 ^ s)) else (echo b N s (Sn b N)).1
theorem b_sentence {b sb se ss ws sf9 sw qw tk9 : Nat → Int} {lo hi tal9 : Nat → Int64} {N I mo bu ch : Nat} {wt : Nat → Nat} {ta : Nat → Nat → Nat} {tk : Nat → Nat → Bool} {a1 a2 : Int} {Q : Int → Prop} {E : Nat → Prop} (hN : N ≤ 600) (hS : SnA b N sb se ss) (hP : PlA b N ws sf9 sw lo hi) (hw : QwA I wt qw) (hT : TaA (Sn b N) ta tal9) (hK : TkA (Sn b N) tk tk9) (hc : ch < 2 ^ Sn b N)
    (h1 : ∀ s : Nat, a1 = s → s < Sn b N → 0 ≤ a2 ∧ a2 ≤ 10 → Q (nvl b N I wt ta tk mo bu ch a2 s)) (h2 : 0 ≤ a1 ∧ a1 < (Sn b N : Int) → ¬ (0 ≤ a2 ∧ a2 ≤ 10) → E 2) (h3 : ¬ (0 ≤ a1 ∧ a1 < (Sn b N : Int)) → E 1) : wp_Picker_sentence sb se ss sf9 sw qw tk9 (Sn b N) I bu mo ch lo hi tal9 a1 a2 Q E := by
  have hL := LeA_N hN hS
  have h14 := Sn_le b N
  have hp : 2 ^ Sn b N ≤ 2 ^ 14 := Nat.pow_le_pow_right (by omega) h14
  unfold wp_Picker_sentence
  refine rq_idx (fun g1 => rq_what (fun g2 => ?_) (fun g2 => h2 g1 g2)) h3
  obtain ⟨s, rfl⟩ : ∃ s : Nat, a1 = s := ⟨a1.toNat, by omega⟩
  have hs : s < Sn b N := by omega
  have hq := h1 s rfl hs g2
  unfold nvl at hq
  have e := hS s hs
  have en := sEn_b (Sn_lt hs)
  have p := hP.2 s hs
  rw [Int.toNat_natCast]
  refine ⟨fun k => ?_, fun k => ?_⟩
  · rw [if_pos k, ← e.1] at hq; exact ⟨⟨by omega, by omega⟩, hq⟩
  rw [if_neg k] at hq
  refine ⟨fun k => ?_, fun k => ?_⟩
  · rw [if_pos k] at hq; rw [e.1, e.2.1]; exact ⟨⟨by omega, by omega⟩, ⟨by omega, by omega⟩, ⟨by omega, by omega⟩, hq⟩
  rw [if_neg k] at hq
  refine ⟨fun k => ?_, fun k => ?_⟩
  · rw [if_pos k, ← (hL.2 s hs).1] at hq; exact ⟨⟨by omega, by omega⟩, hq⟩
  rw [if_neg k] at hq
  refine ⟨fun k => ?_, fun k => ?_⟩
  · rw [if_pos k, ← p.2.1] at hq; exact ⟨⟨by omega, by omega⟩, hq⟩
  rw [if_neg k] at hq
  refine ⟨fun k => ?_, fun k => ?_⟩
  · rw [if_pos k, ← p.1] at hq; exact ⟨⟨by omega, by omega⟩, hq⟩
  rw [if_neg k] at hq
  refine ⟨fun k => ?_, fun k => ?_⟩
  · rw [if_pos k] at hq; exact b_unlike hP hs hq
  rw [if_neg k] at hq
  refine ⟨fun k => ?_, fun k => ?_⟩
  · rw [if_pos k] at hq; exact ⟨⟨by omega, by omega⟩, b_itemsOf hw.1 (hT.1 s hs) hq⟩
  rw [if_neg k] at hq
  refine ⟨fun k => ?_, fun k => ?_⟩
  · rw [if_pos k] at hq; exact ⟨⟨by omega, by omega⟩, b_worthOf hw (hT.1 s hs) hq⟩
  rw [if_neg k] at hq
  refine ⟨fun k => ?_, fun k => ?_⟩
  · rw [if_pos k] at hq; exact b_gain h14 hw hT (by omega) (by omega) hq
  rw [if_neg k] at hq
  refine ⟨fun k => ?_, fun k => ?_⟩
  · rw [if_pos k] at hq
    refine b_mayJoin hL hK (by omega) (by omega) ⟨fun e => ?_, fun e => ?_⟩
    · rw [e] at hq; exact hq
    · rw [bI_1 e] at hq; exact hq
  · rw [if_neg k] at hq; exact b_echo hP hs hq
theorem b_Msentence {b msa so0 lk fr to hwa mw mi mf ml im wo ln9 ins tk : Nat → Int} {N I li mo bu ch : Nat} {wt tc : Nat → Nat} {R : Nat → Nat → Bool} {thr al ak a1 a2 : Int} {Q : Int → (Nat → Int) → (Nat → Int) → (Nat → Int) → (Nat → Int) → Int → Int → Int → Prop} (hN : N ≤ 600) (hm : MsA b N msa) (hF : MtA b N fr to) (hS : ∀ w, w < Wn b N → so0 w = so b N w) (hB : MBs b N I wt tc R so0 lk fr to hwa mw mi mf ml im) (hal : al = 0 ∨ (al = 1 ∧ StA (Sn b N) I wt (taN b N I R) (leN b N) wo ln9)) (hak : ak = 0 ∨ (ak = 1 ∧ TkA (Sn b N) (tkl b N li) tk)) (hc : ch < 2 ^ Sn b N)
    (h1 : ∀ s : Nat, a1 = s → s < Sn b N → 0 ≤ a2 ∧ a2 ≤ 10 → ∀ (wo' ln' ins' tk' : Nat → Int), StA (Sn b N) I wt (taN b N I R) (leN b N) wo' ln' → TkA (Sn b N) (tkl b N li) tk' → Q (nvl b N I wt (taN b N I R) (tkl b N li) mo bu ch a2 s) wo' ln' ins' tk' 0 1 1) (h2 : 0 ≤ a1 ∧ a1 < (Sn b N : Int) → ¬ (0 ≤ a2 ∧ a2 ≤ 10) → Q 0 wo ln9 ins tk 2 al ak) (h3 : ¬ (0 ≤ a1 ∧ a1 < (Sn b N : Int)) → Q 0 wo ln9 ins tk 1 al ak) : wp_M_sentence msa so0 lk fr to hwa mw mi mf wo ln9 ins tk thr (Wn b N) (Sn b N) I (M0 (Wn b N) I R) al ak bu mo li ch a1 a2 Q := by
  have h14 := Sn_le b N
  have hP := p14 h14
  have hA := hB.2.2.2.2.1
  have hH := hB.2.2.2.2.2
  unfold wp_M_sentence
  refine m_noS (by omega) (fun g1 => ⟨fun k => absurd rfl k, fun _ => m_no (fun g2 => ⟨fun _ => ?_, fun k => absurd rfl k⟩) (fun g2 => ⟨fun k => absurd k (by decide), fun _ => h2 (by omega) g2⟩)⟩) (fun g1 => ⟨fun _ => h3 g1, fun k => absurd k (by decide)⟩)
  obtain ⟨s, rfl⟩ : ∃ s : Nat, a1 = s := ⟨a1.toNat, by omega⟩
  have hs : s < Sn b N := by omega
  refine b_MLike hB hal hak fun wo' ln' ins' tk' hSt hTk => ?_
  have hq2 := fun ins' => h1 s rfl hs g2 wo' ln' ins' tk' hSt hTk
  have hq := hq2 ins'
  unfold nvl at hq
  have en := sEn_b (Sn_lt hs)
  have s1 := sgn_mono (b := b) (N := N) (Nat.le_of_lt en.1)
  have s2 := sgn_mono (b := b) (N := N) en.2.1
  have s3 := sgn_le b N N
  have e1 : msa (sgn b N (sBg b N s)) = sBg b N s := by rw [hm _ (by omega), ps_sgn (by omega) (sBg_sec b N s)]
  have e2 : msa (sgn b N (sEn b N s)) = sEn b N s := by rw [hm _ (by omega), ps_sgn (by omega) (sEn_sec (Sn_lt hs))]
  have hcs := or_S hc hs
  have hps : 2 ^ s < 2 ^ Sn b N := Nat.pow_lt_pow_right (by omega) hs
  have hps0 := Nat.two_pow_pos s
  rw [Int.toNat_natCast, (hF s hs).1, (hF s hs).2, Int.toNat_natCast, Int.toNat_natCast, e1, e2, b_shl1 (show s < 31 by omega), b_or (show ch < 2 ^ 31 by omega) (show 2 ^ s < 2 ^ 31 by omega), b_and (show ch < 2 ^ 31 by omega), Int.toNat_natCast, Int.toNat_natCast, Int.toNat_natCast, (hSt _ hps).1, (hSt _ hcs).1, (hSt _ hc).1]
  refine ⟨fun k => ?_, fun k => ?_⟩
  · rw [if_pos k] at hq; exact ⟨⟨by omega, by omega⟩, ⟨by omega, by omega⟩, hq⟩
  rw [if_neg k] at hq
  refine ⟨fun k => ?_, fun k => ?_⟩
  · rw [if_pos k] at hq; exact ⟨⟨by omega, by omega⟩, ⟨by omega, by omega⟩, ⟨by omega, by omega⟩, ⟨by omega, by omega⟩, ⟨by omega, by omega⟩, hq⟩
  rw [if_neg k] at hq
  refine ⟨fun k => ?_, fun k => ?_⟩
  · rw [if_pos k] at hq
    unfold leN at hq
    rw [show ((sgn b N (sEn b N s) - sgn b N (sBg b N s) : Nat) : Int) = (sgn b N (sEn b N s) : Int) - sgn b N (sBg b N s) by omega] at hq
    exact ⟨⟨by omega, by omega⟩, ⟨by omega, by omega⟩, ⟨by omega, by omega⟩, hq⟩
  rw [if_neg k] at hq
  refine ⟨fun k => ?_, fun k => ?_⟩
  · rw [if_pos k] at hq; exact b_MfirstW hS hs hq
  rw [if_neg k] at hq
  refine ⟨fun k => ?_, fun k => ?_⟩
  · rw [if_pos k] at hq; exact b_MwordsIn hS hs hq
  rw [if_neg k] at hq
  refine ⟨fun k => ?_, fun k => ?_⟩
  · rw [if_pos k] at hq; exact b_MunlikeS hA hH hs hq
  rw [if_neg k] at hq
  refine ⟨fun k => ?_, fun k => ?_⟩
  · refine b_Mset (mo := mo) (bu := bu) ⟨by omega, by omega⟩ hB (.inr ⟨rfl, hSt⟩) (.inr ⟨rfl, hTk⟩) (fun set e hset _ wo2 ln2 ins2 tk2 hSt2 hTk2 => ?_) (fun k2 => absurd (by decide) k2) (fun _ k2 => absurd ⟨by omega, by omega⟩ k2)
    have e9 : set = 2 ^ s := by omega
    have hq := h1 s rfl hs g2 wo2 ln2 ins2 tk2 hSt2 hTk2
    unfold nvl at hq
    subst k
    rw [if_neg (by decide), if_neg (by decide), if_neg (by decide), if_neg (by decide), if_neg (by decide), if_neg (by decide), if_pos rfl] at hq
    unfold svl
    rw [if_neg (by decide), if_neg (by decide), if_neg (by decide), e9]
    rw [bs_congr (p := fun k => decide (0 < sS (Sn b N) (fun s => taN b N I R s k) (2 ^ s))) (q := fun k => decide (0 < taN b N I R s k)) (fun k _ => by (try dsimp only); rw [sS_one hs])]
    exact hq
  rw [if_neg k] at hq
  refine ⟨fun k => ?_, fun k => ?_⟩
  · rw [if_pos k] at hq
    rw [wZ_one hs]
    exact ⟨⟨by omega, by omega⟩, hq⟩
  rw [if_neg k] at hq
  refine ⟨fun k => ?_, fun k => ?_⟩
  · rw [if_pos k] at hq
    have w1 := wZ_le (S := Sn b N) (ta := taN b N I R) hB.2.1 (ch ||| 2 ^ s)
    have w2 := wZ_le (S := Sn b N) (ta := taN b N I R) hB.2.1 ch
    exact ⟨⟨by omega, by omega⟩, ⟨by omega, by omega⟩, ⟨by omega, by omega⟩, hq⟩
  rw [if_neg k] at hq
  refine ⟨fun k => ?_, fun k => ?_⟩
  · rw [if_pos k] at hq
    refine ⟨fun k2 => ?_, fun k2 => ?_⟩
    · have : ch.testBit s = true := by
        cases e : ch.testBit s
        · exact absurd (by rw [bit_and0.mpr e]; rfl) k2
        · rfl
      rw [this] at hq; exact hq
    · have : ch.testBit s = false := bit_and0.mp (by omega)
      rw [this, Bool.not_false, Bool.true_and] at hq
      refine b_Mmay h14 (hSt _ hcs).2 hTk (by omega) ⟨fun e => ?_, fun e => ?_⟩
      · rw [e] at hq; exact hq
      · rw [bI_1 e] at hq; exact hq
  · rw [if_neg k] at hq; exact b_Mecho hA hH hs hq
