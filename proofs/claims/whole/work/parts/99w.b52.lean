/-! B52: cut -/
def cvl (a f l wh : Int) : Int := if a = 2 then (if wh = 0 then 0 else 1) else if a = 0 then f else l
theorem b_cutQ {b sa wb we ws ss sf9 sw qw qt bg en : Nat → Int} {lo hi : Nat → Int64} {N I : Nat} {wt tc : Nat → Nat} {R : Nat → Nat → Bool} {z1 z2 z3 z4 a1 a2 a3 : Int} {Q : Int → Int → Int → Int → Int → Prop} {E : Nat → Int → Int → Int → Int → Prop} (hN : N ≤ 600) (hL : WlA (Wn b N) (FN b N) (TN b N) sa wb we) (hT : TcA (Wn b N) I tc R qt) (hw : QwA I wt qw) (hbg : ∀ v, v < Wn b N → bg v = bs (fun k => R k v) I) (hen : ∀ v, v < Wn b N → en v = bs (fun k => enR tc R k v) I) (hP : PlA b N ws sf9 sw lo hi) (hLe : LeA (Sn b N) (leN b N) ss)
    (h1 : ∀ s n : Nat, a1 = s → a2 = n → s < Sn b N → 10 ≤ n → n ≤ 600 → 0 ≤ a3 ∧ a3 ≤ 2 → ∀ f l wh, CtN b N I wt tc R n s f l wh → ∀ f' l' w' wh', Q (cvl a3 f l wh) f' l' w' wh') (h2 : ¬ (0 ≤ a1 ∧ a1 < (Sn b N : Int)) → E 1 z1 z2 z3 z4) (h3 : 0 ≤ a1 ∧ a1 < (Sn b N : Int) → ¬ (0 ≤ a3 ∧ a3 ≤ 2) → E 2 z1 z2 z3 z4) (h4 : 0 ≤ a1 ∧ a1 < (Sn b N : Int) → 0 ≤ a3 ∧ a3 ≤ 2 → ¬ (10 ≤ a2 ∧ a2 ≤ 600) → E 3 z1 z2 z3 z4) : wp_Picker_cut sa wb we ss sf9 sw qw qt bg en (Sn b N) I z1 z2 z3 z4 a1 a2 a3 Q E := by
  have hF := FTo_N (b := b) hN
  have hfW := fun s => fW_le b N s
  unfold wp_Picker_cut
  refine rq_idx (fun g1 => rq_what (fun g3 => rq_num (fun g2 => ?_) (fun g2 => h4 g1 g3 g2)) (fun g3 => h3 g1 g3)) h2
  obtain ⟨s, rfl⟩ : ∃ s : Nat, a1 = s := ⟨a1.toNat, by omega⟩
  obtain ⟨n, rfl⟩ : ∃ n : Nat, a2 = n := ⟨a2.toNat, by omega⟩
  have hs : s < Sn b N := by omega
  refine b_cut (le := leN b N) rfl hF hL hT hw hbg hen hP hLe hs fun f l w wh hc => ?_
  have hq := h1 s n rfl rfl hs (by omega) (by omega) g3 f l wh hc f l w wh
  unfold cvl at hq
  refine ⟨fun k => ?_, fun k => ?_⟩
  · rw [if_neg k] at hq
    rcases hc.lt with ⟨rfl, rfl, _⟩ | ⟨p, q, rfl, rfl, c1, c2, c3⟩
    · rw [show (if a3 = 0 then (-1 : Int) else -1) = -1 by split <;> rfl] at hq
      exact b_found0 hq
    · have := hfW (s + 1)
      refine b_found hF hL (by omega) (by omega) ?_
      unfold wat
      by_cases e : a3 = 0
      · rw [if_pos e] at hq ⊢; exact hq
      · rw [if_neg e] at hq
        rw [if_neg e, if_pos (by omega)]; exact hq
  · rw [if_pos k] at hq
    refine ⟨fun e => ?_, fun e => ?_⟩
    · rw [if_pos e] at hq; exact hq
    · rw [if_neg e] at hq; exact hq
theorem b_McutQ {b wf wt9 so0 fr to mw mt mi mf ml im inw win : Nat → Int} {N I : Nat} {wt tc : Nat → Nat} {R : Nat → Nat → Bool} {thr z1 z2 z3 a1 a2 a3 : Int} {Q : Int → (Nat → Int) → (Nat → Int) → Int → Int → Int → Int → Prop} (hN : N ≤ 600) (hW : MwA b N wf wt9) (hT : TcA (Wn b N) I tc R mt) (hw : QwA I wt mw) (hM : MmA (Wn b N) I tc R mi mf ml im) (hS : ∀ w, w < Wn b N → so0 w = so b N w) (hLe : FtA (Sn b N) (leN b N) fr to)
    (h1 : ∀ s n : Nat, a1 = s → a2 = n → s < Sn b N → 10 ≤ n → n ≤ 600 → 0 ≤ a3 ∧ a3 ≤ 2 → ∀ f l wh, CtN b N I wt tc R n s f l wh → ∀ inw' win' f' l' wh', Q (cvl a3 f l wh) inw' win' 0 f' l' wh') (h2 : ¬ (0 ≤ a1 ∧ a1 < (Sn b N : Int)) → Q 0 inw win 1 z1 z2 z3) (h3 : 0 ≤ a1 ∧ a1 < (Sn b N : Int) → ¬ (0 ≤ a3 ∧ a3 ≤ 2) → Q 0 inw win 2 z1 z2 z3) (h4 : 0 ≤ a1 ∧ a1 < (Sn b N : Int) → 0 ≤ a3 ∧ a3 ≤ 2 → ¬ (10 ≤ a2 ∧ a2 ≤ 600) → Q 0 inw win 3 z1 z2 z3) : wp_M_cut wf wt9 so0 fr to mw mt im inw win thr (Wn b N) (Sn b N) I z1 z2 z3 a1 a2 a3 Q := by
  have hF := FTo_N (b := b) hN
  have h14 := Sn_le b N
  unfold wp_M_cut
  refine m_noS (by omega) (fun g1 => ⟨fun k => absurd rfl k, fun _ => m_no (fun g3 => ⟨fun k => absurd rfl k, fun _ => m_no (fun g2 => ⟨fun _ => ?_, fun k => absurd rfl k⟩) (fun g2 => ⟨fun k => absurd k (by decide), fun _ => h4 g1 g3 g2⟩)⟩) (fun g3 => ⟨fun _ => h3 g1 g3, fun k => absurd k (by decide)⟩)⟩) (fun g1 => ⟨fun _ => h2 g1, fun k => absurd k (by decide)⟩)
  obtain ⟨s, rfl⟩ : ∃ s : Nat, a1 = s := ⟨a1.toNat, by omega⟩
  obtain ⟨n, rfl⟩ : ∃ n : Nat, a2 = n := ⟨a2.toNat, by omega⟩
  have hs : s < Sn b N := by omega
  refine b_Mcuts (F := FN b N) (T := TN b N) hF (MlA_N hW) hT hw hM hS hLe hs fun r inw' win' cf cl wh hr => ?_
  have hq : ∀ f l w, CtN b N I wt tc R n s f l w → Q (cvl a3 f l w) inw' win' 0 cf cl wh := fun f l w hc => h1 s n rfl rfl hs (by omega) (by omega) g3 f l w hc inw' win' cf cl wh
  rcases hr with ⟨rfl, _, hc⟩ | ⟨rfl, hwh, hc⟩
  · have hq := hq cf cl wh hc
    unfold cvl at hq
    refine ⟨fun k => ⟨fun _ => ⟨fun e => ?_, fun e => ?_⟩, fun e => absurd e (by decide)⟩, fun k => ⟨fun e => absurd e (by decide), fun _ => ⟨fun e => ?_, fun e => ?_⟩⟩⟩
    · rw [if_neg k, if_neg e] at hq; exact hq
    · rw [if_neg k, if_pos e] at hq; exact hq
    · rw [if_pos k, if_pos e] at hq; exact hq
    · rw [if_pos k, if_neg e] at hq; exact hq
  · have hq := hq (-1) (-1) 0 hc
    unfold cvl at hq
    refine ⟨fun k => ⟨fun e => absurd rfl e, fun _ => ?_⟩, fun k => ⟨fun _ => ?_, fun e => absurd rfl e⟩⟩
    · rw [if_neg k, show (if a3 = 0 then (-1 : Int) else -1) = -1 by split <;> rfl] at hq; exact hq
    · rw [if_pos k, if_pos rfl] at hq; exact hq
