/-! B53: quote and write of the class; widest -/
theorem b_quote {b sa wb we ws sb9 se ss sf9 sw qw qt bg en la wr : Nat → Int} {la9 : Nat → Int} {al : Nat → Int} {lo hi : Nat → Int64} {N I : Nat} {wt tc : Nat → Nat} {R : Nat → Nat → Bool} {sf : Nat → Bool} {qf z1 z2 z3 z4 z5 z6 z7 a1 : Int} {Q : Int → (Nat → Int) → (Nat → Int) → Int → Int → Int → Int → Int → Int → Int → Prop} {E : Nat → (Nat → Int) → (Nat → Int) → Int → Int → Int → Int → Int → Int → Int → Prop} (hP : PgA b N la9 sa wb we ws al sb9 se ss sf9 sw lo hi) (hT : TcA (Wn b N) I tc R qt) (hw : QwA I wt qw) (hbg : ∀ v, v < Wn b N → bg v = bs (fun k => R k v) I) (hen : ∀ v, v < Wn b N → en v = bs (fun k => enR tc R k v) I) (hsf : ∀ k, k < I → ib qf k = sf k)
    (h1 : ∀ n : Nat, a1 = n → 1 ≤ n → n ≤ 600 → ∀ (la' wr' : Nat → Int) (f l w wh len sb tb : Int) (st : WSt), QuS b N I wt tc R sf n st → WrC st wr' len sb tb → Q len la' wr' f l w wh len sb tb) (h2 : ¬ (1 ≤ a1 ∧ a1 ≤ 600) → E 3 la wr z1 z2 z3 z4 z5 z6 z7) : wp_Picker_quote b sa wb we ws qw qt bg en la wr N (Wn b N) qf I z1 z2 z3 z4 z5 z6 z7 a1 Q E := by
  unfold wp_Picker_quote
  refine rq_num (fun g => ?_) h2
  obtain ⟨n, rfl⟩ : ∃ n : Nat, a1 = n := ⟨a1.toNat, by omega⟩
  exact b_writeWidest (to := bg) hP hT hw hbg hen hsf fun la' wr' f l w wh len sb tb st hQ hC => h1 n rfl (by omega) (by omega) la' wr' f l w wh len sb tb st hQ hC
theorem b_write {b sa wb we ws sb9 se ss sf9 sw qw qt bg en la wr : Nat → Int} {la9 : Nat → Int} {al : Nat → Int} {lo hi : Nat → Int64} {N I ch : Nat} {wt tc : Nat → Nat} {R : Nat → Nat → Bool} {sf : Nat → Bool} {qf z1 z2 z3 z4 z5 z6 z7 a1 : Int} {Q : Int → (Nat → Int) → (Nat → Int) → Int → Int → Int → Int → Int → Int → Int → Prop} {E : Nat → (Nat → Int) → (Nat → Int) → Int → Int → Int → Int → Int → Int → Int → Prop} (hP : PgA b N la9 sa wb we ws al sb9 se ss sf9 sw lo hi) (hLe : LeA (Sn b N) (leN b N) ss) (hT : TcA (Wn b N) I tc R qt) (hw : QwA I wt qw) (hbg : ∀ v, v < Wn b N → bg v = bs (fun k => R k v) I) (hen : ∀ v, v < Wn b N → en v = bs (fun k => enR tc R k v) I) (hsf : ∀ k, k < I → ib qf k = sf k) (hch : ch < 2 ^ 14)
    (h1 : ∀ n : Nat, a1 = n → 10 ≤ n → n ≤ 600 → ∀ (la' wr' : Nat → Int) (f l w wh len sb tb : Int) (st : WSt) (ah : Int) (op : Bool), WrR b N I wt tc R sf n ch (Sn b N) st ah op → WrC (if op then addS 11 st else st) wr' len sb tb → Q len la' wr' f l w wh len sb tb) (h2 : ¬ (10 ≤ a1 ∧ a1 ≤ 600) → E 3 la wr z1 z2 z3 z4 z5 z6 z7) : wp_Picker_write b sa wb we ws sb9 se ss sf9 sw qw qt bg en la wr N (Sn b N) qf I z1 z2 z3 z4 ch z5 z6 z7 a1 Q E := by
  unfold wp_Picker_write
  refine rq_num (fun g => ?_) h2
  obtain ⟨n, rfl⟩ : ∃ n : Nat, a1 = n := ⟨a1.toNat, by omega⟩
  exact b_writeSet hP hLe hT hw hbg hen hsf hch fun la' wr' f l w wh len sb tb st ah op hR hC => h1 n rfl (by omega) (by omega) la' wr' f l w wh len sb tb st ah op hR hC
def vwi (F T : Nat → Nat) (a f l w : Int) : Int := if a = 3 then w else if f = -1 then -1 else wat F T a f.toNat l.toNat
theorem b_Mwid {b wf wt9 mw mt mi mf ml im inw win : Nat → Int} {N I : Nat} {wt tc : Nat → Nat} {R : Nat → Nat → Bool} {thr a1 a2 : Int} {Q : Int → (Nat → Int) → (Nat → Int) → Int → Prop} (hN : N ≤ 600) (hW : MwA b N wf wt9) (hT : TcA (Wn b N) I tc R mt) (hw : QwA I wt mw) (hM : MmA (Wn b N) I tc R mi mf ml im)
    (h1 : ∀ n : Nat, a1 = n → 1 ≤ n → n ≤ 600 → 0 ≤ a2 ∧ a2 ≤ 3 → ∀ f l w, WRes (Wn b N) I wt tc R (FN b N) (TN b N) 0 (Wn b N) n f l w → ∀ inw' win', Q (vwi (FN b N) (TN b N) a2 f l w) inw' win' 0) (h2 : ¬ (0 ≤ a2 ∧ a2 ≤ 3) → Q 0 inw win 1) (h3 : 0 ≤ a2 ∧ a2 ≤ 3 → ¬ (1 ≤ a1 ∧ a1 ≤ 600) → Q 0 inw win 2) : wp_M_widest wf wt9 mw mt im inw win thr (Wn b N) I a1 a2 Q := by
  have hF := FTo_N (b := b) hN
  have h100 := hF.1
  unfold wp_M_widest
  refine m_no (fun g2 => ⟨fun k => absurd rfl k, fun _ => m_no (fun g1 => ⟨fun _ => ⟨⟨by omega, by omega⟩, ?_⟩, fun k => absurd rfl k⟩) (fun g1 => ⟨fun k => absurd k (by decide), fun _ => h3 g2 g1⟩)⟩) (fun g2 => ⟨fun _ => h2 g2, fun k => absurd k (by decide)⟩)
  obtain ⟨n, rfl⟩ : ∃ n : Nat, a1 = n := ⟨a1.toNat, by omega⟩
  refine b_Mwidest (lo := 0) (h1 := Wn b N) hF (MlA_N hW) hT hw hM (Nat.le_refl _) fun f l inw' win' hr hwi => ?_
  have hq := h1 n rfl (by omega) (by omega) g2 f l _ hr inw' win'
  unfold vwi at hq
  rcases hr with ⟨rfl, rfl, g3, _⟩ | ⟨p, q, rfl, rfl, g3, g4, _⟩
  · rw [g3] at hq ⊢
    refine ⟨fun _ => ⟨fun k => ?_, fun k => ?_⟩, fun k => absurd rfl k⟩
    · rw [if_neg k, if_pos rfl] at hq; exact hq
    · rw [if_pos k] at hq; exact hq
  · have e := hwi p q rfl rfl
    have hpos := g4.2.2.2.2
    rw [if_neg (show ¬ (p : Int) = -1 by omega), Int.toNat_natCast, Int.toNat_natCast] at hq
    unfold wat at hq
    refine ⟨fun k => ?_, fun k => ⟨⟨by omega, by omega⟩, ?_⟩⟩
    · have := of_decide_eq_false (bI_0 k); omega
    · have h0 : a2 = 0 ∨ a2 = 1 ∨ a2 = 2 ∨ a2 = 3 := by omega
      rcases h0 with rfl | rfl | rfl | rfl
      · rw [if_neg (by decide), if_pos rfl] at hq
        rw [show Int.toNat 0 = 0 from rfl, e.1]; exact hq
      · rw [if_neg (by decide), if_neg (by decide), if_pos rfl] at hq
        rw [show Int.toNat 1 = 1 from rfl, e.2.1]; exact hq
      · rw [if_neg (by decide), if_neg (by decide), if_neg (by decide)] at hq
        rw [show Int.toNat 2 = 2 from rfl, e.2.2]; exact hq
      · rw [if_pos rfl] at hq; exact hq
