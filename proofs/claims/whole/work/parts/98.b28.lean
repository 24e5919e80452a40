/-! B28: the reference reads a query -/
def sgb (c : Int) : Int := if c < 128 then c else c - 256
def TpM (t : Nat → Int) (N : Nat) (mt : Nat → Int) : Prop := ∀ i, i < N → mt i = sgb (t i)
theorem sgb_r {c lo hi : Int} (hc : 0 ≤ c ∧ c ≤ 255) (h0 : 0 ≤ lo) (h1 : hi < 128) : (lo ≤ sgb c ∧ sgb c ≤ hi) ↔ (lo ≤ c ∧ c ≤ hi) := by
  unfold sgb; split <;> omega
theorem b_MisAt {t mt : Nat → Int} {N p : Nat} {lo hi : Int} {Q : Int → Prop} (hB : Byt t N) (hT : TpM t N mt) (h0 : 0 ≤ lo) (h1 : hi < 128) (hq : Q (bI (decide (lo ≤ atv t N p ∧ atv t N p ≤ hi)))) : wp_M_isAt mt p N lo hi Q := by
  have hN := hB.1
  unfold wp_M_isAt
  refine ⟨fun h => qe hq ?_, fun h => ⟨⟨by omega, by omega⟩, ?_⟩⟩
  · rw [atv_o (.inr (by omega)), decide_eq_false (by omega)]; rfl
  · have hp : p < N := by omega
    rw [Int.toNat_natCast, hT p hp]
    rw [atv_n hp] at hq
    have h2 := sgb_r (hB.2 p hp) h0 h1
    refine ⟨fun h3 => qe hq ?_, fun h3 => ⟨⟨by omega, by omega⟩, fun h4 => qe hq ?_, fun h4 => qe hq ?_⟩⟩
    · rw [decide_eq_false (by omega)]; rfl
    · rw [decide_eq_false (by omega)]; rfl
    · rw [decide_eq_true (by omega)]; rfl
theorem b_Mblanks {t mt : Nat → Int} {N p : Nat} {z : Int} {Q : Int → Int → Prop} (hB : Byt t N) (hT : TpM t N mt) (hp : p ≤ N) (hq : Q (fnb t N p : Nat) (fnb t N p : Nat)) : wp_M_blanks mt p z N Q := by
  have hN := hB.1
  unfold wp_M_blanks
  refine ⟨fun x => ∃ j : Nat, x = j ∧ j ≤ N ∧ fnb t N j = fnb t N p, fun x => N - x.toNat, ⟨p, rfl, hp, rfl⟩, ?_⟩
  rintro x ⟨j, rfl, hj, e⟩
  have go : j < N → blk (t j) = true → rng ((j : Int) + 1) ∧ (∃ j' : Nat, (j : Int) + 1 = j' ∧ j' ≤ N ∧ fnb t N j' = fnb t N p) ∧ N - ((j : Int) + 1).toNat < N - (j : Int).toNat := by
    intro h1 h2
    refine ⟨⟨by omega, by omega⟩, ⟨j + 1, by omega, by omega, ?_⟩, by omega⟩
    rw [← e]; unfold fnb; rw [sk_step (i := j) h1 h2]
  have lt : ∀ lo hi : Int, 0 ≤ lo → (lo ≤ atv t N j ∧ atv t N j ≤ hi) → j < N := fun lo hi h0 h => by
    refine atv_lt (t := t) ?_
    omega
  refine b_MisAt hB hT (by omega) (by omega) (jn0_i ⟨fun h => ?_, fun h => b_MisAt hB hT (by omega) (by omega) ⟨fun h2 => ?_, fun h2 => ?_⟩⟩)
  · have h := of_decide_eq_true (bI_1 h)
    have hj2 := lt 32 32 (by omega) h
    rw [atv_n hj2] at h
    exact go hj2 (decide_eq_true (by omega))
  · have h := of_decide_eq_false (bI_0 h)
    have h2 := of_decide_eq_false (bI_0 h2)
    have ef : fnb t N p = j := by
      rw [← e]
      unfold fnb
      rcases Nat.lt_or_ge j N with g | g
      · rw [atv_n g] at h h2
        exact sk_stop (decide_eq_false (by omega))
      · exact sk_end g
    rw [ef] at hq; exact hq
  · have h2 := of_decide_eq_true (bI_1 h2)
    have hj2 := lt 9 10 (by omega) h2
    rw [atv_n hj2] at h2
    exact go hj2 (decide_eq_true (by omega))
theorem b_Mletters {t mt : Nat → Int} {N p : Nat} {z : Int} {Q : Int → Int → Prop} (hB : Byt t N) (hT : TpM t N mt) (hp : p ≤ N) (hq : Q (lte t N (fnb t N p) : Nat) (fnb t N p : Nat)) : wp_M_letters mt p z N Q := by
  have hN := hB.1
  have hf := (fnb_b (t := t) hp).2
  unfold wp_M_letters
  refine b_Mblanks hB hT hp ?_
  refine ⟨fun x => ∃ j : Nat, x = j ∧ j ≤ N ∧ lte t N j = lte t N (fnb t N p), fun x => N - x.toNat, ⟨fnb t N p, rfl, hf, rfl⟩, ?_⟩
  rintro x ⟨j, rfl, hj, e⟩
  refine b_MisAt hB hT (by omega) (by omega) ⟨fun h => ?_, fun h => ?_⟩
  · have h := of_decide_eq_false (bI_0 h)
    have ef : lte t N (fnb t N p) = j := by
      rw [← e]
      unfold lte
      rcases Nat.lt_or_ge j N with g | g
      · rw [atv_n g] at h
        exact sk_stop (decide_eq_false (by omega))
      · exact sk_end g
    rw [ef] at hq; exact hq
  · have h := of_decide_eq_true (bI_1 h)
    have hj2 : j < N := atv_lt (t := t) (by omega)
    rw [atv_n hj2] at h
    refine ⟨⟨by omega, by omega⟩, ⟨j + 1, by omega, by omega, ?_⟩, by (try dsimp only); omega⟩
    rw [← e]; unfold lte; rw [sk_step (i := j) hj2 (decide_eq_true (by omega))]
theorem b_MisWord {t mt : Nat → Int} {N b a n : Nat} {f : Nat → Int} {Q : Int → Prop} (hB : Byt t N) (hT : TpM t N mt) (hb : b ≤ N) (ha : a < 37) (hn : sLen a = (n : Int)) (hf : ∀ j, j < n → sAt a (j : Int) = f j) (hq : Q (bI (iwd t N b n f))) : wp_M_isWord mt (lte t N b : Nat) b a Q := by
  have hN := hB.1
  have hz := tsz_b (t := t) hb
  unfold wp_M_isWord
  rw [hn, show ((lte t N b : Nat) : Int) - (b : Int) = ((tsz t N b : Nat) : Int) by omega]
  refine ⟨⟨by omega, by omega⟩, ha, ?_⟩
  refine ⟨fun y => (y = 0 ∧ iwd t N b n f = false) ∨ (y = 1 ∧ tsz t N b = n), fun y hy => ?_, fun h => .inl ⟨rfl, ?_⟩, fun h => .inr ⟨rfl, by omega⟩⟩
  · refine ⟨fun x2 x3 => (x2 = 0 ∧ iwd t N b n f = false) ∨ (x2 = 1 ∧ tsz t N b = n ∧ ∃ j : Nat, x3 = j ∧ j ≤ n ∧ ∀ u, u < j → t (b + u) = f u), fun x2 x3 => if x2 = 0 then 0 else n + 1 - x3.toNat, ?_, ?_⟩
    · rcases hy with ⟨rfl, g⟩ | ⟨rfl, g⟩
      · exact .inl ⟨rfl, g⟩
      · exact .inr ⟨rfl, g, 0, rfl, by omega, fun u hu => by omega⟩
    · rintro x2 x3 (⟨rfl, g⟩ | ⟨rfl, g, j, rfl, hj, hu⟩)
      · exact ⟨fun _ => ⟨⟨by omega, by omega⟩, qe hq (by rw [g]; rfl)⟩, fun g2 => absurd rfl g2⟩
      · refine ⟨fun g2 => absurd g2 (by decide), fun _ => ⟨ha, fun h => ⟨⟨by omega, by omega⟩, qe hq (bI_yes iwd_iff ⟨g, fun u hu2 => hu u (by omega)⟩)⟩, fun h => ⟨⟨by omega, by omega⟩, ⟨by omega, by omega⟩, ⟨ha, by omega, by omega⟩, ?_⟩⟩⟩
        have hl := let_r (t := t) (N := N) (p := b) (i := j) (by omega)
        rw [show ((b : Int) + (j : Int)).toNat = b + j by omega, hT (b + j) (by omega), hf j (by omega), show sgb (t (b + j)) = t (b + j) by unfold sgb; rw [if_pos (by omega)]]
        refine jn1_i ⟨fun h2 => ⟨⟨by omega, by omega⟩, .inl ⟨rfl, ?_⟩, ?_⟩, fun h2 => ⟨⟨by omega, by omega⟩, .inr ⟨rfl, g, j + 1, by omega, by omega, fun u hu2 => ?_⟩, ?_⟩⟩
        · cases e : iwd t N b n f
          · rfl
          · exact absurd ((iwd_iff.mp e).2 j (by omega)) h2
        · dsimp only; rw [if_pos rfl, if_neg (by decide)]; omega
        · by_cases e : u = j
          · rw [e]; exact h2
          · exact hu u (by omega)
        · dsimp only; rw [if_neg (by decide), if_neg (by decide)]; omega
  · cases e : iwd t N b n f
    · rfl
    · have := (iwd_iff.mp e).1; omega
def dgp (t : Nat → Int) (j : Nat) : Bool := decide (48 ≤ t j ∧ t j ≤ 57)
theorem b_Mweight {t mt nw : Nat → Int} {N m p : Nat} {z : Int} {Q : Int → (Nat → Int) → Int → Int → Prop} (hB : Byt t N) (hT : TpM t N mt) (hm : m < 8) (hp : p ≤ N)
    (hq1 : (49 ≤ atv t N (fnb t N p : Nat) ∧ atv t N (fnb t N p : Nat) ≤ 57 ∧ ¬ (48 ≤ atv t N ((fnb t N p + 1 : Nat) : Int) ∧ atv t N ((fnb t N p + 1 : Nat) : Int) ≤ 57)) → Q 1 (uI nw m (atv t N (fnb t N p : Nat) - 48)) ((fnb t N p + 1 : Nat) : Int) (fnb t N p : Nat))
    (hq2 : ¬ (49 ≤ atv t N (fnb t N p : Nat) ∧ atv t N (fnb t N p : Nat) ≤ 57 ∧ ¬ (48 ≤ atv t N ((fnb t N p + 1 : Nat) : Int) ∧ atv t N ((fnb t N p + 1 : Nat) : Int) ≤ 57)) → ∀ nw' p', Q 0 nw' p' (fnb t N p : Nat)) : wp_M_readsWeight mt nw m p z N Q := by
  have hN := hB.1
  have hf := (fnb_b (t := t) hp).2
  unfold wp_M_readsWeight
  refine b_Mblanks hB hT hp ?_
  generalize fnb t N p = d at *
  refine ⟨fun x3 x4 => ∃ c : Nat, x3 = ((d + c : Nat) : Int) ∧ d + c ≤ N ∧ (∀ j, j < c → 48 ≤ t (d + j) ∧ t (d + j) ≤ 57) ∧ x4 = if c = 0 then 0 else t (d + c - 1) - 48, fun x3 _ => N - x3.toNat, ⟨0, rfl, hf, fun j hj => by omega, rfl⟩, ?_⟩
  rintro x3 x4 ⟨c, rfl, hc, hd, rfl⟩
  refine b_MisAt hB hT (by omega) (by omega) ⟨fun h => ⟨⟨by omega, by omega⟩, ⟨by omega, by omega⟩, ?_⟩, fun h => ?_⟩
  · have h := of_decide_eq_false (bI_0 h)
    refine ⟨fun h2 => hq2 (fun g => ?_) _ _, fun h2 => ⟨fun h3 => hq2 (fun g => ?_) _ _, fun h3 => ?_⟩⟩
    · have hdN : d < N := atv_lt (t := t) (by omega)
      rcases Nat.eq_zero_or_pos c with e | e
      · rw [e, Nat.add_zero] at h; exact h ⟨by omega, by omega⟩
      · have h4 := hd 1 (by omega)
        rw [atv_n (show d + 1 < N by omega)] at g
        omega
    · have ec : c = 1 := by omega
      rw [ec, if_neg (by omega), show d + 1 - 1 = d by omega] at h3
      have hdN : d < N := by omega
      rw [atv_n hdN] at g
      omega
    · have ec : c = 1 := by omega
      subst ec
      have hdN : d < N := by omega
      rw [if_neg (by omega), show d + 1 - 1 = d by omega] at h3 ⊢
      have h4 := hd 0 (by omega)
      rw [Nat.add_zero] at h4
      rw [atv_n hdN] at hq1
      exact hq1 ⟨by omega, by omega, h⟩
  · have h := of_decide_eq_true (bI_1 h)
    have hj2 : d + c < N := atv_lt (t := t) (by omega)
    rw [atv_n hj2] at h
    rw [Int.toNat_natCast, hT _ hj2, show sgb (t (d + c)) = t (d + c) by unfold sgb; rw [if_pos (by omega)]]
    refine ⟨⟨by omega, by omega⟩, ⟨by omega, by omega⟩, ⟨by omega, by omega⟩, ⟨c + 1, by omega, by omega, fun j hj => ?_, ?_⟩, by (try dsimp only); omega⟩
    · by_cases e : j = c
      · rw [e]; exact h
      · exact hd j (by omega)
    · rw [if_neg (by omega), show d + (c + 1) - 1 = d + c by omega]
def BoA (f : Nat → Int) : Prop := ∀ j, 0 ≤ f j ∧ f j ≤ 1
def ByA (f : Nat → Int) : Prop := ∀ j, -128 ≤ f j ∧ f j < 128
theorem BoA.u {f : Nat → Int} (h : BoA f) {i z : Int} (hz : 0 ≤ z ∧ z ≤ 1) : BoA (uI f i z) := fun j => by unfold uI; split; exact hz; exact h j
theorem ByA.u {f : Nat → Int} (h : ByA f) {i z : Int} (hz : -128 ≤ z ∧ z < 128) : ByA (uI f i z) := fun j => by unfold uI; split; exact hz; exact h j
def MqG (m : Nat) (t : Nat → Int) (N : Nat) (nw nt nz nl ns nf : Nat → Int) : Prop := ∀ k, k < m → nw k = qWt t N k ∧ nt k = qTc t N k ∧ nf k = bI (qSf t N k) ∧ ∀ u, u < qTc t N k → nz (4 * k + u) = qTz t N (4 * k + u) ∧ ns (4 * k + u) = bI (qSt t N (4 * k + u)) ∧ ∀ i, i < qTz t N (4 * k + u) → nl (12 * (4 * k + u) + i) = qLt t N (12 * (4 * k + u) + i)
theorem MqG.mqa {t : Nat → Int} {N : Nat} {nw nt nz nl ns nf : Nat → Int} (hB : Byt t N) (h : MqG (qM t N) t N nw nt nz nl ns nf) : MqA (qM t N) (qWt t N) (qTc t N) (qTz t N) (qLt t N) (qSt t N) (qSf t N) nw nt nz nl ns nf := by
  refine ⟨qM_le t N, fun k hk => ?_⟩
  obtain ⟨g1, g2, g3⟩ := q_rng hB hk
  obtain ⟨h1, h2, h3, h4⟩ := h k hk
  exact ⟨⟨h1, g1⟩, ⟨h2, g2⟩, h3, fun u hu => ⟨⟨(h4 u hu).1, (g3 u hu).1⟩, (h4 u hu).2.1, fun i hi => ⟨(h4 u hu).2.2 i hi, (g3 u hu).2 i hi⟩⟩⟩
def MqR (m k : Nat) (t : Nat → Int) (N : Nat) (nw nt nz nl ns nf : Nat → Int) : Prop := MqG m t N nw nt nz nl ns nf ∧ nw m = qWt t N m ∧ nt m = k ∧ nf m = bI (qSf t N m) ∧ (∀ u, u < k → nz (4 * m + u) = qTz t N (4 * m + u) ∧ ns (4 * m + u) = bI (qSt t N (4 * m + u)) ∧ ∀ i, i < qTz t N (4 * m + u) → nl (12 * (4 * m + u) + i) = qLt t N (12 * (4 * m + u) + i)) ∧ BoA ns ∧ BoA nf ∧ ByA nl
theorem b_Mkeeps {t mt : Nat → Int} {N m k p : Nat} {nw nt nz nl ns nf : Nat → Int} {Q : Int → (Nat → Int) → (Nat → Int) → (Nat → Int) → (Nat → Int) → Int → Prop} (hB : Byt t N) (hT : TpM t N mt) (hm : m < 8) (hk : k ≤ 4) (hM : MqR m k t N nw nt nz nl ns nf) (hp : k < 4 → p = qPo t N (4 * m + k)) (hpN : p ≤ N) (hTc : ∀ j, j < m → qTc t N j ≤ 4) (hTz : ∀ j u, j < m → u < qTc t N j → qTz t N (4 * j + u) ≤ 12) (hTk : ∀ u, u < k → qTz t N (4 * m + u) ≤ 12)
    (hq1 : k < 4 → 1 ≤ tsz t N p ∧ tsz t N p ≤ 12 → ∀ nt' nz' ns' nl', MqR m (k + 1) t N nw nt' nz' nl' ns' nf → Q 1 nt' nz' ns' nl' ((p + tsz t N p + tss t N p : Nat) : Int))
    (hq2 : k = 4 ∨ ¬ (1 ≤ tsz t N p ∧ tsz t N p ≤ 12) → Q 0 nt nz ns nl (lte t N p : Nat)) : wp_M_keepsTerm mt nt nz ns nl m (lte t N p : Nat) p N Q := by
  have hN := hB.1
  obtain ⟨g1, g2, g3, g4, g5, g6, g7, g8⟩ := hM
  have hzb := tsz_b (t := t) hpN
  have hss := tss_b (t := t) hpN
  unfold wp_M_keepsTerm
  rw [show ((lte t N p : Nat) : Int) - (p : Int) = ((tsz t N p : Nat) : Int) by omega]
  refine ⟨⟨by omega, by omega⟩, b_Min ⟨fun h => ?_, fun h => ⟨⟨by omega, by omega⟩, ?_⟩⟩⟩
  · have h := of_decide_eq_false (bI_0 h)
    exact hq2 (.inr (by omega))
  · have h := of_decide_eq_true (bI_1 h)
    simp only [Int.toNat_natCast]
    rw [g3]
    refine ⟨fun h2 => ?_, fun h2 => hq2 (.inl (by omega))⟩
    have hk4 : k < 4 := by omega
    have hp := hp hk4
    rw [show 4 * (m : Int) + (k : Int) = ((4 * m + k : Nat) : Int) by omega]
    simp only [Int.toNat_natCast]
    have hpz : qTz t N (4 * m + k) = tsz t N p := by unfold qTz; rw [hp]
    have hlt9 : ∀ i, i < tsz t N p → qLt t N (12 * (4 * m + k) + i) = t (p + i) := fun i hi => by
      unfold qLt
      rw [show (12 * (4 * m + k) + i) / 12 = 4 * m + k by omega, show (12 * (4 * m + k) + i) % 12 = i by omega, ← hp]
    refine ⟨⟨by omega, by omega⟩, ⟨by omega, by omega⟩, ⟨by omega, by omega⟩, ⟨by omega, by omega⟩, ?_⟩
    refine ⟨fun nl' x => ∃ i : Nat, x = i ∧ i ≤ tsz t N p ∧ ByA nl' ∧ (∀ j, j < i → nl' (12 * (4 * m + k) + j) = t (p + j)) ∧ ∀ j, j < 12 * (4 * m + k) → nl' j = nl j, fun _ x => tsz t N p - x.toNat, ⟨0, rfl, by omega, g8, fun j hj => by omega, fun j _ => rfl⟩, ?_⟩
    rintro nl' x ⟨i, rfl, hi, hby, h4, h5⟩
    refine ⟨fun h6 => b_MisAt hB hT (by omega) (by omega) ?_, fun h6 => ?_⟩
    · rw [uI_e rfl]
      rw [show ((lte t N p : Nat) : Int) = ((p + tsz t N p : Nat) : Int) by omega]
      have hst : decide (42 ≤ atv t N ((p + tsz t N p : Nat) : Int) ∧ atv t N ((p + tsz t N p : Nat) : Int) ≤ 42) = qSt t N (4 * m + k) := by
        unfold qSt
        rw [hpz, ← hp]
        exact decide_eq_decide.mpr (by omega)
      rw [hst]
      refine ⟨⟨⟨by omega, by omega⟩, bI_b _⟩, ⟨by omega, by omega⟩, ?_⟩
      have fin : ∀ y : Int, y = (tss t N p : Nat) → rng (((p + tsz t N p : Nat) : Int) + y) ∧ (0 ≤ (m : Int) ∧ (m : Int) < 8) ∧ rng ((k : Int) + 1) ∧ (0 ≤ (m : Int) ∧ (m : Int) < 8) ∧ Q 1 (uI nt m ((k : Int) + 1)) (uI nz ((4 * m + k : Nat) : Int) (tsz t N p : Nat)) (uI ns ((4 * m + k : Nat) : Int) (bI (qSt t N (4 * m + k)))) nl' (((p + tsz t N p : Nat) : Int) + y) := by
        rintro y rfl
        have hfin := hq1 hk4 ⟨h.1 |> fun _ => by omega, by omega⟩ (uI nt m ((k : Int) + 1)) (uI nz ((4 * m + k : Nat) : Int) (tsz t N p : Nat)) (uI ns ((4 * m + k : Nat) : Int) (bI (qSt t N (4 * m + k)))) nl' ⟨fun j hj => ?_, g2, ?_, g4, fun u hu => ?_, g6.u (bI_b _), g7, hby⟩
        · rw [show ((p + tsz t N p : Nat) : Int) + ((tss t N p : Nat) : Int) = ((p + tsz t N p + tss t N p : Nat) : Int) by omega]
          exact ⟨⟨by omega, by omega⟩, ⟨by omega, by omega⟩, ⟨by omega, by omega⟩, ⟨by omega, by omega⟩, hfin⟩
        · obtain ⟨a1, a2, a3, a4⟩ := g1 j hj
          have hj4 := hTc j hj
          refine ⟨a1, ?_, a3, fun u hu => ?_⟩
          · rw [uI_n (by omega) (by omega)]; exact a2
          · have hz4 := hTz j u hj hu
            obtain ⟨b1, b2, b3⟩ := a4 u hu
            refine ⟨?_, ?_, fun i9 hi9 => ?_⟩
            · rw [uI_n (by omega) (by omega)]; exact b1
            · rw [uI_n (by omega) (by omega)]; exact b2
            · rw [h5 _ (by omega)]; exact b3 i9 hi9
        · rw [uI_e rfl]; omega
        · by_cases e : u = k
          · subst e
            refine ⟨?_, ?_, fun i9 hi9 => ?_⟩
            · rw [uI_e rfl, hpz]
            · rw [uI_e rfl]
            · rw [hpz] at hi9
              rw [h4 i9 (by omega), hlt9 i9 hi9]
          · obtain ⟨b1, b2, b3⟩ := g5 u (by omega)
            have hz4 := hTk u (by omega)
            refine ⟨?_, ?_, fun i9 hi9 => ?_⟩
            · rw [uI_n (by omega) (by omega)]; exact b1
            · rw [uI_n (by omega) (by omega)]; exact b2
            · rw [h5 _ (by omega)]; exact b3 i9 hi9
      have hts : tss t N p = if qSt t N (4 * m + k) then 1 else 0 := by
        unfold tss qSt
        rw [hpz, ← hp]
        by_cases e : atv t N ((p + tsz t N p : Nat) : Int) = 42
        · rw [if_pos e, decide_eq_true e, if_pos rfl]
        · rw [if_neg e, decide_eq_false e, if_neg Bool.false_ne_true]
      refine jn1_i ⟨fun h7 => fin 0 ?_, fun h7 => fin 1 ?_⟩
      · rw [hts, bI_0 h7, if_neg Bool.false_ne_true]; rfl
      · rw [hts, bI_1 h7, if_pos rfl]; rfl
    · have hl := let_r (t := t) (N := N) (p := p) (i := i) (by omega)
      rw [show ((p : Int) + (i : Int)).toNat = p + i by omega, hT (p + i) (by omega), show sgb (t (p + i)) = t (p + i) by unfold sgb; rw [if_pos (by omega)]]
      refine ⟨⟨by omega, by omega⟩, ⟨by omega, by omega⟩, ⟨by omega, by omega⟩, ⟨by omega, by omega⟩, ⟨⟨by omega, by omega⟩, by omega, by omega⟩, ⟨by omega, by omega⟩, ⟨i + 1, by omega, by omega, hby.u (by omega), fun j hj => ?_, fun j hj => ?_⟩, by (try dsimp only); omega⟩
      · by_cases e : j = i
        · rw [uI_e (by omega), e]
        · rw [uI_n (by omega) (by omega)]; exact h4 j (by omega)
      · rw [uI_n (by omega) (by omega)]; exact h5 j hj
