/-! B26: the query's text -/
def ltp (t : Nat → Int) (j : Nat) : Bool := isSm (t j)
def lte (t : Nat → Int) (N i : Nat) : Nat := sk (ltp t) N i
def tsz (t : Nat → Int) (N p : Nat) : Nat := lte t N p - p
def tss (t : Nat → Int) (N p : Nat) : Nat := if atv t N ((p + tsz t N p : Nat) : Int) = 42 then 1 else 0
def tpo (t : Nat → Int) (N a : Nat) : Nat → Nat
  | 0 => fnb t N a
  | k + 1 => fnb t N (tpo t N a k + tsz t N (tpo t N a k) + tss t N (tpo t N a k))
def tgo (t : Nat → Int) (N a k : Nat) : Bool := decide (1 ≤ tsz t N (tpo t N a k) ∧ tsz t N (tpo t N a k) ≤ 12)
def tK (t : Nat → Int) (N a : Nat) : Nat := sk (tgo t N a) 4 0
def tOk (t : Nat → Int) (N a : Nat) : Bool := decide (0 < tK t N a ∧ atv t N (tpo t N a (tK t N a)) = 59)
def iwd (t : Nat → Int) (N i n : Nat) (f : Nat → Int) : Bool := decide (tsz t N i = n ∧ ∀ j, j < n → t (i + j) = f j)
def sIt (j : Nat) : Int := sAt 0 j
def sSo (j : Nat) : Int := sAt 1 j
def qD (t : Nat → Int) (N i : Nat) : Nat := fnb t N (i + 4)
def qO2 (t : Nat → Int) (N i : Nat) : Bool := decide (49 ≤ atv t N (qD t N i) ∧ atv t N (qD t N i) ≤ 57 ∧ ¬ (48 ≤ atv t N ((qD t N i + 1 : Nat) : Int) ∧ atv t N ((qD t N i + 1 : Nat) : Int) ≤ 57))
def qE (t : Nat → Int) (N i : Nat) : Nat := fnb t N (qD t N i + 1)
def qS (t : Nat → Int) (N i : Nat) : Bool := iwd t N (qE t N i) 4 sSo
def qA (t : Nat → Int) (N i : Nat) : Nat := if qS t N i then qE t N i + 4 else qE t N i
def qO1 (t : Nat → Int) (N i : Nat) : Bool := iwd t N i 4 sIt
def qOk (t : Nat → Int) (N i : Nat) : Bool := qO1 t N i && qO2 t N i && tOk t N (qA t N i)
def qNx (t : Nat → Int) (N i : Nat) : Nat := tpo t N (qA t N i) (tK t N (qA t N i)) + 1
def qFl (t : Nat → Int) (N i : Nat) : Nat := if qO1 t N i = false then i else if qO2 t N i = false then qD t N i else tpo t N (qA t N i) (tK t N (qA t N i))
def qIp (t : Nat → Int) (N : Nat) : Nat → Nat
  | 0 => fnb t N 0
  | m + 1 => fnb t N (qNx t N (qIp t N m))
def qgo (t : Nat → Int) (N m : Nat) : Bool := decide (qIp t N m < N) && qOk t N (qIp t N m)
def qM (t : Nat → Int) (N : Nat) : Nat := sk (qgo t N) 8 0
def qF (t : Nat → Int) (N : Nat) : Int := if N ≤ qIp t N (qM t N) then -1 else if qM t N = 8 then (qIp t N 8 : Int) else (qFl t N (qIp t N (qM t N)) : Int)
/-- the query that a text is -/
def qWt (t : Nat → Int) (N k : Nat) : Nat := (atv t N (qD t N (qIp t N k)) - 48).toNat
def qTc (t : Nat → Int) (N k : Nat) : Nat := tK t N (qA t N (qIp t N k))
def qPo (t : Nat → Int) (N r : Nat) : Nat := tpo t N (qA t N (qIp t N (r / 4))) (r % 4)
def qTz (t : Nat → Int) (N r : Nat) : Nat := tsz t N (qPo t N r)
def qSt (t : Nat → Int) (N r : Nat) : Bool := decide (atv t N ((qPo t N r + qTz t N r : Nat) : Int) = 42)
def qLt (t : Nat → Int) (N j : Nat) : Int := t (qPo t N (j / 12) + j % 12)
def qSf (t : Nat → Int) (N k : Nat) : Bool := qS t N (qIp t N k)
theorem lte_b {t : Nat → Int} {N i : Nat} (h : i ≤ N) : i ≤ lte t N i ∧ lte t N i ≤ N := ⟨sk_ge _ _ _, sk_le h⟩
theorem tsz_b {t : Nat → Int} {N i : Nat} (h : i ≤ N) : i + tsz t N i ≤ N ∧ i + tsz t N i = lte t N i := by
  have := lte_b (t := t) h
  unfold tsz; omega
theorem fnb_b {t : Nat → Int} {N i : Nat} (h : i ≤ N) : i ≤ fnb t N i ∧ fnb t N i ≤ N := ⟨sk_ge _ _ _, sk_le h⟩
theorem tss_b {t : Nat → Int} {N p : Nat} (h : p ≤ N) : p + tsz t N p + tss t N p ≤ N := by
  have h1 := tsz_b (t := t) h
  unfold tss
  split
  · rename_i h2
    rcases Nat.lt_or_ge (p + tsz t N p) N with e | e
    · omega
    · rw [atv_o (.inr (by omega))] at h2; omega
  · omega
theorem tpo_b {t : Nat → Int} {N a : Nat} (h : a ≤ N) : ∀ k, tpo t N a k ≤ N
  | 0 => (fnb_b h).2
  | k + 1 => (fnb_b (tss_b (tpo_b h k))).2
theorem tK_le (t : Nat → Int) (N a : Nat) : tK t N a ≤ 4 := sk_le (Nat.zero_le _)
theorem atv_lt {t : Nat → Int} {N i : Nat} (h : atv t N i ≠ -1) : i < N := by
  rcases Nat.lt_or_ge i N with e | e
  · exact e
  · rw [atv_o (.inr (by omega))] at h; exact absurd rfl h
theorem qO1_b {t : Nat → Int} {N i : Nat} (hi : i ≤ N) (h : qO1 t N i = true) : i + 4 ≤ N := by
  have h1 := (of_decide_eq_true h).1
  have h2 := tsz_b (t := t) hi
  omega
theorem qD_b {t : Nat → Int} {N i : Nat} (hi : i ≤ N) (h : qO1 t N i = true) : qD t N i ≤ N := (fnb_b (qO1_b hi h)).2
theorem qD_lt {t : Nat → Int} {N i : Nat} (h2 : qO2 t N i = true) : qD t N i < N := atv_lt (t := t) (by have := of_decide_eq_true h2; omega)
theorem qE_b {t : Nat → Int} {N i : Nat} (h2 : qO2 t N i = true) : qE t N i ≤ N := (fnb_b (qD_lt h2)).2
theorem qA_b {t : Nat → Int} {N i : Nat} (h2 : qO2 t N i = true) : qA t N i ≤ N := by
  have h1 := qE_b h2
  unfold qA
  split
  · rename_i h3
    have h4 := (of_decide_eq_true h3).1
    have h5 := tsz_b (t := t) h1
    omega
  · exact h1
theorem qNx_b {t : Nat → Int} {N i : Nat} (h : qOk t N i = true) : qNx t N i ≤ N := by
  unfold qOk at h
  rw [Bool.and_eq_true, Bool.and_eq_true] at h
  have h1 := of_decide_eq_true h.2
  have h2 : tpo t N (qA t N i) (tK t N (qA t N i)) < N := atv_lt (t := t) (by omega)
  unfold qNx
  omega
/-- a text's query is well formed -/
theorem q_wf {t : Nat → Int} {N k : Nat} (hB : Byt t N) (h : k < qM t N) : qIp t N k < N ∧ qOk t N (qIp t N k) = true := by
  have h1 := sk_all (p := qgo t N) (N := 8) (i := 0) (Nat.zero_le _) h
  unfold qgo at h1
  rw [Bool.and_eq_true, decide_eq_true_iff] at h1
  exact h1
theorem qM_le (t : Nat → Int) (N : Nat) : qM t N ≤ 8 := sk_le (Nat.zero_le _)
theorem let_r {t : Nat → Int} {N p i : Nat} (h : i < tsz t N p) : 97 ≤ t (p + i) ∧ t (p + i) ≤ 122 := by
  have h1 := sk_all (p := ltp t) (N := N) (i := p) (j := p + i) (by omega) (by unfold tsz lte at h; omega)
  exact of_decide_eq_true h1
/-- what is kept of the first items -/
def QyG (m : Nat) (t : Nat → Int) (N : Nat) (qw qt qz ql : Nat → Int) (qs qf : Int) : Prop := ∀ k, k < m → qw k = qWt t N k ∧ qt k = qTc t N k ∧ ib qf k = qSf t N k ∧ ∀ u, u < qTc t N k → qz (4 * k + u) = qTz t N (4 * k + u) ∧ ib qs (4 * k + u) = qSt t N (4 * k + u) ∧ ∀ i, i < qTz t N (4 * k + u) → ql (12 * (4 * k + u) + i) = qLt t N (12 * (4 * k + u) + i)
theorem q_rng {t : Nat → Int} {N k : Nat} (hB : Byt t N) (h : k < qM t N) : (1 ≤ qWt t N k ∧ qWt t N k ≤ 9) ∧ (1 ≤ qTc t N k ∧ qTc t N k ≤ 4) ∧ ∀ u, u < qTc t N k → (1 ≤ qTz t N (4 * k + u) ∧ qTz t N (4 * k + u) ≤ 12) ∧ ∀ i, i < qTz t N (4 * k + u) → 97 ≤ qLt t N (12 * (4 * k + u) + i) ∧ qLt t N (12 * (4 * k + u) + i) ≤ 122 := by
  have h1 := (q_wf hB h).2
  unfold qOk at h1
  rw [Bool.and_eq_true, Bool.and_eq_true] at h1
  have h2 := of_decide_eq_true h1.1.2
  have h3 := of_decide_eq_true h1.2
  have hk4 := tK_le t N (qA t N (qIp t N k))
  refine ⟨by unfold qWt; omega, by unfold qTc; omega, fun u hu => ?_⟩
  have hpo : qPo t N (4 * k + u) = tpo t N (qA t N (qIp t N k)) u := by
    unfold qTc at hu
    unfold qPo
    rw [show (4 * k + u) / 4 = k by omega, show (4 * k + u) % 4 = u by omega]
  have h4 := of_decide_eq_true (sk_all (p := tgo t N (qA t N (qIp t N k))) (N := 4) (i := 0) (Nat.zero_le _) hu)
  have h5 : 1 ≤ qTz t N (4 * k + u) ∧ qTz t N (4 * k + u) ≤ 12 := by unfold qTz; rw [hpo]; exact h4
  refine ⟨h5, fun i hi => ?_⟩
  have e : qLt t N (12 * (4 * k + u) + i) = t (qPo t N (4 * k + u) + i) := by
    unfold qLt
    rw [show (12 * (4 * k + u) + i) / 12 = 4 * k + u by omega, show (12 * (4 * k + u) + i) % 12 = i by omega]
  rw [e]
  exact let_r hi
theorem QyG.qya {t : Nat → Int} {N : Nat} {qw qt qz ql : Nat → Int} {qs qf : Int} (hB : Byt t N) (h : QyG (qM t N) t N qw qt qz ql qs qf) : QyA (qM t N) (qWt t N) (qTc t N) (qTz t N) (qLt t N) (qSt t N) (qSf t N) qw qt qz ql qs qf := by
  refine ⟨qM_le t N, fun k hk => ?_⟩
  obtain ⟨g1, g2, g3⟩ := q_rng hB hk
  obtain ⟨h1, h2, h3, h4⟩ := h k hk
  exact ⟨⟨h1, g1⟩, ⟨h2, g2⟩, h3, fun u hu => ⟨⟨(h4 u hu).1, (g3 u hu).1⟩, (h4 u hu).2.1, fun i hi => ⟨(h4 u hu).2.2 i hi, (g3 u hu).2 i hi⟩⟩⟩
/-! the class reads -/
theorem b_skip {t : Nat → Int} {N i : Nat} {Q : Int → Prop} (hN : N ≤ 600) (hi : i ≤ N) (hq : Q (fnb t N i : Nat)) : wp_Reader_skipBlanks t N i Q := by
  unfold wp_Reader_skipBlanks
  refine ⟨fun x => ∃ j : Nat, x = j ∧ j ≤ N ∧ fnb t N j = fnb t N i, fun x => N - x.toNat, ⟨i, rfl, hi, rfl⟩, ?_⟩
  rintro x ⟨j, rfl, hj, e⟩
  refine ⟨fun h => qe hq ?_, fun h => b_tat hN (b_blk ?_)⟩
  · rw [← e]; unfold fnb; rw [sk_end (by omega)]
  · rw [atv_n (by omega)]
    refine ⟨fun h2 => qe hq ?_, fun h2 => ⟨⟨by omega, by omega⟩, ⟨j + 1, by omega, by omega, ?_⟩, by (try dsimp only); omega⟩⟩
    · rw [← e]; unfold fnb; rw [sk_stop (bI_0 h2)]
    · rw [← e]; unfold fnb; rw [sk_step (i := j) (by omega) (bI_1 h2)]
theorem b_letters {t : Nat → Int} {N i : Nat} {Q : Int → Prop} (hN : N ≤ 600) (hi : i ≤ N) (hq : Q (tsz t N i : Nat)) : wp_Reader_lettersHere t N i Q := by
  unfold wp_Reader_lettersHere
  refine ⟨fun x => ∃ j : Nat, x = j ∧ i + j ≤ N ∧ lte t N (i + j) = lte t N i, fun x => N - x.toNat, ⟨0, rfl, by omega, rfl⟩, ?_⟩
  rintro x ⟨j, rfl, hj, e⟩
  rw [show (i : Int) + (j : Int) = ((i + j : Nat) : Int) by omega]
  refine ⟨⟨by omega, by omega⟩, fun h => qe hq ?_, fun h => ⟨⟨by omega, by omega⟩, b_tat hN (b_isSm ?_)⟩⟩
  · unfold tsz; rw [← e]; unfold lte; rw [sk_end (by omega)]; omega
  · rw [atv_n (by omega)]
    refine ⟨fun h2 => qe hq ?_, fun h2 => ⟨⟨by omega, by omega⟩, ⟨j + 1, by omega, by omega, ?_⟩, by (try dsimp only); omega⟩⟩
    · unfold tsz; rw [← e]; unfold lte; rw [sk_stop (bI_0 h2)]; omega
    · rw [← e, ← Nat.add_assoc]; unfold lte; rw [sk_step (i := i + j) (by omega) (bI_1 h2)]
theorem iwd_iff {t : Nat → Int} {N i n : Nat} {f : Nat → Int} : iwd t N i n f = true ↔ (tsz t N i = n ∧ ∀ j, j < n → t (i + j) = f j) := by
  unfold iwd
  rw [decide_eq_true_iff]
theorem b_isWordH {t : Nat → Int} {N i a n : Nat} {f : Nat → Int} {Q : Int → Prop} (hN : N ≤ 600) (hi : i ≤ N) (ha : a < 37) (hn : sLen a = (n : Int)) (hf : ∀ j, j < n → sAt a (j : Int) = f j) (hq : Q (bI (iwd t N i n f))) : wp_Reader_isWordHere t N i a Q := by
  have hb := tsz_b (t := t) hi
  unfold wp_Reader_isWordHere
  rw [hn]
  refine ⟨ha, b_letters hN hi ⟨fun h => ?_, fun h => qe hq (bI_not iwd_iff fun hh => by omega)⟩⟩
  refine ⟨fun x => ∃ j : Nat, x = j ∧ ∀ u, u < j → t (i + u) = f u, fun x => n - x.toNat, ⟨0, rfl, fun u hu => by omega⟩, ?_⟩
  rintro x ⟨j, rfl, hj⟩
  refine ⟨fun h2 => qe hq (bI_yes iwd_iff ⟨by omega, fun u hu => hj u (by omega)⟩), fun h2 => ⟨⟨by omega, by omega⟩, b_tat hN ⟨⟨ha, by omega, by omega⟩, ?_⟩⟩⟩
  rw [show (i : Int) + (j : Int) = ((i + j : Nat) : Int) by omega, atv_n (by omega), hf j (by omega)]
  refine ⟨fun h3 => ⟨⟨by omega, by omega⟩, ⟨j + 1, by omega, fun u hu => ?_⟩, by (try dsimp only); omega⟩, fun h3 => qe hq (bI_not iwd_iff fun hh => h3 (hh.2 j (by omega)))⟩
  by_cases e : u = j
  · rw [e]; exact h3
  · exact hj u (by omega)
theorem sLen_0 : sLen 0 = ((4 : Nat) : Int) := rfl
theorem sLen_1 : sLen 1 = ((4 : Nat) : Int) := rfl
theorem b_digit {c : Int} {Q : Int → Prop} (hq : Q (bI (decide (48 ≤ c ∧ c ≤ 57)))) : wp_Picker_isDigit c Q := by
  unfold wp_Picker_isDigit
  refine ⟨fun h => qe hq ?_, fun h => ⟨fun h2 => qe hq ?_, fun h2 => qe hq ?_⟩⟩
  · rw [decide_eq_false (by omega)]; rfl
  · rw [decide_eq_false (by omega)]; rfl
  · rw [decide_eq_true (by omega)]; rfl
theorem semi_0 {t : Nat → Int} {N p : Nat} (h : atv t N p = 59) : tsz t N p = 0 := by
  have h1 : p < N := atv_lt (t := t) (by omega)
  rw [atv_n h1] at h
  have h2 : ltp t p = false := decide_eq_false (by omega)
  unfold tsz lte
  rw [sk_stop h2]; omega
/-- item m is being read, with k terms so far -/
def QyR (m k : Nat) (t : Nat → Int) (N : Nat) (qw qt qz ql : Nat → Int) (qs qf : Int) : Prop := QyG m t N qw qt qz ql qs qf ∧ qw m = qWt t N m ∧ qt m = k ∧ ib qf m = qSf t N m ∧ (∀ u, u < k → qz (4 * m + u) = qTz t N (4 * m + u) ∧ ib qs (4 * m + u) = qSt t N (4 * m + u) ∧ ∀ i, i < qTz t N (4 * m + u) → ql (12 * (4 * m + u) + i) = qLt t N (12 * (4 * m + u) + i)) ∧ (∀ r, 4 * m + k ≤ r → r < 32 → ib qs r = false) ∧ ∀ j, m < j → j < 8 → ib qf j = false
theorem b_addTerm {t : Nat → Int} {N m k p : Nat} {st : Bool} {qw qt qz ql : Nat → Int} {qs qf : Int} {Q : (Nat → Int) → (Nat → Int) → (Nat → Int) → Int → Prop} (hB : Byt t N) (hm : m < 8) (hk : k < 4) (hM : QyR m k t N qw qt qz ql qs qf) (hp : p = qPo t N (4 * m + k)) (hpN : p ≤ N) (hz : tsz t N p ≤ 12) (hst : st = qSt t N (4 * m + k)) (hTc : ∀ j, j < m → qTc t N j ≤ 4) (hTz : ∀ j u, j < m → u < qTc t N j → qTz t N (4 * j + u) ≤ 12) (hTk : ∀ u, u < k → qTz t N (4 * m + u) ≤ 12)
    (hq : ∀ qt' qz' ql' qs', QyR m (k + 1) t N qw qt' qz' ql' qs' qf → Q qt' qz' ql' qs') : wp_Query_addTerm t qt qz ql N qs ((m + 1 : Nat) : Int) p (tsz t N p : Nat) (bI st) Q := by
  have hN := hB.1
  obtain ⟨g1, g2, g3, g4, g5, g6, g7⟩ := hM
  have hzb := tsz_b (t := t) hpN
  unfold wp_Query_addTerm
  rw [show ((m + 1 : Nat) : Int) - 1 = (m : Int) by omega]
  simp only [Int.toNat_natCast]
  rw [g3]
  rw [show (m : Int) * 4 + (k : Int) = ((4 * m + k : Nat) : Int) by omega]
  have hpz : qTz t N (4 * m + k) = tsz t N p := by unfold qTz; rw [hp]
  have hlt9 : ∀ i, i < tsz t N p → qLt t N (12 * (4 * m + k) + i) = t (p + i) := fun i hi => by
    unfold qLt
    rw [show (12 * (4 * m + k) + i) / 12 = 4 * m + k by omega, show (12 * (4 * m + k) + i) % 12 = i by omega, ← hp]
  refine ⟨⟨by omega, by omega⟩, fun h => by omega, fun h => ⟨⟨by omega, by omega⟩, fun h2 => by omega, fun h2 => ⟨fun h3 => ⟨⟨by omega, by omega⟩, ⟨by omega, by omega⟩, ⟨by omega, by omega⟩, ?_⟩, fun h3 => by omega⟩⟩⟩
  refine ⟨fun ql' x => ∃ i : Nat, x = i ∧ i ≤ tsz t N p ∧ (∀ j, j < i → ql' (12 * (4 * m + k) + j) = t (p + j)) ∧ ∀ j, j < 12 * (4 * m + k) → ql' j = ql j, fun _ x => tsz t N p - x.toNat, ⟨0, rfl, by omega, fun j hj => by omega, fun j _ => rfl⟩, ?_⟩
  rintro ql' x ⟨i, rfl, hi, h4, h5⟩
  refine ⟨fun h6 => ⟨⟨by omega, by omega⟩, ?_⟩, fun h6 => ⟨⟨by omega, by omega⟩, ⟨by omega, by omega⟩, ⟨by omega, by omega⟩, b_tat hN ⟨⟨by omega, by omega⟩, ⟨by omega, by omega⟩, ⟨i + 1, by omega, by omega, fun j hj => ?_, fun j hj => ?_⟩, by (try dsimp only); omega⟩⟩⟩
  · have fin : ∀ z : Int, (∀ r, ib z r = (ib qs r || (st && decide (r = 4 * m + k)))) → (0 ≤ (m : Int) ∧ (m : Int) < 8) ∧ rng ((k : Int) + 1) ∧ (0 ≤ (m : Int) ∧ (m : Int) < 8) ∧ Q (uI qt m ((k : Int) + 1)) (uI qz ((4 * m + k : Nat) : Int) (tsz t N p : Nat)) ql' z := by
      intro z hz9
      refine ⟨⟨by omega, by omega⟩, ⟨by omega, by omega⟩, ⟨by omega, by omega⟩, hq _ _ _ _ ⟨fun j hj => ?_, g2, ?_, g4, fun u hu => ?_, fun r hr1 hr2 => ?_, g7⟩⟩
      · obtain ⟨a1, a2, a3, a4⟩ := g1 j hj
        have hj4 := hTc j hj
        refine ⟨a1, ?_, a3, fun u hu => ?_⟩
        · rw [uI_n (by omega) (by omega)]; exact a2
        · have hz4 := hTz j u hj hu
          obtain ⟨b1, b2, b3⟩ := a4 u hu
          refine ⟨?_, ?_, fun i9 hi9 => ?_⟩
          · rw [uI_n (by omega) (by omega)]; exact b1
          · rw [hz9, decide_eq_false (show ¬ 4 * j + u = 4 * m + k by omega), Bool.and_false, Bool.or_false]; exact b2
          · rw [h5 _ (by omega)]; exact b3 i9 hi9
      · rw [uI_e rfl]; omega
      · by_cases e : u = k
        · subst e
          refine ⟨?_, ?_, fun i9 hi9 => ?_⟩
          · rw [uI_e rfl, hpz]
          · rw [hz9, decide_eq_true rfl, Bool.and_true, g6 _ (Nat.le_refl _) (by omega), Bool.false_or]; exact hst
          · rw [hpz] at hi9
            rw [h4 i9 (by omega), hlt9 i9 hi9]
        · obtain ⟨b1, b2, b3⟩ := g5 u (by omega)
          have hz4 := hTk u (by omega)
          refine ⟨?_, ?_, fun i9 hi9 => ?_⟩
          · rw [uI_n (by omega) (by omega)]; exact b1
          · rw [hz9, decide_eq_false (show ¬ 4 * m + u = 4 * m + k by omega), Bool.and_false, Bool.or_false]; exact b2
          · rw [h5 _ (by omega)]; exact b3 i9 hi9
      · rw [hz9, g6 r (by omega) hr2, decide_eq_false (show ¬ r = 4 * m + k by omega), Bool.and_false]; rfl
    refine jn1_i ⟨fun h7 => fin _ fun r => ?_, fun h7 => fin _ fun r => ?_⟩
    · rw [ib_or, ib_0, bI_0 h7]; simp
    · rw [ib_or, ib_1 (by omega), bI_1 h7, Bool.true_and]
  · by_cases e : j = i
    · rw [uI_e (by omega), e, show (p : Int) + (i : Int) = ((p + i : Nat) : Int) by omega, atv_n (by omega)]
    · rw [uI_n (by omega) (by omega)]; exact h4 j (by omega)
  · rw [uI_n (by omega) (by omega)]; exact h5 j hj
