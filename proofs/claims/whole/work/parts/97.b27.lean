/-! B27: the class reads a query -/
theorem qPo_at {t : Nat → Int} {N m k : Nat} (hk : k < 4) : qPo t N (4 * m + k) = tpo t N (qA t N (qIp t N m)) k := by
  unfold qPo
  rw [show (4 * m + k) / 4 = m by omega, show (4 * m + k) % 4 = k by omega]
theorem b_readTerms {t : Nat → Int} {N m a : Nat} {qw qt qz ql : Nat → Int} {qs qf fl : Int} {Q : (Nat → Int) → (Nat → Int) → (Nat → Int) → Int → Int → Int → Prop} (hB : Byt t N) (hm : m < 8) (hmM : m ≤ qM t N) (ha : a = qA t N (qIp t N m)) (haN : a ≤ N) (hM : QyR m 0 t N qw qt qz ql qs qf)
    (hq1 : tOk t N a = true → ∀ qt' qz' ql' qs', QyR m (tK t N a) t N qw qt' qz' ql' qs' qf → Q qt' qz' ql' qs' ((tpo t N a (tK t N a) + 1 : Nat) : Int) fl)
    (hq2 : tOk t N a = false → ∀ qt' qz' ql' qs', Q qt' qz' ql' qs' (tpo t N a (tK t N a) : Nat) (tpo t N a (tK t N a) : Nat)) : wp_Reader_readTerms t qt qz ql N qs ((m + 1 : Nat) : Int) a fl Q := by
  have hN := hB.1
  have hpr := fun j (hj : j < m) => q_rng hB (show j < qM t N by omega)
  unfold wp_Reader_readTerms
  refine ⟨fun qt qz ql qs x5 x6 => ∃ k p : Nat, x6 = k ∧ x5 = p ∧ k ≤ 4 ∧ p ≤ N ∧ fnb t N p = tpo t N a k ∧ QyR m k t N qw qt qz ql qs qf ∧ (∀ u, u < k → tgo t N a u = true) ∧ sk (tgo t N a) 4 k = tK t N a, fun _ _ _ _ _ x6 => 5 - x6.toNat, ⟨0, a, rfl, rfl, by omega, haN, rfl, hM, fun u hu => by omega, rfl⟩, ?_⟩
  rintro qt qz ql qs x5 x6 ⟨k, p, rfl, rfl, hk, hp, hpo, hM, hgo, hsk⟩
  refine ⟨fun h => by omega, fun h => b_skip hN hp ?_⟩
  rw [hpo]
  have hpN := tpo_b haN k (t := t)
  have hzb := tsz_b (t := t) hpN
  have stop : tgo t N a k = false ∨ k = 4 → tK t N a = k := by
    rintro (g | g)
    · rw [← hsk]; exact sk_stop g
    · rw [← hsk]; exact sk_end (by omega)
  refine ⟨¬ (0 < k ∧ atv t N (tpo t N a k) = 59), fun hns => ?_, fun h2 g => (by omega), fun h2 => b_tat hN ⟨fun h3 g => h3 g.2, fun h3 => ⟨⟨by omega, by omega⟩, ?_⟩⟩⟩
  · refine b_letters hN hpN ?_
    have bad : tK t N a = k → Q qt qz ql qs (tpo t N a k : Nat) (tpo t N a k : Nat) := by
      intro e
      have hno : tOk t N a = false := decide_eq_false (by rw [e]; exact hns)
      have := hq2 hno qt qz ql qs
      rw [e] at this
      exact this
    refine ⟨tK t N a = k, bad, fun h4 => stop (.inl (decide_eq_false (by omega))), fun h4 => ⟨fun h5 => stop (.inl (decide_eq_false (by omega))), fun h5 => ⟨fun h6 => ⟨⟨by omega, by omega⟩, b_tat hN ?_⟩, fun h6 => stop (.inr (by omega))⟩⟩⟩
    rw [show ((tpo t N a k : Nat) : Int) + ((tsz t N (tpo t N a k) : Nat) : Int) = ((tpo t N a k + tsz t N (tpo t N a k) : Nat) : Int) by omega]
    have hkg : tgo t N a k = true := decide_eq_true (by omega)
    have hpq : tpo t N a k = qPo t N (4 * m + k) := by rw [qPo_at (by omega), ha]
    have hTk : ∀ u, u < k → qTz t N (4 * m + u) ≤ 12 := fun u hu => by
      have g := of_decide_eq_true (hgo u hu)
      unfold qTz
      rw [qPo_at (by omega), ← ha]
      exact g.2
    have add : ∀ (st : Bool) (y : Int), st = decide (atv t N ((tpo t N a k + tsz t N (tpo t N a k) : Nat) : Int) = 42) → wp_Query_addTerm t qt qz ql N qs ((m + 1 : Nat) : Int) ((tpo t N a k : Nat) : Int) (tsz t N (tpo t N a k) : Nat) (bI st) (fun qt' qz' ql' qs' => jn1 (fun J5 => (bI st = 0 → J5 ((tsz t N (tpo t N a k) : Nat) : Int)) ∧ (¬ bI st = 0 → rng (((tsz t N (tpo t N a k) : Nat) : Int) + 1) ∧ J5 (((tsz t N (tpo t N a k) : Nat) : Int) + 1))) (fun y15 => rng (((tpo t N a k : Nat) : Int) + y15) ∧ rng ((k : Int) + 1) ∧ (∃ k' p' : Nat, (k : Int) + 1 = k' ∧ ((tpo t N a k : Nat) : Int) + y15 = p' ∧ k' ≤ 4 ∧ p' ≤ N ∧ fnb t N p' = tpo t N a k' ∧ QyR m k' t N qw qt' qz' ql' qs' qf ∧ (∀ u, u < k' → tgo t N a u = true) ∧ sk (tgo t N a) 4 k' = tK t N a) ∧ 5 - ((k : Int) + 1).toNat < 5 - (k : Int).toNat)) := by
      intro st y hst
      have hss := tss_b (t := t) hpN
      refine b_addTerm hB hm (by omega) hM hpq hpN (by omega) (by rw [hst]; unfold qSt qTz; rw [hpq]) (fun j hj => (hpr j hj).2.1.2) (fun j u hj hu => ((hpr j hj).2.2 u hu).1.2) hTk fun qt' qz' ql' qs' hM' => ?_
      have hgo' : ∀ u, u < k + 1 → tgo t N a u = true := fun u hu => by
        by_cases e : u = k
        · rw [e]; exact hkg
        · exact hgo u (by omega)
      have hsk' : sk (tgo t N a) 4 (k + 1) = tK t N a := by rw [← hsk, sk_step (i := k) (by omega) hkg]
      refine jn1_i ⟨fun h7 => ?_, fun h7 => ⟨⟨by omega, by omega⟩, ?_⟩⟩
      · have e : tss t N (tpo t N a k) = 0 := by
          unfold tss; rw [if_neg]
          have := bI_0 h7
          rw [hst] at this
          exact of_decide_eq_false this
        refine ⟨⟨by omega, by omega⟩, ⟨by omega, by omega⟩, ⟨k + 1, tpo t N a k + tsz t N (tpo t N a k), by omega, by omega, by omega, by omega, ?_, hM', hgo', hsk'⟩, by omega⟩
        show _ = fnb t N (tpo t N a k + tsz t N (tpo t N a k) + tss t N (tpo t N a k))
        rw [e]; rfl
      · have e : tss t N (tpo t N a k) = 1 := by
          unfold tss; rw [if_pos]
          have := bI_1 h7
          rw [hst] at this
          exact of_decide_eq_true this
        refine ⟨⟨by omega, by omega⟩, ⟨by omega, by omega⟩, ⟨k + 1, tpo t N a k + tsz t N (tpo t N a k) + 1, by omega, by omega, by omega, by omega, ?_, hM', hgo', hsk'⟩, by omega⟩
        show _ = fnb t N (tpo t N a k + tsz t N (tpo t N a k) + tss t N (tpo t N a k))
        rw [e]
    refine jn1_i ⟨fun h7 => add false 0 (decide_eq_false h7).symm, fun h7 => add true 1 (decide_eq_true h7).symm⟩
  · have hz0 := semi_0 h3
    have e := stop (.inl (decide_eq_false (by omega)))
    have hok : tOk t N a = true := decide_eq_true (by rw [e]; exact ⟨by omega, h3⟩)
    have := hq1 hok qt qz ql qs (by rw [e]; exact hM)
    rw [e] at this
    rw [show ((tpo t N a k : Nat) : Int) + 1 = ((tpo t N a k + 1 : Nat) : Int) by omega]
    exact this
/-- m items are read -/
def QyC (m : Nat) (t : Nat → Int) (N : Nat) (qw qt qz ql : Nat → Int) (qs qf : Int) : Prop := QyG m t N qw qt qz ql qs qf ∧ (∀ r, 4 * m ≤ r → r < 32 → ib qs r = false) ∧ ∀ j, m ≤ j → j < 8 → ib qf j = false
theorem b_readItem {t : Nat → Int} {N m : Nat} {qw qt qz ql : Nat → Int} {qs qf : Int} {Q : (Nat → Int) → (Nat → Int) → (Nat → Int) → (Nat → Int) → Int → Int → Int → Int → Int → Prop} (hB : Byt t N) (hm : m ≤ 8) (hmM : m ≤ qM t N) (hi : qIp t N m < N) (hM : QyC m t N qw qt qz ql qs qf)
    (hq1 : m < 8 → qOk t N (qIp t N m) = true → ∀ qw' qt' qz' ql' qs' qf', QyC (m + 1) t N qw' qt' qz' ql' qs' qf' → Q qw' qt' qz' ql' qs' qf' ((m + 1 : Nat) : Int) (qNx t N (qIp t N m) : Nat) (-1))
    (hq2 : m = 8 ∨ qOk t N (qIp t N m) = false → ∀ qw' qt' qz' ql' qs' qf' di (p : Nat), p ≤ N → p = (if m = 8 then qIp t N m else qFl t N (qIp t N m)) → Q qw' qt' qz' ql' qs' qf' di p p) : wp_Reader_readItem t qw qt qz ql N qs qf m (qIp t N m : Nat) (-1) Q := by
  have hN := hB.1
  unfold wp_Reader_readItem
  have hf0 : m = 8 ∨ qO1 t N (qIp t N m) = false → Q qw qt qz ql qs qf m (qIp t N m : Nat) (qIp t N m : Nat) := by
    intro g
    refine hq2 ?_ _ _ _ _ _ _ _ _ (by omega) ?_
    · rcases g with g | g
      · exact .inl g
      · right; unfold qOk; rw [g]; rfl
    · rcases g with g | g
      · rw [if_pos g]
      · unfold qFl; rw [if_pos g]; split <;> rfl
  refine ⟨m = 8 ∨ qO1 t N (qIp t N m) = false, hf0, fun h => .inl (by omega), fun h => b_isWordH (n := 4) (f := sIt) hN (by omega) (by omega) sLen_0 (fun _ _ => rfl) ⟨fun h1 => ?_, fun h1 => .inr (bI_0 h1)⟩⟩
  have o1 : qO1 t N (qIp t N m) = true := bI_1 h1
  have hm8 : m < 8 := by omega
  have z1 : tsz t N (qIp t N m) = 4 := (of_decide_eq_true o1).1
  have b1 := qO1_b (by omega) o1
  have b2 := qD_b (by omega) o1
  refine b_letters hN (by omega) ⟨⟨by omega, by omega⟩, ?_⟩
  rw [z1, show ((qIp t N m : Nat) : Int) + ((4 : Nat) : Int) = ((qIp t N m + 4 : Nat) : Int) by omega]
  refine b_skip hN b1 (b_tat hN ?_)
  rw [show fnb t N (qIp t N m + 4) = qD t N (qIp t N m) from rfl]
  have hf2 : qO2 t N (qIp t N m) = false → Q qw qt qz ql qs qf m (qD t N (qIp t N m) : Nat) (qD t N (qIp t N m) : Nat) := by
    intro g
    refine hq2 (.inr (by unfold qOk; rw [g, Bool.and_false]; rfl)) _ _ _ _ _ _ _ _ b2 ?_
    unfold qFl
    rw [if_neg (by omega), if_neg (by rw [o1]; intro g; cases g), if_pos g]
  refine ⟨qO2 t N (qIp t N m) = false, hf2, fun h2 => decide_eq_false (by omega), fun h2 => ⟨fun h3 => decide_eq_false (by omega), fun h3 => ⟨⟨by omega, by omega⟩, b_tat hN (b_digit ?_)⟩⟩⟩
  rw [show ((qD t N (qIp t N m) : Nat) : Int) + 1 = ((qD t N (qIp t N m) + 1 : Nat) : Int) by omega]
  refine ⟨fun h4 => ⟨⟨by omega, by omega⟩, ?_⟩, fun h4 => decide_eq_false fun g => g.2.2 (of_decide_eq_true (bI_1 h4))⟩
  have o2 : qO2 t N (qIp t N m) = true := decide_eq_true ⟨by omega, by omega, of_decide_eq_false (bI_0 h4)⟩
  have b3 := qD_lt o2
  have b4 := qE_b o2
  have b5 := qA_b o2
  refine b_skip hN (by omega) ?_
  rw [show fnb t N (qD t N (qIp t N m) + 1) = qE t N (qIp t N m) from rfl]
  refine b_isWordH (n := 4) (f := sSo) hN b4 (by omega) sLen_1 (fun _ _ => rfl) ?_
  rw [show iwd t N (qE t N (qIp t N m)) 4 sSo = qS t N (qIp t N m) from rfl]
  have hbyt := hB.2 (qD t N (qIp t N m)) b3
  have hwt : atv t N (qD t N (qIp t N m)) - 48 = (qWt t N m : Int) := by unfold qWt; omega
  have rest : rng (atv t N (qD t N (qIp t N m)) - 48) ∧ wp_Query_addItem qw qt qf m (atv t N (qD t N (qIp t N m)) - 48) (bI (qS t N (qIp t N m))) (fun qw1 qt1 qf1 di => wp_Reader_readTerms t qt1 qz ql N qs di (qA t N (qIp t N m) : Nat) (-1) (fun qt2 qz2 ql2 qs2 at2 fl2 => Q qw1 qt2 qz2 ql2 qs2 qf1 di at2 fl2)) := by
    refine ⟨⟨by omega, by omega⟩, ?_⟩
    unfold wp_Query_addItem
    obtain ⟨c1, c2, c3⟩ := hM
    have go : ∀ z : Int, (∀ j, ib z j = (ib qf j || (qS t N (qIp t N m) && decide (j = m)))) → rng ((m : Int) + 1) ∧ wp_Reader_readTerms t (uI qt m 0) qz ql N qs ((m : Int) + 1) (qA t N (qIp t N m) : Nat) (-1) (fun qt2 qz2 ql2 qs2 at2 fl2 => Q (uI qw m (atv t N (qD t N (qIp t N m)) - 48)) qt2 qz2 ql2 qs2 z ((m : Int) + 1) at2 fl2) := by
      intro z hz
      refine ⟨⟨by omega, by omega⟩, ?_⟩
      rw [show (m : Int) + 1 = ((m + 1 : Nat) : Int) by omega]
      refine b_readTerms (qw := uI qw m (atv t N (qD t N (qIp t N m)) - 48)) (qf := z) hB hm8 hmM rfl b5 ⟨fun j hj => ?_, ?_, uI_e rfl, ?_, fun u hu => by omega, fun r hr1 hr2 => c2 r (by omega) hr2, fun j hj1 hj2 => ?_⟩ (fun ok qt' qz' ql' qs' hR => ?_) (fun ok qt' qz' ql' qs' => ?_)
      · obtain ⟨a1, a2, a3, a4⟩ := c1 j hj
        refine ⟨?_, ?_, ?_, a4⟩
        · rw [uI_n (by omega) (by omega)]; exact a1
        · rw [uI_n (by omega) (by omega)]; exact a2
        · rw [hz, decide_eq_false (show ¬ j = m by omega), Bool.and_false, Bool.or_false]; exact a3
      · rw [uI_e rfl, hwt]
      · rw [hz, decide_eq_true rfl, Bool.and_true, c3 m (Nat.le_refl _) hm8, Bool.false_or]; rfl
      · rw [hz, c3 j (by omega) hj2, decide_eq_false (show ¬ j = m by omega), Bool.and_false]; rfl
      · have okk : qOk t N (qIp t N m) = true := by unfold qOk; rw [o1, o2, ok]; rfl
        refine hq1 hm8 okk _ _ _ _ _ _ ⟨fun j hj => ?_, fun r hr1 hr2 => ?_, fun j hj1 hj2 => hR.2.2.2.2.2.2 j (by omega) hj2⟩
        · by_cases e : j = m
          · rw [e]
            exact ⟨hR.2.1, hR.2.2.1, hR.2.2.2.1, hR.2.2.2.2.1⟩
          · exact hR.1 j (by omega)
        · have := tK_le t N (qA t N (qIp t N m))
          exact hR.2.2.2.2.2.1 r (by omega) hr2
      · refine hq2 (.inr (by unfold qOk; rw [ok, Bool.and_false])) _ _ _ _ _ _ _ _ (tpo_b b5 _) ?_
        unfold qFl
        rw [if_neg (by omega), if_neg (by rw [o1]; intro g; cases g), if_neg (by rw [o2]; intro g; cases g)]
    refine ⟨fun g => by omega, fun _ => ⟨⟨by omega, by omega⟩, ⟨by omega, by omega⟩, jn1_i ⟨fun h5 => go _ fun j => ?_, fun h5 => go _ fun j => ?_⟩⟩⟩
    · rw [ib_or, ib_0, bI_0 h5]; simp
    · rw [ib_or, ib_1 (by omega), bI_1 h5, Bool.true_and]
  refine ⟨fun x => x = (qA t N (qIp t N m) : Nat), ?_, fun h5 => ?_, fun h5 => b_letters hN b4 ?_⟩
  · rintro _ rfl
    exact rest
  · show ((qE t N (qIp t N m) : Nat) : Int) = _
    unfold qA; rw [bI_0 h5, if_neg Bool.false_ne_true]
  · have h6 := bI_1 h5
    have z2 : tsz t N (qE t N (qIp t N m)) = 4 := (of_decide_eq_true h6).1
    rw [z2]
    refine ⟨⟨by omega, by omega⟩, ?_⟩
    show ((qE t N (qIp t N m) : Nat) : Int) + ((4 : Nat) : Int) = _
    unfold qA; rw [h6, if_pos rfl]; omega
theorem qFl_ne {t : Nat → Int} {N : Nat} : qF t N = -1 ∨ ∃ p : Nat, qF t N = p := by
  unfold qF
  split
  · exact .inl rfl
  · split
    · exact .inr ⟨_, rfl⟩
    · exact .inr ⟨_, rfl⟩
theorem qIp_b {t : Nat → Int} {N : Nat} : ∀ m, (∀ j, j < m → qOk t N (qIp t N j) = true) → qIp t N m ≤ N
  | 0, _ => (fnb_b (Nat.zero_le _)).2
  | m + 1, h => (fnb_b (qNx_b (h m (by omega)))).2
theorem b_readAll {t : Nat → Int} {N : Nat} {qw qt qz ql : Nat → Int} {z1 z2 z3 z4 z5 : Int} {Q : Int → (Nat → Int) → (Nat → Int) → (Nat → Int) → (Nat → Int) → Int → Int → Int → Int → Int → Prop} (hB : Byt t N)
    (hq : ∀ (qw' qt' qz' ql' : Nat → Int) (qs' qf' di p fl : Int), (qF t N = -1 → di = (qM t N : Nat) ∧ QyG (qM t N) t N qw' qt' qz' ql' qs' qf') → Q (qF t N) qw' qt' qz' ql' qs' qf' di p fl) : wp_Reader_readAll t qw qt qz ql N z1 z2 z3 z4 z5 Q := by
  have hN := hB.1
  unfold wp_Reader_readAll wp_Query_clear
  refine b_skip hN (Nat.zero_le _) ?_
  refine ⟨fun qw qt qz ql qs qf di p fl x => ∃ n : Nat, x = n ∧ n ≤ 9 ∧ ((fl = -1 ∧ n ≤ 8 ∧ p = (qIp t N n : Nat) ∧ qIp t N n ≤ N ∧ di = n ∧ QyC n t N qw qt qz ql qs qf ∧ n ≤ qM t N ∧ sk (qgo t N) 8 n = qM t N) ∨ (fl = qF t N ∧ fl ≠ -1)), fun _ _ _ _ _ _ _ _ _ x => 9 - x.toNat, ⟨0, rfl, by omega, .inl ⟨rfl, by omega, rfl, (fnb_b (Nat.zero_le _)).2, rfl, ⟨fun k hk => by omega, fun r _ _ => ib_0 r, fun j _ _ => ib_0 j⟩, Nat.zero_le _, rfl⟩⟩, ?_⟩
  rintro qw qt qz ql qs qf di p fl x ⟨n, rfl, hn, hx⟩
  have flt : fl = qF t N → fl ≠ -1 → Q fl qw qt qz ql qs qf di p fl := by
    intro g1 g2
    have := hq qw qt qz ql qs qf di p fl (fun g => absurd (g1.trans g) g2)
    rw [← g1] at this; exact this
  refine ⟨fun h => ?_, fun h => ⟨fun h2 => ?_, fun h2 => ⟨fun h3 => ?_, fun h3 => ?_⟩⟩⟩
  · rcases hx with hx | hx
    · omega
    · exact flt hx.1 hx.2
  · rcases hx with ⟨g1, g2, g3, g4, g5, g6, g7, g8⟩ | hx
    · have e : qM t N = n := by
        rcases Nat.lt_or_ge n 8 with e | e
        · rw [← g8]
          refine sk_stop ?_
          unfold qgo
          rw [decide_eq_false (by omega)]; rfl
        · rw [← g8]; exact sk_end e
      have ef : qF t N = -1 := by unfold qF; rw [e, if_pos (by omega)]
      have := hq qw qt qz ql qs qf di p fl (fun _ => ⟨by rw [e, g5], by rw [e]; exact g6.1⟩)
      rw [ef] at this
      rw [g1] at this ⊢
      exact this
    · exact flt hx.1 hx.2
  · rcases hx with hx | hx
    · exact absurd hx.1 h3
    · exact flt hx.1 hx.2
  · rcases hx with ⟨g1, g2, g3, g4, g5, g6, g7, g8⟩ | hx
    · subst g1
      subst g3
      subst g5
      refine b_readItem hB g2 g7 (by omega) g6 (fun hn8 ok qw' qt' qz' ql' qs' qf' hC => ?_) (fun bad qw' qt' qz' ql' qs' qf' di p hp ep => ?_)
      · refine b_skip hN (qNx_b ok) ?_
        have hgo : qgo t N n = true := by unfold qgo; rw [decide_eq_true (by omega), ok]; rfl
        have hst := sk_step (p := qgo t N) (N := 8) (i := n) hn8 hgo
        refine ⟨⟨by omega, by omega⟩, ⟨n + 1, by omega, by omega, .inl ⟨rfl, by omega, rfl, (fnb_b (qNx_b ok)).2, rfl, hC, ?_, by rw [← hst]; exact g8⟩⟩, by (try dsimp only); omega⟩
        have := sk_ge (qgo t N) 8 (n + 1)
        omega
      · refine b_skip hN hp ?_
        have e : qM t N = n := by
          rcases Nat.lt_or_ge n 8 with e | e
          · rw [← g8]
            refine sk_stop ?_
            unfold qgo
            rcases bad with g | g
            · omega
            · rw [g, Bool.and_false]
          · rw [← g8]; exact sk_end e
        have ef : qF t N = (p : Int) := by
          unfold qF
          rw [e, if_neg (by omega), ep]
          split
          · rename_i h8; rw [h8]
          · rfl
        exact ⟨⟨by omega, by omega⟩, ⟨n + 1, by omega, by omega, .inr ⟨ef.symm, by omega⟩⟩, by (try dsimp only); omega⟩
    · exact absurd h3 hx.2
