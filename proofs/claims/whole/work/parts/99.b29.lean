/-! B29: the reference reads items; the whole query -/
theorem sLen_23 : sLen 23 = ((4 : Nat) : Int) := rfl
theorem sLen_24 : sLen 24 = ((4 : Nat) : Int) := rfl
theorem sAt_23 : ∀ j : Nat, j < 4 → sAt 23 (j : Int) = sIt j := by decide +kernel
theorem sAt_24 : ∀ j : Nat, j < 4 → sAt 24 (j : Int) = sSo j := by decide +kernel
def MqC (m : Nat) (t : Nat → Int) (N : Nat) (nw nt nz nl ns nf : Nat → Int) : Prop := MqG m t N nw nt nz nl ns nf ∧ BoA ns ∧ BoA nf ∧ ByA nl
theorem fnb_fnb {t : Nat → Int} {N p : Nat} (hp : p ≤ N) : fnb t N (fnb t N p) = fnb t N p := by
  have h := (fnb_b (t := t) hp).2
  rcases Nat.lt_or_ge (fnb t N p) N with e | e
  · exact sk_stop (sk_not (p := bkp t) e)
  · exact sk_end e
theorem b_MreadsItem {t mt : Nat → Int} {N m : Nat} {nw nt nz nl ns nf : Nat → Int} {z : Int} {Q : Int → (Nat → Int) → (Nat → Int) → (Nat → Int) → (Nat → Int) → (Nat → Int) → (Nat → Int) → Int → Int → Int → Prop} (hB : Byt t N) (hT : TpM t N mt) (hm : m ≤ 8) (hmM : m ≤ qM t N) (hi : qIp t N m < N) (hfi : fnb t N (qIp t N m) = qIp t N m) (hM : MqC m t N nw nt nz nl ns nf)
    (hq1 : m < 8 → qOk t N (qIp t N m) = true → ∀ nw' nt' nz' nf' ns' nl', MqC (m + 1) t N nw' nt' nz' nl' ns' nf' → Q 1 nw' nt' nz' nf' ns' nl' ((m + 1 : Nat) : Int) (qNx t N (qIp t N m) : Nat) ((qNx t N (qIp t N m) : Int) - 1))
    (hq2 : m = 8 ∨ qOk t N (qIp t N m) = false → ∀ (nw' nt' nz' nf' ns' nl' : Nat → Int) (p' : Int) (p : Nat), BoA nf' → BoA ns' → ByA nl' → p = (if m = 8 then qIp t N m else qFl t N (qIp t N m)) → Q 0 nw' nt' nz' nf' ns' nl' m p' p) : wp_M_readsItem mt nw nt nz nf ns nl m (qIp t N m : Nat) z N Q := by
  have hN := hB.1
  obtain ⟨c1, c2, c3, c4⟩ := hM
  have hpr := fun j (hj : j < m) => q_rng hB (show j < qM t N by omega)
  unfold wp_M_readsItem
  refine b_Mletters hB hT (by omega) ?_
  rw [hfi]
  refine b_MisWord (n := 4) (f := sIt) hB hT (by omega) (by omega) sLen_23 sAt_23 ⟨fun h => ?_, fun h => ⟨fun h2 => ?_, fun h2 => ?_⟩⟩
  · have o1 : qO1 t N (qIp t N m) = false := bI_0 h
    refine hq2 (.inr (by unfold qOk; rw [o1]; rfl)) _ _ _ _ _ _ _ _ c3 c2 c4 ?_
    unfold qFl; rw [if_pos o1]; split <;> rfl
  · exact hq2 (.inl (by omega)) _ _ _ _ _ _ _ _ c3 c2 c4 (by rw [if_pos (by omega)])
  · have o1 : qO1 t N (qIp t N m) = true := bI_1 h
    have hm8 : m < 8 := by omega
    have z1 : tsz t N (qIp t N m) = 4 := (of_decide_eq_true o1).1
    have b1 := qO1_b (by omega) o1
    have hl4 : lte t N (qIp t N m) = qIp t N m + 4 := by have := tsz_b (t := t) (show qIp t N m ≤ N by omega); omega
    rw [hl4]
    refine b_Mweight hB hT hm8 b1 (fun ok2 => ?_) (fun bad nw' p' => ?_)
    · rw [show fnb t N (qIp t N m + 4) = qD t N (qIp t N m) from rfl] at ok2 ⊢
      have o2 : qO2 t N (qIp t N m) = true := decide_eq_true ok2
      have b3 := qD_lt o2
      have b4 := qE_b o2
      have b5 := qA_b o2
      have hwt : atv t N (qD t N (qIp t N m) : Nat) - 48 = (qWt t N m : Int) := by unfold qWt; omega
      refine ⟨fun _ => ⟨⟨by omega, by omega⟩, b_Mletters hB hT (by omega) ?_⟩, fun g => absurd g (by decide)⟩
      rw [show fnb t N (qD t N (qIp t N m) + 1) = qE t N (qIp t N m) from rfl]
      refine b_MisWord (n := 4) (f := sSo) hB hT b4 (by omega) sLen_24 sAt_24 ?_
      rw [show iwd t N (qE t N (qIp t N m)) 4 sSo = qS t N (qIp t N m) from rfl, hwt, show Int.toNat (m : Int) = m from Int.toNat_natCast m, uI_e rfl]
      refine ⟨⟨⟨by omega, by omega⟩, bI_b _⟩, ⟨by omega, by omega⟩, ?_⟩
      have hQR : MqR m 0 t N (uI nw m (qWt t N m : Nat)) (uI nt m 0) nz nl ns (uI nf m (bI (qS t N (qIp t N m)))) := by
        refine ⟨fun j hj => ?_, uI_e rfl, uI_e rfl, uI_e rfl, fun u hu => by omega, c2, c3.u (bI_b _), c4⟩
        obtain ⟨a1, a2, a3, a4⟩ := c1 j hj
        refine ⟨?_, ?_, ?_, a4⟩
        · rw [uI_n (by omega) (by omega)]; exact a1
        · rw [uI_n (by omega) (by omega)]; exact a2
        · rw [uI_n (by omega) (by omega)]; exact a3
      generalize ha : qA t N (qIp t N m) = a at *
      have hpo : ∀ k, k < 4 → tpo t N a k = qPo t N (4 * m + k) := fun k hk => by rw [qPo_at hk, ha]
      have hTk : ∀ k, k ≤ 4 → (∀ u, u < k → tgo t N a u = true) → ∀ u, u < k → qTz t N (4 * m + u) ≤ 12 := fun k hk hg u hu => by
        have g := of_decide_eq_true (hg u hu)
        unfold qTz
        rw [← hpo u (by omega)]
        exact g.2
      have fl : tOk t N a = false → ∀ (nw' nt' nz' nf' ns' nl' : Nat → Int) (p' : Int), BoA nf' → BoA ns' → ByA nl' → Q 0 nw' nt' nz' nf' ns' nl' m p' (tpo t N a (tK t N a) : Nat) := by
        intro g nw' nt' nz' nf' ns' nl' p' k1 k2 k3
        refine hq2 (.inr (by unfold qOk; rw [ha, g, Bool.and_false])) _ _ _ _ _ _ _ _ k1 k2 k3 ?_
        unfold qFl
        rw [if_neg (by omega), if_neg (by rw [o1]; intro g; cases g), if_neg (by rw [o2]; intro g; cases g), ha]
      have rest : wp_M_keepsTerm mt (uI nt m 0) nz ns nl m (lte t N (tpo t N a 0) : Nat) (tpo t N a 0 : Nat) N (fun r13 nt1 nz1 ns1 nl1 p1 => (¬ r13 = 0 → lpw6 (fun nt2 nz2 ns2 nl2 p2 b2 k2 => wp_M_blanks mt p2 b2 N (fun p3 b3 => wp_M_isAt mt p3 N 59 59 (fun r27 => (r27 = 0 → wp_M_letters mt p3 b3 N (fun p4 b4 => wp_M_keepsTerm mt nt2 nz2 ns2 nl2 m p4 b4 N (fun r30 nt5 nz5 ns5 nl5 p5 => (¬ r30 = 0 → k2 nt5 nz5 ns5 nl5 p5 b4) ∧ (r30 = 0 → Q 0 (uI nw m (qWt t N m : Nat)) nt5 nz5 (uI nf m (bI (qS t N (qIp t N m)))) ns5 nl5 m p5 b4)))) ∧ (¬ r27 = 0 → rng (p3 + 1) ∧ rng ((m : Int) + 1) ∧ Q 1 (uI nw m (qWt t N m : Nat)) nt2 nz2 (uI nf m (bI (qS t N (qIp t N m)))) ns2 nl2 ((m : Int) + 1) (p3 + 1) b3)))) nt1 nz1 ns1 nl1 p1 (tpo t N a 0 : Nat)) ∧ (r13 = 0 → Q 0 (uI nw m (qWt t N m : Nat)) nt1 nz1 (uI nf m (bI (qS t N (qIp t N m)))) ns1 nl1 m p1 (tpo t N a 0 : Nat))) := by
        refine b_Mkeeps hB hT hm8 (Nat.zero_le _) hQR (fun hk => hpo 0 hk) (tpo_b b5 0) (fun j hj => (hpr j hj).2.1.2) (fun j u hj hu => ((hpr j hj).2.2 u hu).1.2) (fun u hu => by omega) (fun _ hz nt1 nz1 ns1 nl1 hR => ⟨fun _ => ?_, fun g => absurd g (by decide)⟩) (fun bad => ⟨fun g => absurd rfl g, fun _ => ?_⟩)
        · refine ⟨fun nt2 nz2 ns2 nl2 p2 _ => ∃ k p : Nat, 1 ≤ k ∧ k ≤ 4 ∧ p2 = p ∧ p ≤ N ∧ fnb t N p = tpo t N a k ∧ MqR m k t N (uI nw m (qWt t N m : Nat)) nt2 nz2 nl2 ns2 (uI nf m (bI (qS t N (qIp t N m)))) ∧ (∀ u, u < k → tgo t N a u = true) ∧ sk (tgo t N a) 4 k = tK t N a, fun nt2 _ _ _ _ _ => 5 - (nt2 m).toNat, ⟨1, tpo t N a 0 + tsz t N (tpo t N a 0) + tss t N (tpo t N a 0), by omega, by omega, rfl, tss_b (tpo_b b5 0), rfl, hR, fun u hu => ?_, ?_⟩, ?_⟩
          · rw [show u = 0 by omega]; exact decide_eq_true hz
          · have := sk_step (p := tgo t N a) (N := 4) (i := 0) (by omega) (decide_eq_true hz)
            rw [← this]; rfl
          rintro nt2 nz2 ns2 nl2 p2 b2 ⟨k, p, hk1, hk4, rfl, hp, hfp, hR, hgo, hsk⟩
          have hpN := tpo_b b5 k (t := t)
          have stop : tgo t N a k = false ∨ k = 4 → tK t N a = k := by
            rintro (g | g)
            · rw [← hsk]; exact sk_stop g
            · rw [← hsk]; exact sk_end (by omega)
          refine b_Mblanks hB hT hp ?_
          rw [hfp]
          refine b_MisAt hB hT (by omega) (by omega) ⟨fun h5 => b_Mletters hB hT hpN ?_, fun h5 => ⟨⟨by omega, by omega⟩, ⟨by omega, by omega⟩, ?_⟩⟩
          · have h5 := of_decide_eq_false (bI_0 h5)
            have ef : fnb t N (tpo t N a k) = tpo t N a k := by rw [← hfp]; exact fnb_fnb hp
            rw [ef]
            refine b_Mkeeps hB hT hm8 hk4 hR (fun hk => hpo k hk) hpN (fun j hj => (hpr j hj).2.1.2) (fun j u hj hu => ((hpr j hj).2.2 u hu).1.2) (hTk k hk4 hgo) (fun hk hz nt5 nz5 ns5 nl5 hR5 => ⟨fun _ => ⟨⟨k + 1, tpo t N a k + tsz t N (tpo t N a k) + tss t N (tpo t N a k), by omega, by omega, rfl, tss_b hpN, rfl, hR5, fun u hu => ?_, ?_⟩, ?_⟩, fun g => absurd g (by decide)⟩) (fun bad => ⟨fun g => absurd rfl g, fun _ => ?_⟩)
            · by_cases e : u = k
              · rw [e]; exact decide_eq_true hz
              · exact hgo u (by omega)
            · rw [← hsk, sk_step (i := k) hk (decide_eq_true hz)]
            · dsimp only
              rw [hR5.2.2.1, hR.2.2.1]; omega
            · have e := stop (by
                rcases bad with g | g
                · exact .inr g
                · exact .inl (decide_eq_false g))
              have hno : tOk t N a = false := decide_eq_false (by rw [e]; omega)
              have := fl hno (uI nw m (qWt t N m : Nat)) nt2 nz2 (uI nf m (bI (qS t N (qIp t N m)))) ns2 nl2 (lte t N (tpo t N a k) : Nat) hR.2.2.2.2.2.2.1 hR.2.2.2.2.2.1 hR.2.2.2.2.2.2.2
              rw [e] at this
              exact this
          · have h5 := of_decide_eq_true (bI_1 h5)
            have h59 : atv t N (tpo t N a k : Nat) = 59 := by omega
            have hz0 := semi_0 h59
            have e := stop (.inl (decide_eq_false (by omega)))
            have hok : tOk t N a = true := decide_eq_true (by rw [e]; exact ⟨by omega, h59⟩)
            have okk : qOk t N (qIp t N m) = true := by unfold qOk; rw [o1, o2, ha, hok]; rfl
            have hnx : qNx t N (qIp t N m) = tpo t N a k + 1 := by unfold qNx; rw [ha, e]
            have := hq1 hm8 okk (uI nw m (qWt t N m : Nat)) nt2 nz2 (uI nf m (bI (qS t N (qIp t N m)))) ns2 nl2 ⟨fun j hj => ?_, hR.2.2.2.2.2.1, hR.2.2.2.2.2.2.1, hR.2.2.2.2.2.2.2⟩
            · rw [hnx] at this
              rw [show (m : Int) + 1 = ((m + 1 : Nat) : Int) by omega, show ((tpo t N a k : Nat) : Int) + 1 = ((tpo t N a k + 1 : Nat) : Int) by omega]
              rw [show ((tpo t N a k + 1 : Nat) : Int) - 1 = ((tpo t N a k : Nat) : Int) by omega] at this
              exact this
            · by_cases ej : j = m
              · rw [ej]
                have etc : qTc t N m = k := by unfold qTc; rw [ha, e]
                refine ⟨hR.2.1, by rw [hR.2.2.1, etc], hR.2.2.2.1, ?_⟩
                rw [etc]
                exact hR.2.2.2.2.1
              · exact hR.1 j (by omega)
        · have e0 : tK t N a = 0 := by
            rcases bad with g | g
            · omega
            · exact sk_stop (decide_eq_false g)
          have hno : tOk t N a = false := decide_eq_false (by rw [e0]; omega)
          have := fl hno (uI nw m (qWt t N m : Nat)) (uI nt m 0) nz (uI nf m (bI (qS t N (qIp t N m)))) ns nl (lte t N (tpo t N a 0) : Nat) (c3.u (bI_b _)) c2 c4
          rw [e0] at this
          exact this
      cases hS : qS t N (qIp t N m)
      · have ea : a = qE t N (qIp t N m) := by rw [← ha]; unfold qA; rw [hS, if_neg Bool.false_ne_true]
        have e0 : tpo t N a 0 = qE t N (qIp t N m) := by
          show fnb t N a = _
          rw [ea]
          exact fnb_fnb (t := t) (N := N) (p := qD t N (qIp t N m) + 1) (by omega)
        rw [hS, e0] at rest
        exact jn2_i ⟨fun _ => rest, fun g => absurd rfl g⟩
      · have ea : a = qE t N (qIp t N m) + 4 := by rw [← ha]; unfold qA; rw [hS, if_pos rfl]
        have z2 : tsz t N (qE t N (qIp t N m)) = 4 := (of_decide_eq_true hS).1
        have hl2 : lte t N (qE t N (qIp t N m)) = a := by have := tsz_b (t := t) b4; omega
        rw [hS] at rest
        rw [hl2]
        exact jn2_i ⟨fun g => absurd g (by decide), fun _ => b_Mletters hB hT b5 rest⟩
    · rw [show fnb t N (qIp t N m + 4) = qD t N (qIp t N m) from rfl] at bad ⊢
      have o2 : qO2 t N (qIp t N m) = false := decide_eq_false bad
      refine ⟨fun g => absurd rfl g, fun _ => hq2 (.inr (by unfold qOk; rw [o2, Bool.and_false]; rfl)) _ _ _ _ _ _ _ _ c3 c2 c4 ?_⟩
      unfold qFl
      rw [if_neg (by omega), if_neg (by rw [o1]; intro g; cases g), if_pos o2]
