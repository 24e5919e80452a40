/-! B8: sentences as the reference lays them -/
theorem evt_hi {b : Nat → Int} {N j : Nat} (h : 128 ≤ b j) : evt b N j = true := by
  have h0 : stp (b j) = false := decide_eq_false (by omega)
  have h1 : cls b N j = false := by unfold cls; rw [h0]; rfl
  have h2 : gap b N j = false := by unfold gap; rw [decide_eq_false (show ¬ b j = 10 by omega)]; rfl
  unfold evt
  rw [h1, h2]; rfl
theorem evt_step {b : Nat → Int} {N t : Nat} (ht : t < sgn b N N) (he : evt b N (ps b N t) = true) : sk (evt b N) N (ps b N (t + 1)) = sk (evt b N) N (ps b N t) := by
  have h1 := ps_lt ht
  cases e : sec b N (ps b N t + 1)
  · rw [ps_1 ht e, sk_step (i := ps b N t) h1.1 he]
  · have h2 := sec_ge e
    rw [ps_2 ht e, sk_step (i := ps b N t) h1.1 he, sk_step (i := ps b N t + 1) h2.2.2.2 (evt_hi h2.1)]
theorem b_MendOf {b pg sa : Nat → Int} {N s : Nat} {Q : Int → Prop} (hB : Byt b N) (hp : PgE b N pg) (hm : MsA b N sa) (hs : s ≤ sgn b N N) (hq : ∀ u : Nat, u ≤ sgn b N N → ps b N u = rawE b N (ps b N s) → Q u) : wp_M_endOf pg sa (sgn b N N) s Q := by
  have hN := hB.1
  have hS : sgn b N N ≤ N := cn_le (nsc b N) N
  unfold wp_M_endOf
  refine ⟨fun x => ∃ t : Nat, x = t ∧ t ≤ sgn b N N ∧ sk (evt b N) N (ps b N t) = sk (evt b N) N (ps b N s), fun x => sgn b N N - x.toNat, ⟨s, rfl, hs, rfl⟩, ?_⟩
  rintro x ⟨t, rfl, ht, e⟩
  refine ⟨fun h => hq _ (Nat.le_refl _) ?_, fun h => ?_⟩
  · unfold rawE
    rw [← e, ps_ge (show sgn b N N ≤ t by omega), sk_end (Nat.le_refl _), if_neg (fun h => absurd h.1 (Nat.lt_irrefl _)), ps_S]
  · have ht : t < sgn b N N := by omega
    have h1 := ps_lt ht
    have h4 : atv b N (ps b N t) = b (ps b N t) := atv_n h1.1
    refine b_Mgap hN hp hm ht ⟨fun h2 => ?_, fun h2 => hq t (by omega) ?_⟩
    · have h2 := bI_0 h2
      refine b_Mstp hN hp hm (by omega) ⟨evt b N (ps b N t) = true, fun hJ => ⟨⟨by omega, by omega⟩, ⟨t + 1, by omega, by omega, by rw [evt_step ht hJ, e]⟩, by dsimp only; omega⟩, fun h3 => ?_, fun h3 => b_Mini hB hp hm ht ⟨fun h5 => ⟨⟨by omega, by omega⟩, ?_⟩, fun h5 => ?_⟩⟩
      · rw [h4] at h3
        have : cls b N (ps b N t) = false := by unfold cls; rw [bI_0 h3]; rfl
        unfold evt; rw [this, h2]; rfl
      · rw [h4] at h3
        have h3 := bI_1 h3
        have h5 := bI_0 h5
        have e1 : ps b N (t + 1) = ps b N t + 1 := by
          refine ps_1 ht ?_
          cases e : sec b N (ps b N t + 1)
          · rfl
          · have g := sec_ge e
            rw [Nat.add_sub_cancel] at g
            have := of_decide_eq_true h3
            omega
        have ec : cls b N (ps b N t) = (decide (N ≤ skc b N (ps b N t + 1)) || blk (b (skc b N (ps b N t + 1)))) := by unfold cls; rw [h3, h5]; simp
        have hraw : cls b N (ps b N t) = true → rawE b N (ps b N s) = skc b N (ps b N t + 1) := by
          intro hc
          have hev : evt b N (ps b N t) = false := by unfold evt; rw [hc]; rfl
          unfold rawE
          rw [← e, sk_stop hev, if_pos ⟨h1.1, hc⟩]
        refine ⟨fun x => ∃ u : Nat, x = u ∧ t + 1 ≤ u ∧ u ≤ sgn b N N ∧ skc b N (ps b N u) = skc b N (ps b N t + 1), fun x => sgn b N N - x.toNat, ⟨t + 1, by omega, by omega, by omega, by rw [e1]⟩, ?_⟩
        rintro x ⟨u, rfl, hu1, hu, e2⟩
        refine b_Mclo hN hp hm hu ⟨fun h6 => ?_, fun h6 => ?_⟩
        · have h6 := bI_0 h6
          have e3 : skc b N (ps b N t + 1) = ps b N u := by
            rw [← e2]
            by_cases hu2 : u < sgn b N N
            · rw [atv_n (ps_lt hu2).1] at h6
              exact sk_stop (p := clp b) h6
            · exact sk_end (by rw [ps_ge (by omega)]; exact Nat.le_refl _)
          refine ⟨fun h7 => hq u hu ?_, fun h7 => b_Mblk hN hp hm hu ⟨fun h8 => ?_, fun h8 => hq u hu ?_⟩⟩
          · rw [hraw, e3]
            rw [ec, e3, ps_ge (by omega), decide_eq_true (Nat.le_refl N)]; rfl
          · have hu2 := ps_lt (show u < sgn b N N by omega)
            have h8 := bI_0 h8
            rw [atv_n hu2.1] at h8
            have hc : cls b N (ps b N t) = false := by rw [ec, e3, h8, decide_eq_false (by omega)]; rfl
            show evt b N (ps b N t) = true
            unfold evt; rw [hc, h2]; rfl
          · have hu2 := ps_lt (show u < sgn b N N by omega)
            have h8 := bI_1 h8
            rw [atv_n hu2.1] at h8
            rw [hraw, e3]
            rw [ec, e3, h8, Bool.or_true]
        · have h6 := bI_1 h6
          have hu2 : u < sgn b N N := by
            by_cases h : u < sgn b N N
            · exact h
            · rw [ps_ge (by omega), atv_o (.inr (Int.le_refl _))] at h6
              cases h6
          have hu3 := ps_lt hu2
          rw [atv_n hu3.1] at h6
          have e3 : ps b N (u + 1) = ps b N u + 1 := by
            refine ps_1 hu2 ?_
            cases e : sec b N (ps b N u + 1)
            · rfl
            · have g := sec_ge e
              rw [Nat.add_sub_cancel] at g
              have := of_decide_eq_true h6
              omega
          refine ⟨⟨by omega, by omega⟩, ⟨u + 1, by omega, by omega, by omega, ?_⟩, by dsimp only; omega⟩
          rw [e3, ← e2]
          exact (sk_step (p := clp b) hu3.1 h6).symm
      · have hc : cls b N (ps b N t) = false := by unfold cls; rw [bI_1 h5]; simp
        show evt b N (ps b N t) = true
        unfold evt; rw [hc, h2]; rfl
    · have h2 := bI_1 h2
      have hb : b (ps b N t) = 10 := of_decide_eq_true (Bool.and_eq_true_iff.mp h2).1
      have h0 : stp (b (ps b N t)) = false := decide_eq_false (by omega)
      have hc : cls b N (ps b N t) = false := by unfold cls; rw [h0]; rfl
      have hev : evt b N (ps b N t) = false := by unfold evt; rw [h2, Bool.or_true]; rfl
      unfold rawE
      rw [← e, sk_stop hev, if_neg (by rw [hc]; exact fun h => by cases h.2)]
/-- which sentence has a word -/
theorem sBg_lt {b : Nat → Int} {N k j : Nat} (h : k < j) (hj : sBg b N j < N) : sEn b N k ≤ sBg b N j := by
  induction j with
  | zero => omega
  | succ j ih =>
    have h1 := sBg_mono hj j (by omega)
    have h2 := sEn_b h1
    rcases Nat.eq_or_lt_of_le (show k ≤ j by omega) with e | e
    · rw [e]; omega
    · have := ih e h1
      omega
theorem so_in {b : Nat → Int} {N w : Nat} (hw : w < Wn b N) (h : soN b N w < Sn b N) : sBg b N (soN b N w) ≤ wBg b N w ∧ wBg b N w < sEn b N (soN b N w) := by
  have hl := wd_lt hw
  have hnb := ltr_nb (wd_ltr hw (wBg b N w) (Nat.le_refl _) hl.1)
  have h1 : sop b N w (soN b N w) = false := sk_not (p := sop b N w) h
  have h1 := of_decide_eq_false h1
  refine ⟨?_, by omega⟩
  rcases Nat.lt_or_ge (wBg b N w) (sBg b N (soN b N w)) with e | e
  · exfalso
    have hb : bkp b (wBg b N w) = true := by
      cases hk : soN b N w with
      | zero =>
        rw [hk] at e
        exact sk_all (p := bkp b) (N := N) (i := 0) (Nat.zero_le _) e
      | succ k =>
        rw [hk] at e
        have h2 : sop b N w k = true := sk_all (p := sop b N w) (N := Sn b N) (i := 0) (Nat.zero_le _) (by unfold soN at hk; omega)
        have h2 := of_decide_eq_true h2
        rw [← sEn_fnb] at e
        exact sk_all (p := bkp b) (N := N) (i := sEn b N k) h2 e
    unfold bkp at hb
    rw [hnb] at hb
    cases hb
  · exact e
theorem so_iff {b : Nat → Int} {N w k : Nat} (hw : w < Wn b N) (hk : k < Sn b N) : (sBg b N k ≤ wBg b N w ∧ wBg b N w < sEn b N k) ↔ soN b N w = k := by
  constructor
  · rintro ⟨h1, h2⟩
    rcases Nat.lt_trichotomy (soN b N w) k with e | e | e
    · have g := so_in hw (by omega)
      have := sBg_lt e (Sn_lt hk)
      omega
    · exact e
    · have h3 : sop b N w k = true := sk_all (p := sop b N w) (N := Sn b N) (i := 0) (Nat.zero_le _) e
      have h3 := of_decide_eq_true h3
      omega
  · rintro rfl
    exact so_in hw hk
theorem sg_le {b : Nat → Int} {N i j : Nat} (hi : sec b N i = false) (hj : sec b N j = false) : sgn b N i ≤ sgn b N j ↔ i ≤ j := by
  constructor
  · intro h
    rcases Nat.lt_or_ge j i with e | e
    · have := sgn_lt hj e; omega
    · exact e
  · exact sgn_mono
theorem sg_lt {b : Nat → Int} {N i j : Nat} (hi : sec b N i = false) (hj : sec b N j = false) : sgn b N i < sgn b N j ↔ i < j := by
  have := sg_le hj hi
  omega
/-- what laysWords and laysSentences lay -/
def MwA (b : Nat → Int) (N : Nat) (wf wt : Nat → Int) : Prop := ∀ w, w < Wn b N → wf w = sgn b N (wBg b N w) ∧ wt w = sgn b N (wEn b N w)
def MtA (b : Nat → Int) (N : Nat) (fr to : Nat → Int) : Prop := ∀ k, k < Sn b N → fr k = sgn b N (sBg b N k) ∧ to k = sgn b N (sEn b N k)
def MhA (b : Nat → Int) (N : Nat) (hwa : Nat → Int) : Prop := ∀ k l, k < Sn b N → l < 100 → hwa (100 * k + l) = bI (hw b N k l)
theorem b_MSent {b pg sa wf so0 lk fr to hwa : Nat → Int} {N : Nat} {z : Int} {Q : (Nat → Int) → (Nat → Int) → (Nat → Int) → (Nat → Int) → Int → Prop} (hB : Byt b N) (hp : PgE b N pg) (hm : MsA b N sa) (hwf : ∀ w, w < Wn b N → wf w = sgn b N (wBg b N w)) (hlk : AlA b N lk) (hq : ∀ so' fr' to' hw', (∀ w, w < Wn b N → so' w = so b N w) → MtA b N fr' to' → MhA b N hw' → Q so' fr' to' hw' (Sn b N)) : wp_M_laysSentences pg sa wf so0 lk fr to hwa (sgn b N N) (Wn b N) z Q := by
  have hN := hB.1
  have hS : sgn b N N ≤ N := cn_le (nsc b N) N
  have h14 := Sn_le b N
  have h100 : Wn b N ≤ 100 := by unfold Wn; omega
  unfold wp_M_laysSentences
  refine ⟨fun fr to n x => ∃ k t : Nat, n = k ∧ x = t ∧ k ≤ 14 ∧ t ≤ sgn b N N ∧ fnb b N (ps b N t) = sBg b N k ∧ k ≤ Sn b N ∧ ∀ j, j < k → fr j = sgn b N (sBg b N j) ∧ to j = sgn b N (sEn b N j), fun _ _ n _ => 14 - n.toNat, ⟨0, 0, rfl, rfl, by omega, Nat.zero_le _, by rw [ps_0]; rfl, Nat.zero_le _, fun j h => by omega⟩, ?_⟩
  rintro fr to n x ⟨k, t, rfl, rfl, hk, ht, hf, hkS, ha⟩
  refine ⟨k = Sn b N, fun ek => ?_, fun h => by omega, fun h => ?_⟩
  · have ha : MtA b N fr to := fun j hj => ha j (by omega)
    refine ⟨fun s x => ∃ w : Nat, x = w ∧ w ≤ Wn b N ∧ ∀ v, v < w → s v = so b N v, fun _ x => Wn b N - x.toNat, ⟨0, rfl, Nat.zero_le _, fun v h => by omega⟩, ?_⟩
    rintro s x ⟨w, rfl, hw, hs⟩
    refine ⟨fun h => ?_, fun h => ⟨⟨by omega, by omega⟩, ?_⟩⟩
    · have hs : ∀ v, v < Wn b N → s v = so b N v := fun v hv => hs v (by omega)
      refine ⟨fun H x => ∃ i : Nat, x = i ∧ ∀ j, j < i → H j = 0, fun _ x => 1400 - x.toNat, ⟨0, rfl, fun j h => by omega⟩, ?_⟩
      rintro H x ⟨i, rfl, hH⟩
      refine ⟨fun h2 => ?_, fun h2 => ⟨⟨by omega, by omega⟩, ⟨by omega, by omega⟩, ⟨i + 1, by omega, fun j hj => ?_⟩, by dsimp only; omega⟩⟩
      · refine ⟨fun H x => ∃ w : Nat, x = w ∧ w ≤ Wn b N ∧ ∀ k l, k < Sn b N → l < 100 → H (100 * k + l) = bI (hwp b N k l w), fun _ x => Wn b N - x.toNat, ⟨0, rfl, Nat.zero_le _, fun k l hk hl => hH _ (by omega)⟩, ?_⟩
        rintro H x ⟨w, rfl, hw, hH⟩
        refine ⟨fun h3 => ?_, fun h3 => ⟨⟨by omega, by omega⟩, fun H' => ∀ k l, k < Sn b N → l < 100 → H' (100 * k + l) = bI (hwp b N k l (w + 1)), fun H' hH' => ⟨⟨by omega, by omega⟩, ⟨w + 1, by omega, by omega, hH'⟩, by dsimp only; omega⟩, ?_⟩⟩
        · have ew : w = Wn b N := by omega
          rw [ew] at hH
          rw [ek]
          exact hq _ _ _ _ hs ha hH
        · rw [Int.toNat_natCast, hs w (by omega), hlk w (by omega)]
          have hlw := lko_le b N w
          have hsl := soN_le b N w
          refine ⟨fun h4 k l hk hl => ?_, fun h4 => ?_⟩
          · have hf : decide (soN b N w = k) = false := by
              refine decide_eq_false fun e => ?_
              unfold so at h4
              rw [if_pos (by omega)] at h4
              omega
            rw [hwp_s, hf, Bool.false_and, Bool.or_false]
            exact hH k l hk hl
          · have hlt : soN b N w < Sn b N := by
              unfold so at h4
              split at h4
              · assumption
              · exact absurd rfl h4
            have eso : so b N w = soN b N w := if_pos hlt
            rw [eso]
            refine ⟨⟨by omega, by omega⟩, ⟨by omega, by omega⟩, ⟨by omega, by omega⟩, ⟨by omega, by omega⟩, ⟨by omega, by omega⟩, fun k l hk hl => ?_⟩
            rw [hwp_s]
            by_cases e : k = soN b N w ∧ l = lko b N w
            · rw [uI_e (by omega), decide_eq_true e.1.symm, decide_eq_true e.2.symm, Bool.true_and, Bool.or_true]; rfl
            · rw [uI_n (by omega) (by omega), hH k l hk hl, ← Bool.decide_and, decide_eq_false (by omega), Bool.or_false]
      · by_cases e : j = i
        · rw [uI_e (by omega)]
        · rw [uI_n (by omega) (by omega)]; exact hH j (by omega)
    · refine ⟨fun s' x => ∃ j : Nat, x = j ∧ j ≤ Sn b N ∧ (∀ v, v < w → s' v = so b N v) ∧ s' w = (if soN b N w < j then (soN b N w : Int) else -1), fun _ x => Sn b N - x.toNat, ⟨0, rfl, Nat.zero_le _, fun v hv => ?_, ?_⟩, ?_⟩
      · rw [uI_n (by omega) (by omega)]; exact hs v hv
      · rw [uI_e rfl, if_neg (by omega)]
      rintro s' x ⟨j, rfl, hj, hs1, hs2⟩
      rw [Int.toNat_natCast, Int.toNat_natCast]
      refine ⟨fun h2 => ⟨⟨by omega, by omega⟩, ⟨w + 1, by omega, by omega, fun v hv => ?_⟩, by dsimp only; omega⟩, fun h2 => ⟨⟨by omega, by omega⟩, ⟨by omega, by omega⟩, fun s' => (∀ v, v < w → s' v = so b N v) ∧ s' w = (if soN b N w < j + 1 then (soN b N w : Int) else -1), ?_, ?_⟩⟩
      · by_cases e : v = w
        · rw [e, hs2]
          unfold so
          rw [show j = Sn b N by omega]
        · exact hs1 v (by omega)
      · rintro s'' ⟨g1, g2⟩
        exact ⟨⟨by omega, by omega⟩, ⟨j + 1, by omega, by omega, g1, g2⟩, by dsimp only; omega⟩
      · have hj2 : j < Sn b N := by omega
        have hbn := Sn_lt hj2
        rw [hwf w (by omega), (ha j hj2).1, (ha j hj2).2]
        have i1 := sg_le (sBg_sec b N j) (wBg_sec (show w < Wn b N by omega))
        have i2 := sg_le (sEn_sec hbn) (wBg_sec (show w < Wn b N by omega))
        have i3 := so_iff (show w < Wn b N by omega) hj2
        have stay : ¬ soN b N w = j → (∀ v, v < w → s' v = so b N v) ∧ s' w = (if soN b N w < j + 1 then (soN b N w : Int) else -1) := by
          intro hne
          refine ⟨hs1, ?_⟩
          rw [hs2]
          by_cases e : soN b N w < j
          · rw [if_pos e, if_pos (by omega)]
          · rw [if_neg e, if_neg (by omega)]
        refine ⟨fun h3 => stay ?_, fun h3 => ⟨⟨by omega, by omega⟩, ⟨by omega, by omega⟩, fun h4 => stay ?_, fun h4 => ⟨⟨by omega, by omega⟩, fun v hv => ?_, ?_⟩⟩⟩
        · intro e
          have := i3.mpr e
          omega
        · intro e
          have := i3.mpr e
          omega
        · rw [uI_n (by omega) (by omega)]; exact hs1 v hv
        · have e := i3.mp (by omega)
          rw [uI_e rfl, if_pos (by omega), e]
  · refine ⟨fun x => ∃ t : Nat, x = t ∧ t ≤ sgn b N N ∧ fnb b N (ps b N t) = sBg b N k, fun x => sgn b N N - x.toNat, ⟨t, rfl, ht, hf⟩, ?_⟩
    rintro x ⟨t, rfl, ht, hf⟩
    refine b_Mblk hN hp hm ht ⟨fun h2 => ⟨fun h3 => ?_, fun h3 => ?_⟩, fun h2 => ?_⟩
    · have ht : t < sgn b N N := by omega
      have h1 := ps_lt ht
      have h2 := bI_0 h2
      rw [atv_n h1.1] at h2
      have e1 : ps b N t = sBg b N k := by
        rw [← hf]
        exact (sk_stop (p := bkp b) h2).symm
      have hbN : sBg b N k < N := by omega
      have h5 := sEn_b hbN
      refine b_MendOf hB hp hm (by omega) fun u hu eu => ⟨⟨by omega, by omega⟩, ⟨by omega, by omega⟩, ?_⟩
      rw [e1] at eu
      refine ⟨fun to' => (∀ j, j < k → to' j = sgn b N (sEn b N j)) ∧ ∃ v : Nat, to' k = v ∧ v ≤ sgn b N N ∧ trm b (sBg b N k) (ps b N v) = sEn b N k ∧ sBg b N k < ps b N v, fun to' => (to' k).toNat, ⟨fun j hj => ?_, u, uI_e rfl, hu, by rw [eu]; rfl, by omega⟩, ?_⟩
      · rw [uI_n (by omega) (by omega)]; exact (ha j hj).2
      rintro to' ⟨ht1, v, ev, hv, etr, hlt⟩
      have hv1 : 1 ≤ v := by
        rcases Nat.eq_zero_or_pos v with e | e
        · rw [e, ps_0] at hlt; omega
        · exact e
      have hv2 := ps_lt (show v - 1 < sgn b N N by omega)
      rw [Int.toNat_natCast, ev, show (v : Int) - 1 = ((v - 1 : Nat) : Int) by omega]
      refine ⟨⟨by omega, by omega⟩, ⟨by omega, by omega⟩, b_Mblk hN hp hm (by omega) ?_⟩
      rw [atv_n hv2.1]
      have hpv := ps_prev hv1 hv
      refine ⟨fun h6 => ⟨⟨by omega, by omega⟩, ⟨k + 1, u, by omega, rfl, by omega, hu, ?_, ?_, fun j hj => ?_⟩, by dsimp only; omega⟩, fun h6 => ⟨⟨by omega, by omega⟩, ⟨by omega, by omega⟩, ⟨by omega, by omega⟩, ⟨fun j hj => ?_, v - 1, uI_e rfl, by omega, ?_, ?_⟩, ?_⟩⟩
      · rw [eu]; rfl
      · have := Sn_ge (show k < 14 by omega) hbN
        omega
      · by_cases ej : j = k
        · have esame : sEn b N k = ps b N v := by
            rw [← etr]
            refine trm_same hlt ?_
            rcases hpv with ⟨_, g⟩ | ⟨g1, g⟩
            · rw [g, Nat.add_sub_cancel]; exact bI_0 h6
            · have := sec_ge g1
              exact decide_eq_false (by omega)
          rw [ej, uI_e rfl, ev, esame, ← e1, sgn_ps (by omega), sgn_ps hv]
          exact ⟨rfl, rfl⟩
        · rw [uI_n (by omega) (by omega)]
          exact ⟨(ha j (by omega)).1, ht1 j (by omega)⟩
      · rw [uI_n (by omega) (by omega)]; exact ht1 j hj
      · have h6 := bI_1 h6
        have g : ps b N v = ps b N (v - 1) + 1 := by
          rcases hpv with ⟨_, g⟩ | ⟨g1, g⟩
          · exact g
          · have g2 := sec_ge g1
            rw [show ps b N v - 1 - 1 = ps b N (v - 1) by omega] at g2
            have := of_decide_eq_true h6
            omega
        rw [← etr, g]
        show _ = (if ps b N (v - 1) + 1 ≤ sBg b N k then ps b N (v - 1) + 1 else if blk (b (ps b N (v - 1))) then trm b (sBg b N k) (ps b N (v - 1)) else ps b N (v - 1) + 1)
        rw [if_neg (by omega), if_pos h6]
      · have h6 := bI_1 h6
        have hne : ¬ ps b N (v - 1) = sBg b N k := by
          intro e
          rw [e, sBg_nb hbN] at h6
          cases h6
        rcases hpv with ⟨_, g⟩ | ⟨g1, g⟩
        · omega
        · have g2 := sec_ge g1
          rw [show ps b N v - 1 - 1 = ps b N (v - 1) by omega] at g2
          have := of_decide_eq_true h6
          omega
      · dsimp only
        rw [uI_e rfl, ev]
        omega
    · rw [ps_ge (by omega)] at hf
      have hf2 : fnb b N N = N := sk_end (Nat.le_refl _)
      rw [hf2] at hf
      show k = Sn b N
      rcases Nat.lt_or_ge k (Sn b N) with e | e
      · have := Sn_lt e; omega
      · omega
    · have h2 := bI_1 h2
      have hu2 : t < sgn b N N := by
        by_cases h : t < sgn b N N
        · exact h
        · rw [ps_ge (by omega), atv_o (.inr (Int.le_refl _))] at h2
          cases h2
      have hu3 := ps_lt hu2
      rw [atv_n hu3.1] at h2
      have e3 : ps b N (t + 1) = ps b N t + 1 := by
        refine ps_1 hu2 ?_
        cases e : sec b N (ps b N t + 1)
        · rfl
        · have g := sec_ge e
          rw [Nat.add_sub_cancel] at g
          have := of_decide_eq_true h2
          omega
      refine ⟨⟨by omega, by omega⟩, ⟨t + 1, by omega, by omega, ?_⟩, by dsimp only; omega⟩
      rw [e3, ← hf]
      exact (sk_step (p := bkp b) hu3.1 h2).symm
