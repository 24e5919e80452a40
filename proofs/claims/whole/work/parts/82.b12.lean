/-! B12: matches as the reference lays them -/
theorem sm_ran {c : Int} (h : 97 ≤ smv c ∧ smv c ≤ 122) : c < 128 := by
  unfold smv at h
  split at h <;> omega
/-- a run of plain letters -/
theorem pl_run {b : Nat → Int} {N p : Nat} (hp : sec b N p = false) : ∀ i, (∀ j, j < i → 97 ≤ smv (b (p + j)) ∧ smv (b (p + j)) ≤ 122) → sgn b N (p + i) = sgn b N p + i ∧ sec b N (p + i) = false
  | 0, _ => ⟨rfl, hp⟩
  | i + 1, h => by
    obtain ⟨h1, h2⟩ := pl_run hp i (fun j hj => h j (by omega))
    have h3 := sm_ran (h i (by omega))
    refine ⟨?_, ?_⟩
    · rw [show p + (i + 1) = p + i + 1 by omega]
      unfold sgn at *
      rw [cn_t (show nsc b N (p + i) = true by unfold nsc; rw [h2]; rfl), h1]
      omega
    · cases e : sec b N (p + (i + 1))
      · rfl
      · have h4 := sec_ge e
        rw [show p + (i + 1) - 1 = p + i by omega] at h4
        omega
theorem fit_sgn {b : Nat → Int} {N : Nat} {tz : Nat → Nat} {lt : Nat → Int} {st : Nat → Bool} {r w : Nat} (hw : w < Wn b N) (hl : ∀ i, i < tz r → 97 ≤ lt (12 * r + i) ∧ lt (12 * r + i) ≤ 122) (h : fit b N tz lt st r w = true) : sgn b N (wBg b N w) + tz r ≤ sgn b N (wEn b N w) ∧ (st r = false → sgn b N (wEn b N w) = sgn b N (wBg b N w) + tz r) := by
  have h1 := fit_iff.mp h
  have h2 := pl_run (wBg_sec hw) (tz r) (fun j hj => by rw [h1.2.2 j hj]; exact hl j hj)
  have h3 := wd_lt hw
  have h4 := sgn_mono (b := b) (N := N) (show wBg b N w + tz r ≤ wEn b N w by omega)
  refine ⟨by omega, fun hs => ?_⟩
  rw [hs] at h1
  rcases h1.2.1 with g | g
  · rw [show wEn b N w = wBg b N w + tz r by omega]; exact h2.1
  · cases g
theorem b_MfitsOne {b pg sa wf wt mz mst ml : Nat → Int} {N : Nat} {tz : Nat → Nat} {lt : Nat → Int} {st : Nat → Bool} {k t w : Nat} {Q : Int → Prop} (hB : Byt b N) (hp : PgE b N pg) (hm : MsA b N sa) (hW : MwA b N wf wt) (hw : w < Wn b N) (hr : 4 * k + t < 32) (hz : mz (4 * k + t) = tz (4 * k + t)) (hz2 : tz (4 * k + t) ≤ 12) (hs : mst (4 * k + t) = bI (st (4 * k + t))) (hl : ∀ i, i < tz (4 * k + t) → ml (12 * (4 * k + t) + i) = lt (12 * (4 * k + t) + i) ∧ 97 ≤ lt (12 * (4 * k + t) + i) ∧ lt (12 * (4 * k + t) + i) ≤ 122) (hq : Q (bI (fit b N tz lt st (4 * k + t) w))) : wp_M_fitsOne pg sa wf wt mz mst ml (sgn b N N) k t w Q := by
  have hN := hB.1
  have v1 := wd_lt hw
  have v2 := hW w hw
  have v3 := wd_e hw
  have s1 := sgn_le b N (wEn b N w)
  have s2 := sgn_mono (b := b) (N := N) (show wBg b N w ≤ wEn b N w by omega)
  have s3 := sgn_mono (b := b) (N := N) (show wEn b N w ≤ N by omega)
  have s4 := cn_lip (nsc b N) (show wBg b N w ≤ wEn b N w by omega)
  have s4 : sgn b N (wEn b N w) ≤ sgn b N (wBg b N w) + (wEn b N w - wBg b N w) := s4
  unfold wp_M_fitsOne
  rw [show 4 * (k : Int) + (t : Int) = ((4 * k + t : Nat) : Int) by omega]
  simp only [Int.toNat_natCast]
  rw [v2.1, v2.2, hz, hs]
  have hk4 : rng (4 * (k : Int)) := ⟨by omega, by omega⟩
  generalize 4 * k + t = r at *
  have fs9 := fun h => fit_sgn (st := st) hw (fun i hi => (hl i hi).2) h
  refine ⟨hk4, ⟨by omega, by omega⟩, ⟨by omega, by omega⟩, ⟨by omega, by omega⟩, ⟨by omega, by omega⟩, ⟨by omega, by omega⟩, ?_⟩
  refine ⟨fun y => (y = 0 ∧ fit b N tz lt st r w = false) ∨ (y = 1 ∧ sgn b N (wBg b N w) + tz r ≤ sgn b N (wEn b N w) ∧ (st r = false → sgn b N (wEn b N w) = sgn b N (wBg b N w) + tz r)), ?_, fun h => ⟨⟨by omega, by omega⟩, fun h2 => .inl ⟨rfl, ?_⟩, fun h2 => .inr ⟨rfl, by omega, fun _ => by omega⟩⟩, fun h => ⟨⟨by omega, by omega⟩, fun h2 => .inl ⟨rfl, ?_⟩, fun h2 => .inr ⟨rfl, by omega, fun h3 => ?_⟩⟩⟩
  · intro y hy
    refine ⟨fun x2 x3 => (x2 = 0 ∧ fit b N tz lt st r w = false) ∨ (x2 = 1 ∧ (sgn b N (wBg b N w) + tz r ≤ sgn b N (wEn b N w) ∧ (st r = false → sgn b N (wEn b N w) = sgn b N (wBg b N w) + tz r)) ∧ ∃ i : Nat, x3 = i ∧ i ≤ tz r ∧ ∀ j, j < i → smv (b (wBg b N w + j)) = lt (12 * r + j)), fun x2 x3 => if x2 = 0 then 0 else tz r + 1 - x3.toNat, ?_, ?_⟩
    · rcases hy with ⟨rfl, h⟩ | ⟨rfl, h⟩
      · exact .inl ⟨rfl, h⟩
      · exact .inr ⟨rfl, h, 0, rfl, by omega, fun j hj => by omega⟩
    · rintro x2 x3 (⟨rfl, h⟩ | ⟨rfl, hc, i, rfl, hi, ha⟩)
      · exact ⟨fun _ => ⟨⟨by omega, by omega⟩, qe hq (by rw [h]; rfl)⟩, fun h2 => absurd rfl h2⟩
      · refine ⟨fun h2 => absurd h2 (by decide), fun _ => ⟨⟨by omega, by omega⟩, fun h3 => ⟨⟨by omega, by omega⟩, qe hq ?_⟩, fun h3 => ⟨⟨by omega, by omega⟩, ⟨by omega, by omega⟩, ?_⟩⟩⟩
        · have e : i = tz r := by omega
          subst e
          have g := pl_run (wBg_sec hw) (tz r) (fun j hj => by rw [ha j hj]; exact (hl j hj).2)
          refine bI_yes fit_iff ⟨by omega, ?_, ha⟩
          cases es : st r
          · left
            rcases Nat.lt_or_ge (wBg b N w + tz r) (wEn b N w) with e2 | e2
            · have := sgn_lt g.2 e2
              have := hc.2 es
              omega
            · omega
          · right; rfl
        · have g := pl_run (wBg_sec hw) i (fun j hj => by rw [ha j hj]; exact (hl j (by omega)).2)
          have hlt : wBg b N w + i < wEn b N w := by
            rcases Nat.lt_or_ge (wBg b N w + i) (wEn b N w) with e | e
            · exact e
            · have := sgn_mono (b := b) (N := N) e
              omega
          have hps : ps b N (sgn b N (wBg b N w) + i) = wBg b N w + i := by rw [← g.1]; exact ps_sgn (by omega) g.2
          have hat : atv b N (ps b N (sgn b N (wBg b N w) + i)) = b (wBg b N w + i) := by rw [hps, atv_n (by omega)]
          have hbt := hB.2 (wBg b N w + i) (by omega)
          have hli := hl i (by omega)
          rw [show ((sgn b N (wBg b N w) : Nat) : Int) + (i : Int) = ((sgn b N (wBg b N w) + i : Nat) : Int) by omega]
          refine b_pln hN hp hm (by omega) fun c hcc => ?_
          rw [hat] at hcc
          refine b_Msmall (by omega) ⟨⟨by omega, by omega⟩, ⟨by omega, by omega⟩, ⟨by omega, by omega⟩, ?_⟩
          rw [show (12 * (r : Int) + (i : Int)).toNat = 12 * r + i by omega, hli.1]
          have hiff : smv c = lt (12 * r + i) ↔ smv (b (wBg b N w + i)) = lt (12 * r + i) := by
            rcases hcc with ⟨rfl, _⟩ | ⟨rfl, h192, _⟩
            · exact Iff.rfl
            · have e1 : smv (-1) = -1 := rfl
              have e2 : smv (b (wBg b N w + i)) = b (wBg b N w + i) := by unfold smv; rw [if_neg (by omega)]
              rw [e1, e2]
              omega
          refine jn1_i ⟨fun h4 => ⟨⟨by omega, by omega⟩, .inl ⟨rfl, ?_⟩, ?_⟩, fun h4 => ⟨⟨by omega, by omega⟩, .inr ⟨rfl, hc, i + 1, by omega, by omega, fun j hj => ?_⟩, ?_⟩⟩
          · cases ef : fit b N tz lt st r w
            · rfl
            · exact absurd (hiff.mpr ((fit_iff.mp ef).2.2 i (by omega))) h4
          · dsimp only
            rw [if_pos rfl, if_neg (by decide)]
            omega
          · by_cases e : j = i
            · rw [e]; exact hiff.mp h4
            · exact ha j (by omega)
          · dsimp only
            rw [if_neg (by decide), if_neg (by decide)]
            omega
  · cases ef : fit b N tz lt st r w
    · rfl
    · have h5 := fs9 ef
      have h6 := h5.2 (bI_0 h)
      omega
  · cases ef : fit b N tz lt st r w
    · rfl
    · have h5 := fs9 ef
      omega
  · rw [h3] at h; exact absurd rfl h
/-- what is sought, as the reference keeps it -/
def MqA (I : Nat) (wt tc tz : Nat → Nat) (lt : Nat → Int) (st sf : Nat → Bool) (mw mt mz ml ms mf : Nat → Int) : Prop :=
  I ≤ 8 ∧ ∀ k, k < I → (mw k = wt k ∧ 1 ≤ wt k ∧ wt k ≤ 9) ∧ (mt k = tc k ∧ 1 ≤ tc k ∧ tc k ≤ 4) ∧ mf k = bI (sf k) ∧ ∀ t, t < tc k → (mz (4 * k + t) = tz (4 * k + t) ∧ 1 ≤ tz (4 * k + t) ∧ tz (4 * k + t) ≤ 12) ∧ ms (4 * k + t) = bI (st (4 * k + t)) ∧ ∀ i, i < tz (4 * k + t) → ml (12 * (4 * k + t) + i) = lt (12 * (4 * k + t) + i) ∧ 97 ≤ lt (12 * (4 * k + t) + i) ∧ lt (12 * (4 * k + t) + i) ≤ 122
theorem b_MmatchesAt {b pg sa wf wt so0 mw mt mz ml ms mf : Nat → Int} {N I : Nat} {wt0 tc tz : Nat → Nat} {lt : Nat → Int} {st sf : Nat → Bool} {k w : Nat} {Q : Int → Prop} (hB : Byt b N) (hp : PgE b N pg) (hm : MsA b N sa) (hW : MwA b N wf wt) (hS : ∀ w, w < Wn b N → so0 w = so b N w) (hY : MqA I wt0 tc tz lt st sf mw mt mz ml ms mf) (hw : w < Wn b N) (hk : k < I) (hq : Q (bI (mch b N tc tz lt st k w))) : wp_M_matchesAt pg sa wf wt so0 mt mz ms ml (sgn b N N) (Wn b N) k w Q := by
  have hI := hY.1
  obtain ⟨_, ⟨y1, y2, y3⟩, _, y4⟩ := hY.2 k hk
  have h14 := Sn_le b N
  have h100 : Wn b N ≤ 100 := by unfold Wn; omega
  have hws := hS w hw
  unfold wp_M_matchesAt
  simp only [Int.toNat_natCast]
  rw [hws, y1]
  have hfl := fW_le b N (soN b N w + 1)
  refine ⟨⟨by omega, by omega⟩, ⟨by omega, by omega⟩, ⟨by omega, by omega⟩, fun h => qe hq ?_, fun h => ⟨⟨by omega, by omega⟩, fun h2 => ?_, fun h2 => qe hq ?_⟩⟩
  · exact bI_not mch_iff fun hh => by omega
  · have hSn : soN b N w < Sn b N := by
      rcases Nat.lt_or_ge (soN b N w) (Sn b N) with e | e
      · exact e
      · exfalso; apply h2; unfold so; rw [if_neg (by omega)]
    have hso : so b N w = (soN b N w : Int) := by unfold so; rw [if_pos hSn]
    refine ⟨fun x => ∃ t : Nat, x = t ∧ t ≤ tc k ∧ ∀ j, j < t → soN b N (w + j) = soN b N w ∧ fit b N tz lt st (4 * k + j) (w + j) = true, fun x => tc k - x.toNat, ⟨0, rfl, by omega, fun j hj => by omega⟩, ?_⟩
    rintro x ⟨t, rfl, htc, ht⟩
    refine ⟨⟨by omega, by omega⟩, fun h3 => qe hq ?_, fun h3 => ⟨⟨by omega, by omega⟩, ?_⟩⟩
    · refine bI_yes mch_iff ⟨hw, hSn, ?_, fun j hj => (ht j (by omega)).2⟩
      have h4 := (ht (tc k - 1) (by omega)).1
      have h5 := (fW_iff (b := b) (N := N) (w := w + (tc k - 1)) (k := soN b N w + 1) (by omega)).mpr (by omega)
      omega
    · rw [show (w : Int) + (t : Int) = ((w + t : Nat) : Int) by omega]
      simp only [Int.toNat_natCast]
      rw [hS (w + t) (by omega)]
      have hso2 : so b N (w + t) = so b N w ↔ soN b N (w + t) = soN b N w := by
        rw [hso]
        unfold so
        have := soN_le b N (w + t)
        split <;> omega
      refine ⟨⟨by omega, by omega⟩, ⟨by omega, by omega⟩, fun h4 => qe hq ?_, fun h4 => ⟨⟨by omega, by omega⟩, ?_⟩⟩
      · refine bI_not mch_iff fun hh => h4 (hso2.mpr ?_)
        have h5 := (fW_iff (b := b) (N := N) (w := w + t) (k := soN b N w + 1) (by omega)).mp (by omega)
        have h6 := soN_mono (b := b) (N := N) (show w ≤ w + t by omega) (by omega)
        omega
      · obtain ⟨z1, z2, z3⟩ := y4 t (by omega)
        refine b_MfitsOne hB hp hm hW (by omega) (by omega) z1.1 z1.2.2 z2 z3 ⟨fun h5 => ⟨⟨by omega, by omega⟩, ⟨t + 1, by omega, by omega, fun j hj => ?_⟩, by (try dsimp only); omega⟩, fun h5 => qe hq ?_⟩
        · by_cases e : j = t
          · rw [e]; exact ⟨hso2.mp h4, bI_1 h5⟩
          · exact ht j (by omega)
        · refine bI_not mch_iff fun hh => ?_
          have := hh.2.2.2 t (by omega)
          rw [bI_0 h5] at this
          cases this
  · refine bI_not mch_iff fun hh => ?_
    unfold so at h2
    rw [if_pos hh.2.1] at h2
    omega
/-- the matches in their order, as the reference lists them -/
def MmA (W I : Nat) (tc : Nat → Nat) (R : Nat → Nat → Bool) (mi mf ml im : Nat → Int) : Prop :=
  (∀ m, m < cn (mpq I R) (8 * W) → mi m = (nt (mpq I R) (8 * W) m % 8 : Nat) ∧ mf m = (nt (mpq I R) (8 * W) m / 8 : Nat) ∧ ml m = (nt (mpq I R) (8 * W) m / 8 + tc (nt (mpq I R) (8 * W) m % 8) - 1 : Nat)) ∧ ∀ k w, k < I → w < W → im (100 * k + w) = bI (R k w)
theorem b_MMatches {b pg sa wf wt so0 mw mt mz ml ms mf mi mf9 ml9 im : Nat → Int} {N I : Nat} {wt0 tc tz : Nat → Nat} {lt : Nat → Int} {st sf : Nat → Bool} {z1 z2 z3 : Int} {Q : (Nat → Int) → (Nat → Int) → (Nat → Int) → (Nat → Int) → Int → Int → Int → Prop} (hB : Byt b N) (hp : PgE b N pg) (hm : MsA b N sa) (hW : MwA b N wf wt) (hS : ∀ w, w < Wn b N → so0 w = so b N w) (hY : MqA I wt0 tc tz lt st sf mw mt mz ml ms mf)
    (hq : ∀ mi' mf' ml' im', MmA (Wn b N) I tc (mch b N tc tz lt st) mi' mf' ml' im' → Q mi' mf' ml' im' (cn (mpq I (mch b N tc tz lt st)) (8 * Wn b N) : Nat) 0 0) : wp_M_laysMatches pg sa wf wt so0 mt mz ms ml mi mf9 ml9 im (sgn b N N) (Wn b N) I z1 z2 z3 Q := by
  have hI := hY.1
  have h100 : Wn b N ≤ 100 := by unfold Wn; omega
  unfold wp_M_laysMatches
  generalize hR : mch b N tc tz lt st = R at *
  have hmc := fun x => cn_le (mpq I R) x
  refine ⟨fun mi mf ml im m x => ∃ w : Nat, x = w ∧ w ≤ Wn b N ∧ m = (cn (mpq I R) (8 * w) : Nat) ∧ (∀ q, q < 8 * w → mpq I R q = true → mi (cn (mpq I R) q) = (q % 8 : Nat) ∧ mf (cn (mpq I R) q) = (q / 8 : Nat) ∧ ml (cn (mpq I R) q) = (q / 8 + tc (q % 8) - 1 : Nat)) ∧ ∀ k v, k < I → v < w → im (100 * k + v) = bI (R k v), fun _ _ _ _ _ x => Wn b N - x.toNat, ⟨0, rfl, by omega, rfl, fun q h => by omega, fun k v _ h => by omega⟩, ?_⟩
  rintro mi mf ml im m x ⟨w, rfl, hw, rfl, h1, h2⟩
  refine ⟨fun h => ?_, fun h => ?_⟩
  · have ew : w = Wn b N := by omega
    subst ew
    refine hq _ _ _ _ ⟨fun m hm => ?_, h2⟩
    have g := nt_spec hm
    have g2 := h1 _ g.1 g.2.1
    rw [g.2.2] at g2
    exact g2
  · refine ⟨fun mi mf ml im m x => ∃ k : Nat, x = k ∧ k ≤ I ∧ m = (cn (mpq I R) (8 * w + k) : Nat) ∧ (∀ q, q < 8 * w + k → mpq I R q = true → mi (cn (mpq I R) q) = (q % 8 : Nat) ∧ mf (cn (mpq I R) q) = (q / 8 : Nat) ∧ ml (cn (mpq I R) q) = (q / 8 + tc (q % 8) - 1 : Nat)) ∧ ∀ j v, j < I → v < w ∨ (v = w ∧ j < k) → im (100 * j + v) = bI (R j v), fun _ _ _ _ _ x => I - x.toNat, ⟨0, rfl, by omega, rfl, h1, fun j v hj hv => h2 j v hj (by omega)⟩, ?_⟩
    rintro mi mf ml im m x ⟨k, rfl, hk, rfl, h1, h2⟩
    have hk1 := hmc (8 * w + k)
    refine ⟨fun h3 => ⟨⟨by omega, by omega⟩, ⟨w + 1, by omega, by omega, ?_, fun q hq2 hq3 => ?_, fun j v hj hv => h2 j v hj (by omega)⟩, by (try dsimp only); omega⟩, fun h3 => ⟨⟨by omega, by omega⟩, ⟨by omega, by omega⟩, b_MmatchesAt hB hp hm hW hS hY (by omega) (by omega) ?_⟩⟩
    · rw [mpq_end hI, show k = I by omega]
    · refine h1 q ?_ hq3
      rcases Nat.lt_or_ge q (8 * w + k) with e | e
      · exact e
      · exfalso
        unfold mpq at hq3
        rw [decide_eq_false (by omega)] at hq3
        cases hq3
    · rw [hR]
      obtain ⟨y1, y2, y3⟩ := (hY.2 k (by omega)).2.1
      have hix : (100 * (k : Int) + (w : Int)) = ((100 * k + w : Nat) : Int) := by omega
      rw [hix]
      simp only [Int.toNat_natCast]
      rw [y1, uI_e rfl]
      have him : ∀ j v, j < I → v < w ∨ (v = w ∧ j < k + 1) → uI im ((100 * k + w : Nat) : Int) (bI (R k w)) (100 * j + v) = bI (R j v) := by
        intro j v hj hv
        by_cases e : j = k ∧ v = w
        · rw [e.1, e.2, uI_e rfl]
        · rw [uI_n (by omega) (by omega)]; exact h2 j v hj (by omega)
      refine ⟨⟨⟨by omega, by omega⟩, bI_b _⟩, ⟨by omega, by omega⟩, ⟨by omega, by omega⟩, ⟨by omega, by omega⟩, jn4_i ⟨fun h4 => ?_, fun h4 => ?_⟩⟩
      · have h5 : mpq I R (8 * w + k) = true := by rw [mpq_at (by omega), decide_eq_true (by omega), bI_1 h4]; rfl
        have h6 := cn_t h5
        refine ⟨⟨by omega, by omega⟩, ⟨by omega, by omega⟩, ⟨by omega, by omega⟩, ⟨by omega, by omega⟩, ⟨by omega, by omega⟩, ⟨by omega, by omega⟩, ⟨by omega, by omega⟩, ⟨by omega, by omega⟩, ⟨k + 1, by omega, by omega, ?_, fun q hq2 hq3 => ?_, him⟩, by (try dsimp only); omega⟩
        · rw [← Nat.add_assoc, h6]; omega
        · by_cases e : q = 8 * w + k
          · rw [e, uI_e rfl, uI_e rfl, uI_e rfl, show (8 * w + k) % 8 = k by omega, show (8 * w + k) / 8 = w by omega]
            exact ⟨rfl, rfl, by omega⟩
          · have hlt := cn_lt hq3 (show q < 8 * w + k by omega)
            rw [uI_n (by omega) (by omega), uI_n (by omega) (by omega), uI_n (by omega) (by omega)]
            exact h1 q (by omega) hq3
      · have h5 : mpq I R (8 * w + k) = false := by rw [mpq_at (by omega), bI_0 h4, Bool.and_false]
        refine ⟨⟨by omega, by omega⟩, ⟨k + 1, by omega, by omega, ?_, fun q hq2 hq3 => ?_, him⟩, by (try dsimp only); omega⟩
        · rw [← Nat.add_assoc, cn_f h5]
        · refine h1 q ?_ hq3
          rcases Nat.lt_or_ge q (8 * w + k) with e | e
          · exact e
          · exfalso
            have : q = 8 * w + k := by omega
            rw [this, h5] at hq3
            cases hq3
theorem b_MendsAt {W I : Nat} {tc : Nat → Nat} {R : Nat → Nat → Bool} {mi mf ml im mt : Nat → Int} {k w a : Nat} {Q : Int → Prop} (hW : W ≤ 100) (hI : I ≤ 8) (hM : MmA W I tc R mi mf ml im) (hk : k < I) (ht : mt k = tc k ∧ 1 ≤ tc k ∧ tc k ≤ 4) (hw : w < W) (hq : Q (bI (decide (a + tc k ≤ w + 1) && R k (w + 1 - tc k)))) : wp_M_endsAt mt im k w a Q := by
  unfold wp_M_endsAt
  simp only [Int.toNat_natCast]
  rw [ht.1]
  refine ⟨⟨by omega, by omega⟩, ⟨by omega, by omega⟩, ⟨by omega, by omega⟩, fun h => qe hq ?_, fun h => ⟨⟨by omega, by omega⟩, ⟨by omega, by omega⟩, ⟨by omega, by omega⟩, ?_⟩⟩
  · rw [decide_eq_false (by omega)]; rfl
  · rw [show (100 * (k : Int) + ((w : Int) - (tc k : Int) + 1)).toNat = 100 * k + (w + 1 - tc k) by omega, hM.2 k _ hk (by omega)]
    rw [decide_eq_true (by omega), Bool.true_and] at hq
    cases e : R k (w + 1 - tc k) <;> rw [e] at hq
    · exact ⟨fun _ => hq, fun h => absurd rfl h⟩
    · exact ⟨fun h => absurd h (by decide), fun _ => hq⟩
