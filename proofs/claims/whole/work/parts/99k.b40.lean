/-! B40: the reference quotes: borders -/
def SF (b : Nat → Int) (N k : Nat) : Nat := sgn b N (sBg b N k)
def SE (b : Nat → Int) (N k : Nat) : Nat := sgn b N (sEn b N k)
def Bd (b : Nat → Int) (N c : Nat) : Prop := ∃ k, k < Sn b N ∧ (c = SF b N k ∨ c = SE b N k)
theorem sf_se {b : Nat → Int} {N k : Nat} (h : k < Sn b N) : SF b N k < SE b N k := sgn_lt (sBg_sec b N k) (sEn_b (Sn_lt h)).1
theorem se_sf {b : Nat → Int} {N k j : Nat} (h : k < j) (hj : j < Sn b N) : SE b N k ≤ SF b N j := sgn_mono (sBg_lt h (Sn_lt hj))
theorem bd_no {b : Nat → Int} {N c k : Nat} (h : Bd b N c) (hk : k < Sn b N) : ¬ (SF b N k < c ∧ c < SE b N k) := by
  rintro ⟨g1, g2⟩
  obtain ⟨j, hj, e⟩ := h
  have a := sf_se hj
  rcases Nat.lt_trichotomy j k with g | g | g
  · have := se_sf g hk
    omega
  · subst g; omega
  · have := se_sf g hj
    omega
theorem wd_sn {b : Nat → Int} {N w : Nat} (hw : w < Wn b N) (h : soN b N w < Sn b N) : SF b N (soN b N w) ≤ FN b N w ∧ TN b N w ≤ SE b N (soN b N w) := ⟨sgn_mono (so_in hw h).1, sgn_mono (wEn_sEn hw h)⟩
theorem PrP_q {b : Nat → Int} {N x c : Nat} {f l : Int} (hx : Bd b N x ∨ ∀ w : Nat, f ≤ (w : Int) → w < Wn b N → x < TN b N w) (hc : Bd b N c ∨ ∀ w : Nat, (w : Int) < l → w + 1 < Wn b N → FN b N (w + 1) < c) (hl : l < (Wn b N : Int)) (hno : ∀ d, Bd b N d → x < d → c ≤ d) : PrP b N x c f l := by
  refine ⟨fun w hw h1 h2 => ?_, fun w y hf hwl hs he h1 h2 h3 h4 => ?_⟩
  · have hw0 : w < Wn b N := by omega
    have hmo := soN_mono (b := b) (N := N) (show w ≤ w + 1 by omega) hw
    have hle := soN_le b N (w + 1)
    by_cases a : soN b N (w + 1) < Sn b N
    · by_cases e : soN b N w = soN b N (w + 1)
      · unfold so; rw [e]
      · exfalso
        have s1 := wd_sn hw0 (by omega)
        have s2 := wd_sn hw a
        have s3 := se_sf (b := b) (N := N) (show soN b N w < soN b N (w + 1) by omega) a
        have := hno _ ⟨_, a, .inl rfl⟩ (by omega)
        omega
    · by_cases e : soN b N w < Sn b N
      · exfalso
        have s1 := wd_sn hw0 e
        have o1 := so_in hw0 e
        have o2 := wd_next (show w < w + 1 by omega) hw
        have o3 := wd_lt hw0
        have s4 : SE b N (soN b N w) ≤ FN b N (w + 1) := by
          refine sgn_mono ?_
          rcases Nat.lt_or_ge (wBg b N (w + 1)) (sEn b N (soN b N w)) with g | g
          · have := (so_iff (k := soN b N w) hw e).mp ⟨by omega, g⟩
            omega
          · exact g
        have := hno _ ⟨_, e, .inr rfl⟩ (by omega)
        omega
      · unfold so; rw [if_neg e, if_neg a]
  · have hw : w + 1 < Wn b N := by omega
    have hw0 : w < Wn b N := by omega
    have e1 : soN b N (w + 1) = soN b N w := by
      refine (so_eq hs).mp ?_
      rw [← he]
      exact (so_eq hs).mpr rfl
    have s1 := wd_sn hw0 hs
    have s2 := wd_sn hw (by rw [e1]; exact hs)
    rw [e1] at s2
    have t1 := (FN_str (b := b) (N := N) (show w < w + 1 by omega) hw)
    have t2 := (FN_m (b := b) (N := N) (Nat.le_refl (w + 1)) hw).2.2
    refine ⟨?_, ?_⟩
    · rcases hx with g | g
      · rcases Nat.lt_or_ge x (TN b N w) with g2 | g2
        · exact g2
        · exact absurd ⟨by omega, by omega⟩ (bd_no g hs)
      · exact g w hf hw0
    · rcases hc with g | g
      · rcases Nat.lt_or_ge (FN b N (w + 1)) c with g2 | g2
        · exact g2
        · exact absurd ⟨by omega, by omega⟩ (bd_no g hs)
      · exact g w hwl hw
theorem mrk_in {b : Nat → Int} {N I f l i : Nat} {tc : Nat → Nat} {R : Nat → Nat → Bool} {sel : Nat → Bool} {qt : Nat → Int} (hT : TcA (Wn b N) I tc R qt) (hRs : ∀ k v, k < I → R k v = true → soN b N v < Sn b N ∧ v + tc k ≤ fW b N (soN b N v + 1)) (hl : l < Wn b N) (h : mrk b N I tc R sel f l i = true) : ∃ k, k < Sn b N ∧ sBg b N k ≤ i ∧ i < sEn b N k := by
  unfold mrk at h
  rw [pB_iff] at h
  have ht := fun k (hk : k < I) => (hT.2.1 k hk).2
  have ins : ∀ k v u, k < I → R k v = true → v ≤ u → u ≤ v + tc k - 1 → v + tc k ≤ Wn b N → soN b N u = soN b N v ∧ soN b N v < Sn b N := by
    intro k v u hk hR h1 h2 h3
    have := ht k hk
    have g := hRs k v hk hR
    have g2 := (fW_iff (b := b) (N := N) (w := u) (k := soN b N v + 1) (by omega)).mp (by omega)
    have g3 := soN_mono (b := b) (N := N) h1 (by omega)
    omega
  have Rof : ∀ k v, Rf R f k v = true → R k v = true := fun k v g => by
    unfold Rf at g; rw [Bool.and_eq_true] at g; exact g.1
  rcases h with ⟨k, v, a1, a2, a3, a4, a5, a6⟩ | ⟨w, u1, u2, u3, u4, u5, u6, ⟨k, v, a1, a2, a3, a4, a5, a6⟩, _⟩
  · have := ht k a1
    have g1 := ins k v (v + tc k - 1) a1 (Rof _ _ a3) (by omega) (by omega) (by omega)
    have g2 := ins k v v a1 (Rof _ _ a3) (by omega) (by omega) (by omega)
    have o1 := so_in (show v < Wn b N by omega) g2.2
    have o2 := wEn_sEn (b := b) (N := N) (w := v + tc k - 1) (by omega) (by omega)
    rw [g1.1] at o2
    exact ⟨_, g1.2, by omega, by omega⟩
  · have := ht k a1
    have hw1 : w + 1 < Wn b N := by omega
    have hww := wd_lt (show w < Wn b N by omega)
    have vw : v ≤ w := by
      rcases Nat.lt_or_ge w v with g | g
      · have := (wEn_in (b := b) (N := N) (show w + 1 ≤ v by omega) (show v < Wn b N by omega)).2.2
        have := wd_next (show w < w + 1 by omega) hw1
        omega
      · exact g
    have we : w ≤ v + tc k - 1 := by
      rcases Nat.lt_or_ge (v + tc k - 1) w with g | g
      · have := wd_next g (show w < Wn b N by omega)
        omega
      · exact g
    have g1 := ins k v w a1 (Rof _ _ a3) vw we (by omega)
    have hs : soN b N w < Sn b N := by omega
    have e1 : soN b N (w + 1) = soN b N w := by
      refine (so_eq hs).mp ?_
      rw [← u3]
      exact (so_eq hs).mpr rfl
    have o1 := so_in (show w < Wn b N by omega) hs
    have o2 := so_in hw1 (by rw [e1]; exact hs)
    rw [e1] at o2
    exact ⟨_, hs, by omega, by omega⟩
/-- at a border no mark stands on one of its sides -/
theorem cut_z {b : Nat → Int} {N I f l c : Nat} {tc : Nat → Nat} {R : Nat → Nat → Bool} {qt : Nat → Int} (hT : TcA (Wn b N) I tc R qt) (hRs : ∀ k v, k < I → R k v = true → soN b N v < Sn b N ∧ v + tc k ≤ fW b N (soN b N v + 1)) (hl : l < Wn b N) (hc : Bd b N c) (hN : ps b N c < N) : (∀ (sel : Nat → Bool) (i : Nat), i + 1 = ps b N c → mrk b N I tc R sel f l i = false) ∨ ∀ sel : Nat → Bool, mrk b N I tc R sel f l (ps b N c) = false := by
  obtain ⟨k, hk, e | e⟩ := hc
  · left
    intro sel i hi
    have hk1 := Sn_lt hk
    have hp : ps b N c = sBg b N k := by rw [e]; exact ps_sgn (by omega) (sBg_sec b N k)
    cases h : mrk b N I tc R sel f l i
    · rfl
    · exfalso
      obtain ⟨j, hj, j1, j2⟩ := mrk_in hT hRs hl h
      rcases Nat.lt_trichotomy j k with g | g | g
      · have g1 := sBg_lt g hk1
        have g2 : sEn b N j = sBg b N k := by omega
        have g3 := sEn_blk (Sn_lt hj) (by omega)
        rw [g2, sBg_nb hk1] at g3
        cases g3
      · subst g; omega
      · have g1 := sBg_lt g (Sn_lt hj)
        have g2 := (sEn_b hk1).1
        omega
  · right
    intro sel
    have hk1 := Sn_lt hk
    have hp : ps b N c = sEn b N k := by rw [e]; exact ps_sgn (sEn_b hk1).2.1 (sEn_sec hk1)
    cases h : mrk b N I tc R sel f l (ps b N c)
    · rfl
    · exfalso
      obtain ⟨j, hj, j1, j2⟩ := mrk_in hT hRs hl h
      rw [hp] at j1 j2 hN
      rcases Nat.lt_trichotomy j k with g | g | g
      · have g1 := sBg_lt g hk1
        have g2 := (sEn_b hk1).1
        omega
      · subst g; omega
      · have g1 := sBg_lt g (Sn_lt hj)
        have g2 : sEn b N k = sBg b N j := by omega
        have g3 := sEn_blk hk1 (by omega)
        rw [g2, sBg_nb (Sn_lt hj)] at g3
        cases g3
/-- passages join where no mark goes on -/
theorem pas_0 (S T : Nat → Bool) (b : Nat → Int) (B : Nat) (st : WSt) : pas S T b B 0 st = st := stC_same false false st
theorem psg_cat {S T : Nat → Bool} {b : Nat → Int} {B m : Nat} {st : WSt} (h : (pv S B m = false ∧ pv T B m = false) ∨ (S (B + m) = false ∧ T (B + m) = false)) : ∀ n, psg S T b (B + m) (n + 1) (pas S T b B m st) = psg S T b B (m + (n + 1)) st
  | 0 => by
    show stE (b (B + m + 0)) (stC false false (S (B + m + 0)) (T (B + m + 0)) (stC (pv S B m) (pv T B m) false false (psg S T b B m st))) = stE (b (B + m)) (stC (pv S B m) (pv T B m) (S (B + m)) (T (B + m)) (psg S T b B m st))
    rw [Nat.add_zero]
    rcases h with ⟨h1, h2⟩ | ⟨h1, h2⟩
    · rw [h1, h2, stC_same]
    · rw [h1, h2, stC_same]
  | n + 1 => by
    show stE (b (B + m + (n + 1))) (stC (S (B + m + n)) (T (B + m + n)) (S (B + m + (n + 1))) (T (B + m + (n + 1))) (psg S T b (B + m) (n + 1) (pas S T b B m st))) = stE (b (B + (m + (n + 1)))) (stC (S (B + (m + n))) (T (B + (m + n))) (S (B + (m + (n + 1)))) (T (B + (m + (n + 1)))) (psg S T b B (m + (n + 1)) st))
    rw [psg_cat h n, Nat.add_assoc B m n, Nat.add_assoc B m (n + 1)]
theorem pas_cat {S T : Nat → Bool} {b : Nat → Int} {B m n : Nat} {st : WSt} (h : n = 0 ∨ (pv S B m = false ∧ pv T B m = false) ∨ (S (B + m) = false ∧ T (B + m) = false)) : pas S T b (B + m) n (pas S T b B m st) = pas S T b B (m + n) st := by
  cases n with
  | zero => rw [pas_0]; rfl
  | succ n =>
    have h := h.resolve_left (by omega)
    show stC (S (B + m + n)) (T (B + m + n)) false false (psg S T b (B + m) (n + 1) (pas S T b B m st)) = stC (S (B + (m + n))) (T (B + (m + n))) false false (psg S T b B (m + (n + 1)) st)
    rw [psg_cat h n, Nat.add_assoc B m n]
theorem b_Mborder {b fr to : Nat → Int} {N x : Nat} {Q : Int → Prop} (hF : MtA b N fr to) (hx : x < sgn b N N) (hq : ∀ c, (c = sgn b N N ∨ Bd b N c) → x < c → (∀ d, Bd b N d → x < d → c ≤ d) → Q (c : Nat)) : wp_M_borderBehind fr to (sgn b N N) (Sn b N) x Q := by
  have h14 := Sn_le b N
  unfold wp_M_borderBehind
  refine ⟨fun x1 => ∃ k : Nat, x1 = k ∧ k ≤ Sn b N ∧ ∀ j, j < k → SE b N j ≤ x, fun x1 => Sn b N - x1.toNat, ⟨0, rfl, by omega, fun j hj => by omega⟩, ?_⟩
  rintro _ ⟨k, rfl, hk, hj⟩
  refine ⟨fun h1 => hq _ (.inl rfl) hx ?_, fun h1 => ?_⟩
  · rintro d ⟨j, j1, j2⟩ hd
    have a := sf_se j1
    have := hj j (by omega)
    omega
  · have hk2 : k < Sn b N := by omega
    have e := hF k hk2
    have e1 : fr k = (SF b N k : Nat) := e.1
    have e2 : to k = (SE b N k : Nat) := e.2
    have a0 := sf_se hk2
    rw [Int.toNat_natCast, e1, e2]
    refine ⟨⟨by omega, by omega⟩, fun h2 => ⟨⟨by omega, by omega⟩, fun h3 => ⟨⟨by omega, by omega⟩, ⟨k + 1, by omega, by omega, fun j hj2 => ?_⟩, by (try dsimp only); omega⟩, fun h3 => ⟨⟨by omega, by omega⟩, hq _ (.inr ⟨k, hk2, .inr rfl⟩) (by omega) ?_⟩⟩, fun h2 => ⟨⟨by omega, by omega⟩, hq _ (.inr ⟨k, hk2, .inl rfl⟩) (by omega) ?_⟩⟩
    · by_cases ej : j = k
      · rw [ej]; omega
      · exact hj j (by omega)
    · rintro d ⟨j, j1, j2⟩ hd
      have a := sf_se j1
      rcases Nat.lt_trichotomy j k with g | g | g
      · have := hj j g; omega
      · subst g; omega
      · have := se_sf g j1; omega
    · rintro d ⟨j, j1, j2⟩ hd
      have a := sf_se j1
      rcases Nat.lt_trichotomy j k with g | g | g
      · have := hj j g; omega
      · subst g; omega
      · have := se_sf g j1; omega
