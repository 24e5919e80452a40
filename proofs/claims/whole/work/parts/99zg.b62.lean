/-! B62: set; unlike words and echo of the reference -/
theorem rq_sents {S : Nat} {a : Int} {K : Prop} {E : Nat → Prop} (hS : S ≤ 14) (hr : rng a) (h1 : ∀ set : Nat, a = set → set < 2 ^ S → K) (h2 : ¬ (0 ≤ a ∧ a < ((2 ^ S : Nat) : Int)) → E 3) : wp_Picker_requireSentences S a K E := by
  have hP := Nat.two_pow_pos S
  have hr2 : a < 2147483648 := hr.2
  unfold wp_Picker_requireSentences
  refine ⟨fun g => ?_, fun g => h2 ?_⟩
  · have h0 := us_neg hr (by omega) g
    obtain ⟨set, rfl⟩ : ∃ set : Nat, a = set := ⟨a.toNat, by omega⟩
    rw [b_ushr (show set < 2 ^ 31 by omega) (by omega)] at g
    exact h1 set rfl ((dv_0 hP).mp g)
  · intro hh
    obtain ⟨set, rfl⟩ : ∃ set : Nat, a = set := ⟨a.toNat, by omega⟩
    rw [b_ushr (show set < 2 ^ 31 by omega) (by omega)] at g
    exact g ((dv_0 hP).mpr (by omega))
theorem m_nosetS {S : Nat} {a th : Int} {K : Int → Int → Prop} (hS : S ≤ 14) (hr : rng a) (h1 : ∀ set : Nat, a = set → set < 2 ^ S → K 0 th) (h2 : ¬ (0 ≤ a ∧ a < ((2 ^ S : Nat) : Int)) → K 1 2) : jn1 (fun (J2 : Int → Prop) => jn0 (fun (J5 : Prop) => (a < 0 → J5) ∧ (¬ a < 0 → ((iShr a S) = 0 → J2 0) ∧ (¬ (iShr a S) = 0 → J5))) (J2 1)) (fun (y5 : Int) => wp_M_throwsIf th y5 2 (fun (r6 : Int) (th7 : Int) => K r6 th7)) := by
  have hP := Nat.two_pow_pos S
  have hr2 : a < 2147483648 := hr.2
  refine jn1_i ⟨¬ (0 ≤ a ∧ a < ((2 ^ S : Nat) : Int)), fun k => th_1 (h2 k), fun k => by omega, fun k => ⟨fun g => ?_, fun g => ?_⟩⟩
  · obtain ⟨set, rfl⟩ : ∃ set : Nat, a = set := ⟨a.toNat, by omega⟩
    rw [b_shr (show set < 2 ^ 31 by omega) (by omega)] at g
    exact th_0 (h1 set rfl ((dv_0 hP).mp g))
  · intro hh
    obtain ⟨set, rfl⟩ : ∃ set : Nat, a = set := ⟨a.toNat, by omega⟩
    rw [b_shr (show set < 2 ^ 31 by omega) (by omega)] at g
    exact g ((dv_0 hP).mpr (by omega))
def svl (S I : Nat) (wt le : Nat → Nat) (ta : Nat → Nat → Nat) (tk : Nat → Nat → Bool) (mo bu : Nat) (a : Int) (set : Nat) : Int := if a = 0 then (wZ S I wt ta set : Int) else if a = 1 then (lS S le set : Int) else if a = 2 then bI (may S le tk mo bu set) else (bs (fun k => decide (0 < sS S (fun s => ta s k) set)) I : Nat)
theorem b_set {S I mo bu : Nat} {wt le : Nat → Nat} {ta : Nat → Nat → Nat} {tk : Nat → Nat → Bool} {qw ss tl : Nat → Int} {tal9 : Nat → Int64} {a1 a2 : Int} {Q : Int → Prop} {E : Nat → Prop} (hr : rng a1) (hw : QwA I wt qw) (hT : TaA S ta tal9) (hL : LeA S le ss) (hK : TkA S tk tl)
    (h1 : ∀ set : Nat, a1 = set → set < 2 ^ S → 0 ≤ a2 ∧ a2 ≤ 3 → Q (svl S I wt le ta tk mo bu a2 set)) (h2 : ¬ (0 ≤ a2 ∧ a2 ≤ 3) → E 2) (h3 : 0 ≤ a2 ∧ a2 ≤ 3 → ¬ (0 ≤ a1 ∧ a1 < ((2 ^ S : Nat) : Int)) → E 3) : wp_Picker_set ss qw tl S I bu mo tal9 a1 a2 Q E := by
  have hS := hL.1
  have hp : 2 ^ S ≤ 2 ^ 14 := Nat.pow_le_pow_right (by omega) hS
  unfold wp_Picker_set
  refine rq_what (fun g => rq_sents hS hr (fun set e hs => ?_) (fun k => h3 g k)) h2
  subst e
  have hq := h1 set rfl hs g
  unfold svl at hq
  refine ⟨fun k => ?_, fun k => ⟨fun k2 => ?_, fun k2 => ⟨fun k3 => ?_, fun k3 => ?_⟩⟩⟩
  · rw [if_pos k] at hq; exact b_worthSet hS hw hT (by omega) hq
  · rw [if_neg k, if_pos k2] at hq; exact b_lenSet hL (by omega) hq
  · rw [if_neg k, if_neg k2, if_pos k3] at hq
    refine b_mayBe hL hK (by omega) ⟨fun e => ?_, fun e => ?_⟩
    · rw [e] at hq; exact hq
    · rw [bI_1 e] at hq; exact hq
  · rw [if_neg k, if_neg k2, if_neg k3] at hq
    exact b_tallyOf hS hT (by omega) fun x hx => b_itemsOf hw.1 hx hq
theorem items_iff {b : Nat → Int} {N I set k : Nat} {R : Nat → Nat → Bool} (hI : I ≤ 8) (hk : k < I) (hso : ∀ k v, k < I → v < Wn b N → R k v = true → soN b N v < Sn b N) : (∃ j, j < M0 (Wn b N) I R ∧ set.testBit (soN b N (mFi (Wn b N) I R j)) = true ∧ mIt (Wn b N) I R j = k) ↔ 0 < sS (Sn b N) (fun s => taN b N I R s k) set := by
  have tv : ∀ s, taN b N I R s k = tlR (Wn b N) (soN b N) R s k := fun s => by
    unfold taN tal
    rw [if_pos hk]
  have e0 : sS (Sn b N) (fun s => taN b N I R s k) set = sm (fun s => if set.testBit s then taN b N I R s k else 0) (Sn b N) := rfl
  constructor
  · rintro ⟨j, hj, h1, h2⟩
    have g := m_in hj
    rw [h2] at g
    have hs := hso k _ hk g.2.1 g.2.2
    have h3 : 0 < tlR (Wn b N) (soN b N) R (soN b N (mFi (Wn b N) I R j)) k := by
      unfold tlR
      exact cnv_pos (w := mFi (Wn b N) I R j) g.2.1 (by rw [g.2.2, decide_eq_true rfl]; rfl)
    have h4 := sm_one (f := fun s => if set.testBit s then taN b N I R s k else 0) hs
    rw [if_pos h1, tv] at h4
    rw [e0]
    omega
  · intro h
    obtain ⟨s, hs, h1⟩ : ∃ s, s < Sn b N ∧ 0 < (if set.testBit s then taN b N I R s k else 0) := by
      apply Classical.byContradiction
      intro hn
      have := sm_zero (f := fun s => if set.testBit s then taN b N I R s k else 0) (n := Sn b N) (fun i hi => by
        apply Classical.byContradiction
        intro h0
        exact hn ⟨i, hi, by (try dsimp only at h0); omega⟩)
      rw [e0] at h
      omega
    by_cases e : set.testBit s = true
    · rw [if_pos e, tv] at h1
      unfold tlR at h1
      obtain ⟨v, hv, e2⟩ := cnv_some h1
      rw [Bool.and_eq_true, decide_eq_true_iff] at e2
      obtain ⟨j, j1, j2, j3⟩ := m_ex hk hI hv e2.2
      exact ⟨j, j1, by rw [j3, e2.1]; exact e, j2⟩
    · rw [if_neg e] at h1; omega
theorem b_Mset {b so0 lk fr to hwa mw mi mf ml im wo ln9 ins tk : Nat → Int} {N I li mo bu : Nat} {wt tc : Nat → Nat} {R : Nat → Nat → Bool} {thr al ak a1 a2 : Int} {Q : Int → (Nat → Int) → (Nat → Int) → (Nat → Int) → (Nat → Int) → Int → Int → Int → Prop} (hr : rng a1) (hB : MBs b N I wt tc R so0 lk fr to hwa mw mi mf ml im) (hal : al = 0 ∨ (al = 1 ∧ StA (Sn b N) I wt (taN b N I R) (leN b N) wo ln9)) (hak : ak = 0 ∨ (ak = 1 ∧ TkA (Sn b N) (tkl b N li) tk))
    (h1 : ∀ set : Nat, a1 = set → set < 2 ^ Sn b N → 0 ≤ a2 ∧ a2 ≤ 3 → ∀ (wo' ln' ins' tk' : Nat → Int), StA (Sn b N) I wt (taN b N I R) (leN b N) wo' ln' → TkA (Sn b N) (tkl b N li) tk' → Q (svl (Sn b N) I wt (leN b N) (taN b N I R) (tkl b N li) mo bu a2 set) wo' ln' ins' tk' 0 1 1) (h2 : ¬ (0 ≤ a2 ∧ a2 ≤ 3) → Q 0 wo ln9 ins tk 1 al ak) (h3 : 0 ≤ a2 ∧ a2 ≤ 3 → ¬ (0 ≤ a1 ∧ a1 < ((2 ^ Sn b N : Nat) : Int)) → Q 0 wo ln9 ins tk 2 al ak) : wp_M_set so0 lk fr to hwa mw mi mf wo ln9 ins tk thr (Wn b N) (Sn b N) I (M0 (Wn b N) I R) al ak bu mo li a1 a2 Q := by
  have h14 := Sn_le b N
  have hP := p14 h14
  have hI := hB.2.1.1
  have hM0 := M0_le (Wn b N) I R
  have h100 : Wn b N ≤ 100 := by unfold Wn; omega
  unfold wp_M_set
  refine m_no (fun g => ⟨fun k => absurd rfl k, fun _ => m_nosetS h14 hr (fun set e hs => ⟨fun _ => ?_, fun k => absurd rfl k⟩) (fun k => ⟨fun e => absurd e (by decide), fun _ => h3 g k⟩)⟩) (fun g => ⟨fun _ => h2 g, fun k => absurd k (by decide)⟩)
  subst e
  refine b_MLike hB hal hak fun wo' ln' ins' tk' hSt hTk => ?_
  have hq := h1 set rfl hs g wo' ln' ins' tk' hSt hTk
  have sv : ∀ j, j < M0 (Wn b N) I R → so0 (mFi (Wn b N) I R j) = soN b N (mFi (Wn b N) I R j) ∧ soN b N (mFi (Wn b N) I R j) < Sn b N := fun j hj => by have g := m_in hj; exact hB.2.2.2.1 _ _ g.1 g.2.1 g.2.2
  have hog : ogf (fun j => set.testBit (soN b N (mFi (Wn b N) I R j))) (mIt (Wn b N) I R) (M0 (Wn b N) I R) = bs (fun k => decide (0 < sS (Sn b N) (fun s => taN b N I R s k) set)) I := by
    refine ogf_bs (fun j hj _ => (m_in hj).1) fun k hk => ?_
    rw [decide_eq_true_iff]
    exact items_iff hI hk fun k v h1 h2 h3 => (hB.2.2.2.1 k v h1 h2 h3).2
  refine ⟨fun x1 x2 => ∃ m : Nat, x2 = m ∧ m ≤ M0 (Wn b N) I R ∧ x1 = (ogf (fun j => set.testBit (soN b N (mFi (Wn b N) I R j))) (mIt (Wn b N) I R) m : Nat), fun _ x2 => M0 (Wn b N) I R - x2.toNat, ⟨0, rfl, by omega, rfl⟩, ?_⟩
  rintro _ _ ⟨m, rfl, hm, rfl⟩
  refine ⟨fun h => ?_, fun h => ?_⟩
  · rw [show m = M0 (Wn b N) I R by omega, hog]
    unfold svl at hq
    rw [Int.toNat_natCast, (hSt set hs).1, (hSt set hs).2]
    refine ⟨fun k => ⟨fun k2 => ⟨fun k3 => ?_, fun k3 => ?_⟩, fun k2 => ⟨⟨by omega, by omega⟩, ?_⟩⟩, fun k => ⟨⟨by omega, by omega⟩, ?_⟩⟩
    · rw [if_neg k, if_neg k2, if_neg k3] at hq; exact hq
    · rw [if_neg k, if_neg k2, if_pos k3] at hq
      refine b_Mmay h14 (hSt set hs).2 hTk (by omega) ⟨fun e => ?_, fun e => ?_⟩
      · rw [e] at hq; exact hq
      · rw [bI_1 e] at hq; exact hq
    · rw [if_neg k, if_pos k2] at hq; exact hq
    · rw [if_pos k] at hq; exact hq
  · have hm2 : m < M0 (Wn b N) I R := by omega
    have g1 := hB.2.2.1.it hm2
    have g2 := m_in hm2
    have s2 := sv m hm2
    have ol : ogf (fun j => set.testBit (soN b N (mFi (Wn b N) I R j))) (mIt (Wn b N) I R) m < 2 ^ 31 := Nat.lt_of_lt_of_le (ogf_lt (n := I) m (fun j hj _ => (m_in (by omega)).1)) (Nat.pow_le_pow_right (by omega) (by omega))
    rw [Int.toNat_natCast, g1.1, g1.2.1, Int.toNat_natCast, s2.1]
    have go : ∀ z : Int, z = (ogf (fun j => set.testBit (soN b N (mFi (Wn b N) I R j))) (mIt (Wn b N) I R) (m + 1) : Nat) → rng ((m : Int) + 1) ∧ (∃ m' : Nat, (m : Int) + 1 = m' ∧ m' ≤ M0 (Wn b N) I R ∧ z = (ogf (fun j => set.testBit (soN b N (mFi (Wn b N) I R j))) (mIt (Wn b N) I R) m' : Nat)) ∧ M0 (Wn b N) I R - ((m : Int) + 1).toNat < M0 (Wn b N) I R - (m : Int).toNat := fun z hz => ⟨⟨by omega, by omega⟩, ⟨m + 1, by omega, by omega, hz⟩, by omega⟩
    refine ⟨⟨by omega, by omega⟩, ⟨by omega, by omega⟩, b_Mholds (by omega) (by omega) (jn1_i ⟨fun e => go _ ?_, fun e => ⟨⟨by omega, by omega⟩, go _ ?_⟩⟩)⟩
    · rw [b_or0 ol]
      show _ = ((ogf _ _ m ||| (if set.testBit (soN b N (mFi (Wn b N) I R m)) = true then _ else 0) : Nat) : Int)
      rw [if_neg (by rw [bI_0 e]; decide), Nat.or_zero]
    · rw [b_orb ol (by omega)]
      show _ = ((ogf _ _ m ||| (if set.testBit (soN b N (mFi (Wn b N) I R m)) = true then _ else 0) : Nat) : Int)
      rw [if_pos (bI_1 e)]
theorem b_MunlikeS {b lk hwa : Nat → Int} {N s : Nat} {Q : Int → Prop} (hA : AlA b N lk) (hH : MhA b N hwa) (hs : s < Sn b N) (hq : Q (uw b N s : Nat)) : wp_M_unlikeIn lk hwa (Wn b N) s Q := by
  have h100 : Wn b N ≤ 100 := by unfold Wn; omega
  unfold wp_M_unlikeIn
  refine ⟨fun x y => ∃ w : Nat, y = w ∧ w ≤ Wn b N ∧ x = (cn (hw b N s) w : Nat), fun _ y => Wn b N - y.toNat, ⟨0, rfl, by omega, rfl⟩, ?_⟩
  rintro x y ⟨w, rfl, hw0, rfl⟩
  have hc := cn_le (hw b N s) w
  refine ⟨fun h => qe hq (by rw [show w = Wn b N by omega]; rfl), fun h => ?_⟩
  rw [Int.toNat_natCast, hA w (by omega)]
  refine ⟨⟨by omega, by omega⟩, fun y => y = bI (hw b N s w), ?_, hw b N s w = false, fun k => by (try dsimp only); rw [k]; rfl, fun g => ?_, fun g => ⟨hw b N s w = true, fun k => by (try dsimp only); rw [k]; rfl, fun e => by omega, fun _ => b_MhasLike hH hs (by omega) ⟨fun k => bI_0 k, fun k => bI_1 k⟩⟩⟩
  · rintro y rfl
    have e : ((cn (hw b N s) w : Nat) : Int) + bI (hw b N s w) = (cn (hw b N s) (w + 1) : Nat) := by
      cases e : hw b N s w
      · rw [cn_f e]; show _ + (0 : Int) = _; omega
      · rw [cn_t e]; show _ + (1 : Int) = _; omega
    rw [e]
    have hc2 := cn_le (hw b N s) (w + 1)
    exact ⟨⟨by omega, by omega⟩, ⟨by omega, by omega⟩, ⟨w + 1, by omega, by omega, rfl⟩, by (try dsimp only); omega⟩
  · cases e : hw b N s w
    · rfl
    · exact absurd (by rw [(hw_like e).2]) g
theorem b_MunlikeA {b lk hwa : Nat → Int} {N : Nat} {Q : Int → Prop} (hA : AlA b N lk) (hq : Q (cn (fun w => decide (lko b N w = w)) (Wn b N) : Nat)) : wp_M_unlikeIn lk hwa (Wn b N) (-1) Q := by
  have h100 : Wn b N ≤ 100 := by unfold Wn; omega
  unfold wp_M_unlikeIn
  refine ⟨fun x y => ∃ w : Nat, y = w ∧ w ≤ Wn b N ∧ x = (cn (fun w => decide (lko b N w = w)) w : Nat), fun _ y => Wn b N - y.toNat, ⟨0, rfl, by omega, rfl⟩, ?_⟩
  rintro x y ⟨w, rfl, hw0, rfl⟩
  have hc := cn_le (fun w => decide (lko b N w = w)) w
  refine ⟨fun h => qe hq (by rw [show w = Wn b N by omega]), fun h => ?_⟩
  rw [Int.toNat_natCast, hA w (by omega)]
  refine ⟨⟨by omega, by omega⟩, fun y => y = bI (decide (lko b N w = w)), ?_, ¬ lko b N w = w, fun k => by (try dsimp only); rw [decide_eq_false k]; rfl, fun g => by omega, fun g => ⟨lko b N w = w, fun k => by (try dsimp only); rw [decide_eq_true k]; rfl, fun _ => by omega, fun e => absurd rfl e⟩⟩
  · rintro y rfl
    have e : ((cn (fun w => decide (lko b N w = w)) w : Nat) : Int) + bI (decide (lko b N w = w)) = (cn (fun w => decide (lko b N w = w)) (w + 1) : Nat) := by
      by_cases e : lko b N w = w
      · rw [cn_t (decide_eq_true e), decide_eq_true e]; show _ + (1 : Int) = _; omega
      · rw [cn_f (decide_eq_false e), decide_eq_false e]; show _ + (0 : Int) = _; omega
    rw [e]
    have hc2 := cn_le (fun w => decide (lko b N w = w)) (w + 1)
    exact ⟨⟨by omega, by omega⟩, ⟨by omega, by omega⟩, ⟨w + 1, by omega, by omega, rfl⟩, by (try dsimp only); omega⟩
theorem b_Mecho {b lk hwa : Nat → Int} {N s : Nat} {Q : Int → Prop} (hA : AlA b N lk) (hH : MhA b N hwa) (hs : s < Sn b N) (hq : Q (echo b N s (Sn b N)).1) : wp_M_echoOf lk hwa (Wn b N) (Sn b N) s Q := by
  have h14 := Sn_le b N
  unfold wp_M_echoOf
  refine ⟨fun x y z => ∃ o : Nat, z = o ∧ o ≤ Sn b N ∧ x = (echo b N s o).1 ∧ y = (echo b N s o).2, fun _ _ z => Sn b N - z.toNat, ⟨0, rfl, by omega, rfl, rfl⟩, ?_⟩
  rintro x y z ⟨o, rfl, ho, rfl, rfl⟩
  have hb := echo_b b N s o
  refine ⟨fun h => qe hq (by rw [show o = Sn b N by omega]), fun h => ?_⟩
  have hc := cmo_le b N s o
  have es : echo b N s (o + 1) = if o ≠ s ∧ (echo b N s o).2 < cmo b N s o then ((o : Int), cmo b N s o) else echo b N s o := rfl
  refine jn2_i ⟨fun h2 => ⟨⟨by omega, by omega⟩, ⟨o + 1, by omega, by omega, ?_, ?_⟩, by (try dsimp only); omega⟩, fun h2 => b_Mcommon hA hH hs (by omega) ⟨fun h3 => b_Mcommon hA hH hs (by omega) ⟨⟨by omega, by omega⟩, ⟨o + 1, by omega, by omega, ?_, ?_⟩, by (try dsimp only); omega⟩, fun h3 => ⟨⟨by omega, by omega⟩, ⟨o + 1, by omega, by omega, ?_, ?_⟩, by (try dsimp only); omega⟩⟩⟩
  · rw [es, if_neg (by omega)]
  · rw [es, if_neg (by omega)]
  · rw [es, if_pos (by omega)]
  · rw [es, if_pos (by omega)]
  · rw [es, if_neg (by omega)]
  · rw [es, if_neg (by omega)]
