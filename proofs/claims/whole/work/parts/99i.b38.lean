/-! B38: the reference writes a passage (whole) -/
def opL (c : Bool) (a : Nat) : List Int := if c then sBy a else []
theorem goes_i {b : Nat → Int} {N bg en x : Nat} {S : Nat → Bool} {ov on : Nat → Int} (hS : SgM b N S) (hM : MkA b N bg en S ov on) (h1 : bg ≤ x) (h2 : x < en) (hen : en ≤ sgn b N N) (h6 : en ≤ 600) {K : Int → Prop} (hk : K (bI (pv S (ps b N bg) (ps b N x - ps b N bg) && S (ps b N x)))) : jn1 (fun (J3 : Int → Prop) => jn0 (fun (J14 : Prop) => ((x : Int) ≤ (bg : Int) → J14) ∧ (¬ (x : Int) ≤ (bg : Int) → (rng ((x : Int) - 1)) ∧ ((0 ≤ ((x : Int) - 1) ∧ ((x : Int) - 1) < 601) ∧ (((ov (Int.toNat ((x : Int) - 1))) = 0 → J14) ∧ (¬ (ov (Int.toNat ((x : Int) - 1))) = 0 → (rng ((x : Int) - 1)) ∧ ((0 ≤ ((x : Int) - 1) ∧ ((x : Int) - 1) < 601) ∧ (((on (Int.toNat ((x : Int) - 1))) = 0 → J14) ∧ (¬ (on (Int.toNat ((x : Int) - 1))) = 0 → J3 1)))))))) (J3 0)) K := by
  refine ⟨fun y => y = bI (pv S (ps b N bg) (ps b N x - ps b N bg) && S (ps b N x)), fun y hy => by rw [hy]; exact hk, ⟨(pv S (ps b N bg) (ps b N x - ps b N bg) && S (ps b N x)) = false, fun e => by (try dsimp only); rw [e]; rfl, fun g => ?_, fun g => ?_⟩⟩
  · rw [show x = bg by omega, Nat.sub_self]; rfl
  · obtain ⟨z, rfl⟩ : ∃ z, x = z + 1 := ⟨x - 1, by omega⟩
    have e : ((z + 1 : Nat) : Int) - 1 = (z : Nat) := by omega
    have hz := hM z (by omega) (by omega)
    rw [e, Int.toNat_natCast, hz.1, pv_sg hS (by omega) (by omega)]
    refine ⟨⟨by omega, by omega⟩, ⟨by omega, by omega⟩, fun g1 => by rw [bI_0 g1]; rfl, fun g1 => ⟨⟨by omega, by omega⟩, ⟨by omega, by omega⟩, ?_⟩⟩
    rw [hz.2 h2 (bI_1 g1), bI_1 g1]
    exact ⟨fun g2 => by rw [bI_0 g2]; rfl, fun g2 => by rw [bI_1 g2]; rfl⟩
theorem MrC.addL {st : WSt} {mo : Nat → Int} {len sb tb : Int} (h : MrC st mo len sb tb) {L : List Int} (hL : L = []) : MrC (addL L st) mo len sb tb := by
  subst hL
  show MrC (st.1 ++ [], st.2) mo len sb tb
  rw [List.append_nil]
  exact h
theorem b_MaddL {st : WSt} {mo : Nat → Int} {len sb tb : Int} {a : Nat} {L : List Int} {Q : (Nat → Int) → Int → Prop} (ha : a < 37) (hg : sGd a = true) (hL : L = sBy a) (h : MrC st mo len sb tb) (hl : st.1.length + (sBy a).length ≤ 9000) (hq : ∀ mo' len', MrC (addL L st) mo' len' sb tb → Q mo' len') : wp_M_says mo len a Q := by
  subst hL
  exact b_MaddS (c := a) ha hg rfl h hl hq
theorem b_MlayOne {b pg sa : Nat → Int} {N I bg en : Nat} {tc : Nat → Nat} {R : Nat → Nat → Bool} {sel : Nat → Bool} {f l : Int} {mt ov on : Nat → Int} {Q : (Nat → Int) → (Nat → Int) → Prop} (hB : Byt b N) (hp : PgE b N pg) (hm : MsA b N sa) (hT : TcA (Wn b N) I tc R mt) (hRs : ∀ k v, k < I → R k v = true → soN b N v < Sn b N ∧ v + tc k ≤ fW b N (soN b N v + 1)) (hfl : FlP b N f l) (hen : en ≤ sgn b N N) (hpr : PrP b N bg en f l) (h : LmA bg en (sba b N I tc R sel f l) (sbo b N I tc R sel f l) ov on) (hq : ∀ ov' on', MkA b N bg en (mS b N I tc R sel f l) ov' on' → Q ov' on') : wp_M_merges_0_36_38 pg sa ov on (sgn b N N) bg en Q :=
  b_Mmerges hB.1 hp hm hen h fun ov' on' h2 => hq _ _ (MkA.of hT hRs hfl hen hpr h2)
theorem b_MclosesSoft {st : WSt} {mo : Nat → Int} {len sb tb : Int} {t : Bool} {Q : (Nat → Int) → Int → Int → Prop} (h : MrC st mo len sb tb) (hl : st.1.length + 4 ≤ 9000) (hq : ∀ mo' len', MrC (addL (opL t 12) st) mo' len' sb tb → Q mo' len' 0) : wp_M_closesSoft mo len (bI t) Q := by
  unfold wp_M_closesSoft
  refine ⟨fun mo' len' => MrC (addL (opL t 12) st) mo' len' sb tb, hq, fun g => h.addL (by rw [bI_0 g]; rfl), fun g => b_MaddL (a := 29) (by decide) (by decide) (by rw [bI_1 g]; rfl) h (by rw [show (sBy 29).length = 4 from rfl]; omega) fun mo' len' h2 => h2⟩
theorem b_MclosesStrong {st : WSt} {mo : Nat → Int} {len sb tb : Int} {t : Bool} {Q : (Nat → Int) → Int → Int → Prop} (h : MrC st mo len sb tb) (hl : st.1.length + 4 ≤ 9000) (hq : ∀ mo' len', MrC (addL (opL t 14) st) mo' len' sb tb → Q mo' len' 0) : wp_M_closesStrong mo len (bI t) Q := by
  unfold wp_M_closesStrong
  refine ⟨fun mo' len' => MrC (addL (opL t 14) st) mo' len' sb tb, hq, fun g => h.addL (by rw [bI_0 g]; rfl), fun g => b_MaddL (a := 30) (by decide) (by decide) (by rw [bI_1 g]; rfl) h (by rw [show (sBy 30).length = 4 from rfl]; omega) fun mo' len' h2 => h2⟩
theorem opL_len (c : Bool) (a : Nat) (h : (sBy a).length ≤ 4) : (opL c a).length ≤ 4 := by
  unfold opL; split
  · exact h
  · exact Nat.zero_le _
theorem addL_len (L : List Int) (st : WSt) : (addL L st).1.length = st.1.length + L.length := List.length_append
theorem fin_e (s t : Bool) (st : WSt) : addL (opL s 14) (addL (opL t 12) st) = stC s t false false st := by
  obtain ⟨o, x, y⟩ := st
  unfold addL opL stC chg ch1 ch2 ch3 csS csT
  generalize sBy 12 = A
  generalize sBy 13 = B
  generalize sBy 14 = C
  generalize sBy 15 = D
  cases s <;> cases t <;> simp
theorem mid_e (s t s' t' : Bool) (st : WSt) (n1 n2 : Nat) (h1 : n1 = st.2.1 + csS s s') (h2 : n2 = st.2.2 + csT s t s' t') : ((addL (opL (t' && (s != s' || !t)) 15) (addL (opL (s' && !s) 13) (addL (opL (s && !s') 14) (addL (opL (t && (s != s' || !t')) 12) st)))).1, n1, n2) = stC s t s' t' st := by
  subst h1 h2
  obtain ⟨o, x, y⟩ := st
  unfold addL opL stC chg ch1 ch2 ch3 csS csT
  generalize sBy 12 = A
  generalize sBy 13 = B
  generalize sBy 14 = C
  generalize sBy 15 = D
  cases s <;> cases t <;> cases s' <;> cases t' <;> simp
