/-! B61: exchange, trade, choice, take -/
def exv (st : Int × Int × Nat) (a : Int) : Int := if a = 0 then st.1 else if a = 1 then st.2.1 else (st.2.2 : Int)
def eXO (S I : Nat) (wt le : Nat → Nat) (ta : Nat → Nat → Nat) (tk : Nat → Nat → Bool) (mo bu ch : Nat) : Int × Int × Nat := exo S (wZ S I wt ta) (may S le tk mo bu) ch S
theorem b_exchange {S I mo bu ch : Nat} {wt le : Nat → Nat} {ta : Nat → Nat → Nat} {tk : Nat → Nat → Bool} {qw ss tl : Nat → Int} {tal9 : Nat → Int64} {z1 z2 z3 a : Int} {Q : Int → Int → Int → Int → Prop} {E : Nat → Int → Int → Int → Prop} (hw : QwA I wt qw) (hT : TaA S ta tal9) (hL : LeA S le ss) (hK : TkA S tk tl) (hch : ch < 2 ^ S)
    (h1 : 0 ≤ a ∧ a ≤ 2 → ∀ y1 y2 y3, Q (exv (eXO S I wt le ta tk mo bu ch) a) y1 y2 y3) (h2 : ¬ (0 ≤ a ∧ a ≤ 2) → E 2 z1 z2 z3) : wp_Picker_exchange ss qw tl S I bu mo ch z1 z2 z3 tal9 a Q E := by
  unfold wp_Picker_exchange
  refine rq_what (fun g => b_seekEx hw hT hL hK hch ⟨fun k => ?_, fun k => ⟨fun k2 => ?_, fun k2 => ?_⟩⟩) h2
  · have hq := h1 g; unfold exv at hq; simp only [if_pos k] at hq; exact hq _ _ _
  · have hq := h1 g; unfold exv at hq; simp only [if_neg k, if_pos k2] at hq; exact hq _ _ _
  · have hq := h1 g; unfold exv at hq; simp only [if_neg k, if_neg k2] at hq; exact hq _ _ _
theorem b_Mexchange {b so0 lk fr to hwa mw mi mf ml im wo ln9 ins tk : Nat → Int} {N I li mo bu ch : Nat} {wt tc : Nat → Nat} {R : Nat → Nat → Bool} {thr al ak z1 z2 a : Int} {Q : Int → (Nat → Int) → (Nat → Int) → (Nat → Int) → (Nat → Int) → Int → Int → Int → Int → Int → Prop} (hB : MBs b N I wt tc R so0 lk fr to hwa mw mi mf ml im) (hal : al = 0 ∨ (al = 1 ∧ StA (Sn b N) I wt (taN b N I R) (leN b N) wo ln9)) (hak : ak = 0 ∨ (ak = 1 ∧ TkA (Sn b N) (tkl b N li) tk)) (hch : ch < 2 ^ Sn b N)
    (h1 : 0 ≤ a ∧ a ≤ 2 → ∀ wo' ln' ins' tk' y1 y2, StA (Sn b N) I wt (taN b N I R) (leN b N) wo' ln' → TkA (Sn b N) (tkl b N li) tk' → Q (exv (eXO (Sn b N) I wt (leN b N) (taN b N I R) (tkl b N li) mo bu ch) a) wo' ln' ins' tk' 0 1 1 y1 y2) (h2 : ¬ (0 ≤ a ∧ a ≤ 2) → Q 0 wo ln9 ins tk 1 al ak z1 z2) : wp_M_exchange so0 lk fr to hwa mw mi mf wo ln9 ins tk thr (Wn b N) (Sn b N) I (M0 (Wn b N) I R) al ak bu mo li ch z1 z2 a Q := by
  unfold wp_M_exchange
  refine m_no (fun g => ⟨fun _ => b_Mtrades hB hal hak hch fun wo' ln' ins' tk' hSt hTk => ?_, fun k => absurd rfl k⟩) (fun g => ⟨fun k => absurd k (by decide), fun _ => h2 g⟩)
  have hq := fun y1 y2 => h1 g wo' ln' ins' tk' y1 y2 hSt hTk
  unfold exv at hq
  refine ⟨fun k => ⟨fun k2 => ?_, fun k2 => ?_⟩, fun k => ?_⟩
  · simp only [if_neg k, if_neg k2] at hq; exact hq _ _
  · simp only [if_neg k, if_pos k2] at hq; exact hq _ _
  · simp only [if_pos k] at hq; exact hq _ _
def tdP (S : Nat) (st : Int × Int × Nat) (x y : Nat) : Prop := st.1 = x ∧ st.2.1 = y ∧ st.2.2 ≠ 0 ∧ x < S ∧ y < S
theorem eXO_c {S I mo bu ch : Nat} {wt le : Nat → Nat} {ta : Nat → Nat → Nat} {tk : Nat → Nat → Bool} : ((eXO S I wt le ta tk mo bu ch).1 = -1 ∧ (eXO S I wt le ta tk mo bu ch).2.2 = 0) ∨ ∃ x y, tdP S (eXO S I wt le ta tk mo bu ch) x y := by
  rcases exo_P (S := S) (wf := wZ S I wt ta) (my := may S le tk mo bu) (ch := ch) S (Nat.le_refl _) with h | ⟨x, y, h, h1, h2, h3, h4, h5, h6⟩
  · left
    unfold eXO
    rw [h]
    exact ⟨rfl, rfl⟩
  · right
    refine ⟨x, y, ?_⟩
    unfold eXO tdP
    rw [h]
    refine ⟨rfl, rfl, ?_, h1, h2⟩
    show wZ S I wt ta (xse ch x y) - wZ S I wt ta ch ≠ 0
    omega
theorem b_trade {S I mo bu ch : Nat} {wt le : Nat → Nat} {ta : Nat → Nat → Nat} {tk : Nat → Nat → Bool} {qw ss tl : Nat → Int} {tal9 : Nat → Int64} {z1 z2 z3 : Int} {Q : Int → Int → Int → Int → Int → Prop} {E : Nat → Int → Int → Int → Int → Prop} (hw : QwA I wt qw) (hT : TaA S ta tal9) (hL : LeA S le ss) (hK : TkA S tk tl) (hch : ch < 2 ^ S)
    (h1 : ∀ x y : Nat, tdP S (eXO S I wt le ta tk mo bu ch) x y → ∀ y1 y2 y3, Q (wZ S I wt ta (xse ch x y)) ((xse ch x y : Nat) : Int) y1 y2 y3) (h2 : (eXO S I wt le ta tk mo bu ch).2.2 = 0 → ∀ y1 y2 y3, E 4 ch y1 y2 y3) : wp_Picker_trade ss qw tl S I bu mo ch z1 z2 z3 tal9 Q E := by
  have hS := hL.1
  have hp : 2 ^ S ≤ 2 ^ 14 := Nat.pow_le_pow_right (by omega) hS
  unfold wp_Picker_trade
  refine b_seekEx hw hT hL hK hch ?_
  show (¬ (eXO S I wt le ta tk mo bu ch).1 = -1 → _) ∧ ((eXO S I wt le ta tk mo bu ch).1 = -1 → _)
  rcases eXO_c (S := S) (I := I) (mo := mo) (bu := bu) (ch := ch) (wt := wt) (le := le) (ta := ta) (tk := tk) with ⟨e1, e2⟩ | ⟨x, y, hd⟩
  · exact ⟨fun k => absurd e1 k, fun _ => h2 e2 _ _ _⟩
  · refine ⟨fun _ => ?_, fun k => by have := hd.1; omega⟩
    have hxl := xse_lt (a := x) hch hd.2.2.2.2
    show wp_Sets_exchanged ch (eXO S I wt le ta tk mo bu ch).1 (eXO S I wt le ta tk mo bu ch).2.1 _
    unfold wp_Sets_exchanged
    rw [hd.1, hd.2.1, i_xse (by omega) (by have := hd.2.2.2.1; omega) (by have := hd.2.2.2.2; omega)]
    exact b_worthSet hS hw hT (by omega) (h1 x y hd _ _ _)
theorem b_Mtrade {b so0 lk fr to hwa mw mi mf ml im wo ln9 ins tk : Nat → Int} {N I li mo bu ch : Nat} {wt tc : Nat → Nat} {R : Nat → Nat → Bool} {thr al ak z1 z2 : Int} {Q : Int → (Nat → Int) → (Nat → Int) → (Nat → Int) → (Nat → Int) → Int → Int → Int → Int → Int → Int → Prop} (hB : MBs b N I wt tc R so0 lk fr to hwa mw mi mf ml im) (hal : al = 0 ∨ (al = 1 ∧ StA (Sn b N) I wt (taN b N I R) (leN b N) wo ln9)) (hak : ak = 0 ∨ (ak = 1 ∧ TkA (Sn b N) (tkl b N li) tk)) (hch : ch < 2 ^ Sn b N)
    (h1 : ∀ x y : Nat, tdP (Sn b N) (eXO (Sn b N) I wt (leN b N) (taN b N I R) (tkl b N li) mo bu ch) x y → ∀ wo' ln' ins' tk' y1 y2, StA (Sn b N) I wt (taN b N I R) (leN b N) wo' ln' → TkA (Sn b N) (tkl b N li) tk' → Q (wZ (Sn b N) I wt (taN b N I R) (xse ch x y)) wo' ln' ins' tk' 0 1 1 ((xse ch x y : Nat) : Int) y1 y2)
    (h2 : (eXO (Sn b N) I wt (leN b N) (taN b N I R) (tkl b N li) mo bu ch).2.2 = 0 → ∀ wo' ln' ins' tk' y1 y2, StA (Sn b N) I wt (taN b N I R) (leN b N) wo' ln' → TkA (Sn b N) (tkl b N li) tk' → Q 0 wo' ln' ins' tk' 1 1 1 ch y1 y2) : wp_M_trade so0 lk fr to hwa mw mi mf wo ln9 ins tk thr (Wn b N) (Sn b N) I (M0 (Wn b N) I R) al ak bu mo li ch z1 z2 Q := by
  have h14 := Sn_le b N
  have hp : 2 ^ Sn b N ≤ 2 ^ 14 := Nat.pow_le_pow_right (by omega) h14
  unfold wp_M_trade
  refine b_Mtrades hB hal hak hch fun wo' ln' ins' tk' hSt hTk => ?_
  refine m_if (fun k => ⟨fun _ => ?_, fun e => absurd rfl e⟩) (fun k => ⟨fun e => absurd e (by decide), fun _ => h2 (by unfold eXO; omega) wo' ln' ins' tk' _ _ hSt hTk⟩)
  rcases eXO_c (S := Sn b N) (I := I) (mo := mo) (bu := bu) (ch := ch) (wt := wt) (le := leN b N) (ta := taN b N I R) (tk := tkl b N li) with ⟨e1, e2⟩ | ⟨x, y, hd⟩
  · unfold eXO at e2
    rw [e2] at k
    exact absurd rfl k
  · have hxl := xse_lt (a := x) hch hd.2.2.2.2
    have hq := h1 x y hd wo' ln' ins' tk' (eXO (Sn b N) I wt (leN b N) (taN b N I R) (tkl b N li) mo bu ch).1 (eXO (Sn b N) I wt (leN b N) (taN b N I R) (tkl b N li) mo bu ch).2.1 hSt hTk
    have d1 := hd.1
    have d2 := hd.2.1
    unfold eXO at d1 d2 hq
    rw [d1, d2, i_xse (by omega) (by have := hd.2.2.2.1; omega) (by have := hd.2.2.2.2; omega), Int.toNat_natCast, (hSt _ hxl).1]
    rw [d1, d2] at hq
    exact ⟨⟨by omega, by omega⟩, hq⟩
theorem chP.lt {S I mo bu x : Nat} {wt le : Nat → Nat} {ta : Nat → Nat → Nat} {tk : Nat → Nat → Bool} {a : Int} (h : chP S I wt le ta tk mo bu a x) : x < 2 ^ S := by
  by_cases e : a = 0
  · rw [h.1 e]; exact grd_lt
  · exact (h.2 e).1
theorem chP.uniq {S I mo bu x y : Nat} {wt le : Nat → Nat} {ta : Nat → Nat → Nat} {tk : Nat → Nat → Bool} {a : Int} (h : chP S I wt le ta tk mo bu a x) (g : chP S I wt le ta tk mo bu a y) : x = y := by
  by_cases e : a = 0
  · rw [h.1 e, g.1 e]
  · exact Bst.uniq (h.2 e) (g.2 e)
theorem b_take {S I mo bu : Nat} {wt le : Nat → Nat} {ta : Nat → Nat → Nat} {tk : Nat → Nat → Bool} {qw ss tl sp : Nat → Int} {tal9 : Nat → Int64} {ch z bk be z1 z2 z3 z4 z5 z6 a : Int} {Q : Int → (Nat → Int) → Int → Int → Int → Int → Int → Int → Int → Int → Int → Int → Prop} (hw : QwA I wt qw) (hT : TaA S ta tal9) (hL : LeA S le ss) (hK : TkA S tk tl) (hsy : ∀ s o, tk s o = tk o s) (hir : ∀ s, tk s s = false) (hmo : mo ≤ 6) (hro : bu ≤ 700) (hk : bk = 0 ∨ (bk = 1 ∧ ∃ x : Nat, be = x ∧ BsP S I wt le ta tk mo bu 0 x))
    (hq : ∀ (x : Nat) (sp' : Nat → Int) (z' bk' be' y1 y2 y3 y4 y5 y6 : Int), chP S I wt le ta tk mo bu a x → (bk' = 0 ∨ (bk' = 1 ∧ ∃ x : Nat, be' = x ∧ BsP S I wt le ta tk mo bu 0 x)) → Q (wZ S I wt ta x) sp' (x : Nat) z' bk' be' y1 y2 y3 y4 y5 y6) : wp_Picker_take ss qw sp tl S I bu mo ch z bk be z1 z2 z3 z4 z5 z6 tal9 a Q := by
  have hS := hL.1
  have hp : 2 ^ S ≤ 2 ^ 14 := Nat.pow_le_pow_right (by omega) hS
  have go : ∀ (x : Nat) (sp' : Nat → Int) (z' bk' be' y1 y2 y3 y4 y5 y6 : Int), chP S I wt le ta tk mo bu a x → (bk' = 0 ∨ (bk' = 1 ∧ ∃ x : Nat, be' = x ∧ BsP S I wt le ta tk mo bu 0 x)) → wp_Sets_worthOfSet qw S I tal9 (x : Nat) (fun (r12 : Int) => Q r12 sp' (x : Nat) z' bk' be' y1 y2 y3 y4 y5 y6) := fun x sp' z' bk' be' y1 y2 y3 y4 y5 y6 h1 h2 => b_worthSet hS hw hT (by have := h1.lt; omega) (hq x sp' z' bk' be' y1 y2 y3 y4 y5 y6 h1 h2)
  unfold wp_Picker_take
  exact ⟨_, fun _ _ _ _ _ _ _ _ _ _ _ q => q, fun g => b_greedy hw hT hL hK fun sp' => go _ sp' _ bk be _ _ _ _ _ _ ⟨fun _ => rfl, fun k => absurd g k⟩ hk, fun g => b_best hw hT hL hK hsy hir hmo hro hk fun x y1 y2 y3 y4 y5 y6 hx => go x _ _ _ _ _ _ _ _ _ _ ⟨fun k => absurd k g, fun _ => hx⟩ (.inr ⟨rfl, x, rfl, hx⟩)⟩
theorem b_MchoiceQ {b so0 lk fr to hwa mw mi mf ml im wo ln9 ins tk sp : Nat → Int} {N I li mo bu : Nat} {wt tc : Nat → Nat} {R : Nat → Nat → Bool} {thr al ak z a : Int} {Q : Int → (Nat → Int) → (Nat → Int) → (Nat → Int) → (Nat → Int) → (Nat → Int) → Int → Int → Int → Int → Prop} (hB : MBs b N I wt tc R so0 lk fr to hwa mw mi mf ml im) (hal : al = 0 ∨ (al = 1 ∧ StA (Sn b N) I wt (taN b N I R) (leN b N) wo ln9)) (hak : ak = 0 ∨ (ak = 1 ∧ TkA (Sn b N) (tkl b N li) tk)) (hmo : mo ≤ 6)
    (hq : ∀ (x : Nat) (wo' ln' ins' tk' sp' : Nat → Int) (z' : Int), StA (Sn b N) I wt (taN b N I R) (leN b N) wo' ln' → TkA (Sn b N) (tkl b N li) tk' → chP (Sn b N) I wt (leN b N) (taN b N I R) (tkl b N li) mo bu a x → Q (x : Nat) wo' ln' ins' tk' sp' 0 1 1 z') : wp_M_choice so0 lk fr to hwa mw mi mf wo ln9 ins tk sp thr (Wn b N) (Sn b N) I (M0 (Wn b N) I R) al ak bu mo li z a Q := by
  unfold wp_M_choice
  exact b_Mchoice hB hal hak hmo fun x wo' ln' ins' tk' sp' z' hS hK h1 h2 => hq x wo' ln' ins' tk' sp' z' hS hK ⟨h1, h2⟩
theorem b_MtakeQ {b so0 lk fr to hwa mw mi mf ml im wo ln9 ins tk sp : Nat → Int} {N I li mo bu : Nat} {wt tc : Nat → Nat} {R : Nat → Nat → Bool} {thr al ak ch z a : Int} {Q : Int → (Nat → Int) → (Nat → Int) → (Nat → Int) → (Nat → Int) → (Nat → Int) → Int → Int → Int → Int → Int → Prop} (hB : MBs b N I wt tc R so0 lk fr to hwa mw mi mf ml im) (hal : al = 0 ∨ (al = 1 ∧ StA (Sn b N) I wt (taN b N I R) (leN b N) wo ln9)) (hak : ak = 0 ∨ (ak = 1 ∧ TkA (Sn b N) (tkl b N li) tk)) (hmo : mo ≤ 6)
    (hq : ∀ (x : Nat) (wo' ln' ins' tk' sp' : Nat → Int) (z' : Int), StA (Sn b N) I wt (taN b N I R) (leN b N) wo' ln' → TkA (Sn b N) (tkl b N li) tk' → chP (Sn b N) I wt (leN b N) (taN b N I R) (tkl b N li) mo bu a x → Q (wZ (Sn b N) I wt (taN b N I R) x) wo' ln' ins' tk' sp' 0 1 1 (x : Nat) z') : wp_M_take so0 lk fr to hwa mw mi mf wo ln9 ins tk sp thr (Wn b N) (Sn b N) I (M0 (Wn b N) I R) al ak bu mo li ch z a Q := by
  have h14 := Sn_le b N
  have hP := p14 h14
  unfold wp_M_take
  refine b_Mchoice hB hal hak hmo fun x wo' ln' ins' tk' sp' z' hS hK h1 h2 => ?_
  have hc : chP (Sn b N) I wt (leN b N) (taN b N I R) (tkl b N li) mo bu a x := ⟨h1, h2⟩
  have hx := hc.lt
  rw [Int.toNat_natCast, (hS x hx).1]
  exact ⟨⟨by omega, by omega⟩, hq x wo' ln' ins' tk' sp' z' hS hK hc⟩
