/-! B39: the reference writes a passage, sign by sign -/
theorem bb1 : ∀ s s' : Bool, (¬ bI s = bI s' → (s != s') = true) ∧ (bI s = bI s' → (bI s = 0 → (s != s') = false) ∧ (¬ bI s = 0 → (¬ bI (s && s') = 0 → (s != s') = false) ∧ (bI (s && s') = 0 → (s != s') = true))) := by decide
theorem bb2 : ∀ s t s' t' : Bool, (bI t = 0 → (t && (s != s' || !t')) = false ∧ bI t = bI (t && !(s != s') && t')) ∧ ((t && (s != s' || !t')) = true → t = true ∧ 0 = bI (t && !(s != s') && t')) ∧ (¬ bI t = 0 → (bI (t && t') = 0 → (t && (s != s' || !t')) = true) ∧ (¬ bI (t && t') = 0 → (bI (s != s') = 0 → (t && (s != s' || !t')) = false ∧ bI t = bI (t && !(s != s') && t')) ∧ (¬ bI (s != s') = 0 → (t && (s != s' || !t')) = true))) := by decide
theorem bb3 : ∀ s s' : Bool, (bI s = 0 → (s && !s') = false ∧ bI s = bI (s && s')) ∧ (¬ bI s = 0 → (¬ bI (s && s') = 0 → (s && !s') = false ∧ bI s = bI (s && s')) ∧ (bI (s && s') = 0 → s = true ∧ (s && !s') = true ∧ 0 = bI (s && s'))) := by decide
theorem bb4 : ∀ s s' : Bool, (bI s' = 0 → (s' && !s) = false ∧ bI (s && s') = bI s' ∧ csS s s' = 0) ∧ (¬ bI s' = 0 → (¬ bI (s && s') = 0 → (s' && !s) = false ∧ bI (s && s') = bI s' ∧ csS s s' = 0) ∧ (bI (s && s') = 0 → (s' && !s) = true ∧ 1 = bI s' ∧ csS s s' = 1)) := by decide
theorem bb5 : ∀ s t s' t' : Bool, (bI t' = 0 → (t' && (s != s' || !t)) = false ∧ bI (t && !(s != s') && t') = bI t' ∧ csT s t s' t' = 0) ∧ (¬ bI t' = 0 → (¬ bI (t && !(s != s') && t') = 0 → (t' && (s != s' || !t)) = false ∧ bI (t && !(s != s') && t') = bI t' ∧ csT s t s' t' = 0) ∧ (bI (t && !(s != s') && t') = 0 → (t' && (s != s' || !t)) = true ∧ 1 = bI t' ∧ csT s t s' t' = 1)) := by decide
theorem opL_f {c : Bool} {a : Nat} (h : c = false) : opL c a = [] := by rw [h]; rfl
theorem opL_t {c : Bool} {a : Nat} (h : c = true) : opL c a = sBy a := by rw [h]; rfl
theorem sB29 : sBy 12 = sBy 29 := by decide
theorem sB30 : sBy 14 = sBy 30 := by decide
theorem sB31 : sBy 13 = sBy 31 := by decide
theorem sB32 : sBy 15 = sBy 32 := by decide
theorem b_Mwrites {b pg sa wf wt9 mfs mi mf ml im mt mo o1 o2 o3 o4 : Nat → Int} {N I bg en : Nat} {tc : Nat → Nat} {R : Nat → Nat → Bool} {sf : Nat → Bool} {f l len sm tm : Int} {st : WSt} {Q : (Nat → Int) → (Nat → Int) → (Nat → Int) → (Nat → Int) → (Nat → Int) → Int → Int → Int → Int → Int → Prop} (hB : Byt b N) (hp : PgE b N pg) (hm : MsA b N sa) (hT : TcA (Wn b N) I tc R mt) (hRs : ∀ k v, k < I → R k v = true → soN b N v < Sn b N ∧ v + tc k ≤ fW b N (soN b N v + 1)) (hM : MmA (Wn b N) I tc R mi mf ml im) (hW : MwA b N wf wt9) (hsf : ∀ k, k < I → mfs k = bI (sf k)) (hbe : bg ≤ en) (hen : en ≤ sgn b N N) (hfl : FlP b N f l) (hpr : PrP b N bg en f l) (h : MrC st mo len sm tm) (hl : st.1.length + 40 + (Lb b N (ps b N en) - Lb b N (ps b N bg)) ≤ 5760) (hc : st.2.1 ≤ 9000 ∧ st.2.2 ≤ 9000)
    (hq : ∀ mo' o1' o2' o3' o4' len' sm' tm', MrC (pas (mS b N I tc R (stg sf) f l) (mS b N I tc R sf f l) b (ps b N bg) (ps b N en - ps b N bg) st) mo' len' sm' tm' → Q mo' o1' o2' o3' o4' len' sm' tm' 0 0) : wp_M_writes pg sa wf wt9 mfs mi mf ml mo o1 o2 o3 o4 (sgn b N N) (M0 (Wn b N) I R) len sm tm 0 0 bg en f l Q := by
  have hN := hB.1
  have hsN := sgn_le b N N
  have hS := mS_sg (stg sf) hT hfl
  have hTt := mS_sg sf hT hfl
  unfold wp_M_writes
  refine ⟨fun o1 o2 o3 o4 x5 => ∃ x : Nat, x5 = x ∧ bg ≤ x ∧ x ≤ en ∧ ∀ y, bg ≤ y → y < x → o1 y = 0 ∧ o2 y = 0 ∧ o3 y = 0 ∧ o4 y = 0, fun _ _ _ _ x => en - x.toNat, ⟨bg, rfl, Nat.le_refl _, hbe, fun y _ _ => by omega⟩, ?_⟩
  rintro o1 o2 o3 o4 _ ⟨x, rfl, hx1, hx2, hz⟩
  refine ⟨fun h1 => ?_, fun h1 => ⟨⟨by omega, by omega⟩, ⟨by omega, by omega⟩, ⟨by omega, by omega⟩, ⟨by omega, by omega⟩, ⟨by omega, by omega⟩, ⟨x + 1, by omega, by omega, by omega, fun y hy1 hy2 => ?_⟩, by (try dsimp only); omega⟩⟩
  · have ex : x = en := by omega
    subst ex
    have z1 : LmA bg x (fun _ => False) (fun _ => False) o1 o3 := fun y hy1 hy2 => by
      have g := hz y hy1 hy2
      rw [g.1, g.2.2.1, pB_f (fun k => k)]; exact ⟨rfl, rfl⟩
    have z2 : LmA bg x (fun _ => False) (fun _ => False) o2 o4 := fun y hy1 hy2 => by
      have g := hz y hy1 hy2
      rw [g.2.1, g.2.2.2, pB_f (fun k => k)]; exact ⟨rfl, rfl⟩
    refine b_Mlays (wt := fun _ => 0) (tz := fun _ => 0) (sel := stg sf) hN hT hM hW hsf (fun k => ?_) z1 fun ov1 on1 k1 => ?_
    · unfold stg; cases sf k <;> decide
    rw [lays_e]
    refine b_Mlays (wt := fun _ => 0) (tz := fun _ => 0) (sel := sf) hN hT hM hW hsf (fun k => ?_) z2 fun ov2 on2 k2 => ?_
    · cases sf k <;> decide
    refine b_MlayOne hB hp hm hT hRs hfl hen hpr k1 fun ov3 on3 m1 => ?_
    rw [merges_e]
    refine b_MlayOne hB hp hm hT hRs hfl hen hpr k2 fun ov4 on4 m2 => ?_
    clear k1 k2 z1 z2 hz
    generalize mS b N I tc R (stg sf) f l = S at *
    generalize mS b N I tc R sf f l = T at *
    refine ⟨fun mo len sm tm so to x20 => ∃ y : Nat, x20 = y ∧ bg ≤ y ∧ y ≤ x ∧ so = bI (pv S (ps b N bg) (ps b N y - ps b N bg)) ∧ to = bI (pv T (ps b N bg) (ps b N y - ps b N bg)) ∧ MrC (psg S T b (ps b N bg) (ps b N y - ps b N bg) st) mo len sm tm, fun _ _ _ _ _ _ y => x - y.toNat, ⟨bg, rfl, Nat.le_refl _, hbe, by rw [Nat.sub_self]; rfl, by rw [Nat.sub_self]; rfl, by rw [Nat.sub_self]; exact h⟩, ?_⟩
    rintro mo len sm tm _ _ _ ⟨y, rfl, hy1, hy2, rfl, rfl, hW1⟩
    have psm : ∀ {u v}, u ≤ v → v ≤ sgn b N N → ps b N u ≤ ps b N v := by
      intro u v huv hv
      rcases Nat.eq_or_lt_of_le huv with e | e
      · rw [e]; exact Nat.le_refl _
      · exact Nat.le_of_lt (ps_mono e hv)
    have pm := psm hy1 (by omega)
    have pe := psm hy2 hen
    have pN := ps_le b N y
    have pl := psg_len (B := ps b N bg) hS hTt st (ps b N y - ps b N bg)
    rw [show ps b N bg + (ps b N y - ps b N bg) = ps b N y by omega] at pl
    have lm := Lb_mono (b := b) (N := N) pm
    have lm2 := Lb_mono (b := b) (N := N) pe
    refine ⟨fun h2 => ?_, fun h2 => ?_⟩
    · have ey : y = x := by omega
      subst ey
      refine b_MclosesSoft hW1 (by omega) fun mo1 len1 w1 => b_MclosesStrong w1 (by rw [addL_len]; have := opL_len (pv T (ps b N bg) (ps b N y - ps b N bg)) 12 (by decide); omega) fun mo2 len2 w2 => hq _ _ _ _ _ _ _ _ ?_
      rw [fin_e] at w2; exact w2
    · have hys : y < sgn b N N := by omega
      have hps := psg_sg hS hTt hy1 hys st
      have e1 := pv_sg hS hy1 hys
      have e2 := pv_sg hTt hy1 hys
      have ho1 := (m1 y hy1 (by omega)).1
      have ho2 := (m2 y hy1 (by omega)).1
      refine goes_i hS m1 hy1 (by omega) hen (by omega) ?_
      refine goes_i hTt m2 hy1 (by omega) hen (by omega) ?_
      refine ⟨⟨by omega, by omega⟩, ?_⟩
      rw [Int.toNat_natCast, ho1, ho2]
      generalize pv S (ps b N bg) (ps b N y - ps b N bg) = s at *
      generalize pv T (ps b N bg) (ps b N y - ps b N bg) = t at *
      generalize hs' : S (ps b N y) = s' at *
      generalize ht' : T (ps b N y) = t' at *
      generalize psg S T b (ps b N bg) (ps b N y - ps b N bg) st = st1 at *
      have chl := chg_len s t s' t'
      have fin : ∀ mo' len' sm' tm', MrC (stC s t s' t' st1) mo' len' sm' tm' → wp_M_spells pg sa mo' (sgn b N N) len' y (fun mo2 len2 => rng ((y : Int) + 1) ∧ (∃ y' : Nat, ((y : Int) + 1) = y' ∧ bg ≤ y' ∧ y' ≤ x ∧ bI s' = bI (pv S (ps b N bg) (ps b N y' - ps b N bg)) ∧ bI t' = bI (pv T (ps b N bg) (ps b N y' - ps b N bg)) ∧ MrC (psg S T b (ps b N bg) (ps b N y' - ps b N bg) st) mo2 len2 sm' tm') ∧ x - ((y : Int) + 1).toNat < x - (y : Int).toNat) := by
        intro mo' len' sm' tm' w
        rw [w.1]
        refine b_Mspells hB hp hm hys w.2.2.2 ?_ fun mo2 w2 => ⟨⟨by omega, by omega⟩, ⟨y + 1, by omega, by omega, by omega, by rw [e1], by rw [e2], ?_⟩, by omega⟩
        · have : (stC s t s' t' st1).1.length = st1.1.length + (chg s t s' t').length := List.length_append
          omega
        · rw [hps]; exact ⟨rfl, w.2.1, w.2.2.1, w2⟩
      have l1 := opL_len (t && (s != s' || !t')) 12 (by decide)
      have l2 := opL_len (s && !s') 14 (by decide)
      have l3 := opL_len (s' && !s) 13 (by decide)
      refine ⟨fun y => y = bI (s != s'), ?_, ⟨(s != s') = true, fun e => by (try dsimp only); rw [e]; rfl, (bb1 s s').1, fun g => ⟨(s != s') = false, fun e => by (try dsimp only); rw [e]; rfl, ((bb1 s s').2 g).1, ((bb1 s s').2 g).2⟩⟩⟩
      rintro _ rfl
      refine ⟨fun mo' len' to' => to' = bI (t && !(s != s') && t') ∧ MrC (addL (opL (t && (s != s' || !t')) 12) st1) mo' len' sm tm, ?_, fun g => ⟨((bb2 s t s' t').1 g).2, hW1.addL (opL_f ((bb2 s t s' t').1 g).1)⟩, fun g => ⟨(t && (s != s' || !t')) = true, fun e => ?_, ((bb2 s t s' t').2.2 g).1, fun g2 => ⟨fun g3 => ⟨((((bb2 s t s' t').2.2 g).2 g2).1 g3).2, hW1.addL (opL_f ((((bb2 s t s' t').2.2 g).2 g2).1 g3).1)⟩, (((bb2 s t s' t').2.2 g).2 g2).2⟩⟩⟩
      rotate_left
      · refine b_MclosesSoft hW1 (by omega) fun mo' len' w => ⟨((bb2 s t s' t').2.1 e).2, ?_⟩
        rw [opL_t e, ← opL_t (c := t) ((bb2 s t s' t').2.1 e).1]; exact w
      rintro mo1 len1 _ ⟨rfl, w1⟩
      generalize hst2 : addL (opL (t && (s != s' || !t')) 12) st1 = st2 at w1
      have len2 : st2.1.length ≤ st1.1.length + 4 := by rw [← hst2, addL_len]; omega
      refine ⟨fun mo' len' so' => so' = bI (s && s') ∧ MrC (addL (opL (s && !s') 14) st2) mo' len' sm tm, ?_, fun g => ⟨((bb3 s s').1 g).2, w1.addL (opL_f ((bb3 s s').1 g).1)⟩, fun g => ⟨fun g2 => ⟨(((bb3 s s').2 g).1 g2).2, w1.addL (opL_f (((bb3 s s').2 g).1 g2).1)⟩, fun g2 => b_MclosesStrong w1 (by omega) fun mo' len' w => ⟨(((bb3 s s').2 g).2 g2).2.2, ?_⟩⟩⟩
      rotate_left
      · rw [opL_t (((bb3 s s').2 g).2 g2).2.1, ← opL_t (c := s) (((bb3 s s').2 g).2 g2).1]; exact w
      rintro mo2 len2' _ ⟨rfl, w2⟩
      generalize hst3 : addL (opL (s && !s') 14) st2 = st3 at w2
      have len3 : st3.1.length ≤ st1.1.length + 8 := by rw [← hst3, addL_len]; omega
      have esm := hW1.2.1
      have etm := hW1.2.2.1
      refine ⟨⟨by omega, by omega⟩, ⟨fun mo' len' sm' so' => so' = bI s' ∧ sm' = ((st1.2.1 + csS s s' : Nat) : Int) ∧ MrC (addL (opL (s' && !s) 13) st3) mo' len' sm tm, ?_, fun g => ⟨((bb4 s s').1 g).2.1, by rw [((bb4 s s').1 g).2.2]; exact esm, w2.addL (opL_f ((bb4 s s').1 g).1)⟩, fun g => ⟨fun g2 => ⟨(((bb4 s s').2 g).1 g2).2.1, by rw [(((bb4 s s').2 g).1 g2).2.2]; exact esm, w2.addL (opL_f (((bb4 s s').2 g).1 g2).1)⟩, fun g2 => b_MaddL (a := 31) (by decide) (by decide) ((opL_t (((bb4 s s').2 g).2 g2).1).trans sB31) w2 (by rw [← sB31, show (sBy 13).length = 3 from rfl]; omega) fun mo' len' w => ⟨⟨by omega, by omega⟩, (((bb4 s s').2 g).2 g2).2.1, by rw [(((bb4 s s').2 g).2 g2).2.2]; omega, w⟩⟩⟩⟩
      rintro mo3 len3' _ _ ⟨rfl, rfl, w3⟩
      generalize hst4 : addL (opL (s' && !s) 13) st3 = st4 at w3
      have len4 : st4.1.length ≤ st1.1.length + 12 := by rw [← hst4, addL_len]; omega
      refine ⟨⟨by omega, by omega⟩, ⟨fun mo' len' tm' to' => to' = bI t' ∧ tm' = ((st1.2.2 + csT s t s' t' : Nat) : Int) ∧ MrC (addL (opL (t' && (s != s' || !t)) 15) st4) mo' len' sm tm, ?_, fun g => ⟨((bb5 s t s' t').1 g).2.1, by rw [((bb5 s t s' t').1 g).2.2]; exact etm, w3.addL (opL_f ((bb5 s t s' t').1 g).1)⟩, fun g => ⟨fun g2 => ⟨(((bb5 s t s' t').2 g).1 g2).2.1, by rw [(((bb5 s t s' t').2 g).1 g2).2.2]; exact etm, w3.addL (opL_f (((bb5 s t s' t').2 g).1 g2).1)⟩, fun g2 => b_MaddL (a := 32) (by decide) (by decide) ((opL_t (((bb5 s t s' t').2 g).2 g2).1).trans sB32) w3 (by rw [← sB32, show (sBy 15).length = 3 from rfl]; omega) fun mo' len' w => ⟨⟨by omega, by omega⟩, (((bb5 s t s' t').2 g).2 g2).2.1, by rw [(((bb5 s t s' t').2 g).2 g2).2.2]; omega, w⟩⟩⟩⟩
      rintro mo4 len4' _ _ ⟨rfl, rfl, w4⟩
      refine fin _ _ _ _ ?_
      rw [← mid_e s t s' t' st1 _ _ rfl rfl, hst2, hst3, hst4]
      exact ⟨w4.1, rfl, rfl, w4.2.2.2⟩
  · by_cases e : y = x
    · rw [uI_e (by omega), uI_e (by omega), uI_e (by omega), uI_e (by omega)]; exact ⟨rfl, rfl, rfl, rfl⟩
    · rw [uI_n (by omega) (by omega), uI_n (by omega) (by omega), uI_n (by omega) (by omega), uI_n (by omega) (by omega)]; exact hz y hy1 (by omega)
