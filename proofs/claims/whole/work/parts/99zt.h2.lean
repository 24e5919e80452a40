/-! H2: the helpers -/
def zB (r : Int) : Int64 := if r = 0 then 0 else 1
theorem lJ_0 : LJ[0]? = some (.inl (9, [.inr (some 1), .inr (some 3), .inr (some 18), .inr (some 23), .inr (some 28), .inr (some 29), .inr (some 34), .inr (some 37), .inr (some 41), .inl 0])) := rfl
theorem lJ_84 : LJ[84]? = some (.inr (3, 1)) := rfl
theorem r_pj {p : Program} {l : Launch} {e : Env} {R : Room} {s : State} {m : MethodId} {args : Array Value} {below : List Frame} {meth : Method} {c : Code} {Q : State → Prop} {cells slots nL : Nat} {D : va_G} {cA : Nat → ClassId} {ad : Nat → Nat} {A : Nat → Prop} {L : List LC} {w w' : St} {pc : Nat} {ls : List (Option AV)} {st : List AV} (h : pj w 0 L = pj w' 0 L) (k : Wd p l e R s m args below meth c Q cells slots nL D cA ad A L w' pc ls st) : Wd p l e R s m args below meth c Q cells slots nL D cA ad A L w pc ls st := fun H locs la o1 o2 o3 hP hS hl => k H locs la (h ▸ o1) o2 o3 (h ▸ hP) hS hl
theorem jN_st {u v : St} {o f : Nat → Int64} : pj (wB (jN u v o) 84 f) 0 LJ = pj (jN u v f) 0 LJ := pj_cb LJ 0 fun k _ h => by
  have h : k < 85 := by have := lJ_len; omega
  refine ⟨rfl, ?_⟩
  by_cases hk : k < 84
  · show cond (Nat.beq k 84) f ((jN u v o).2 k) = (jN u v f).2 k
    rw [beq_ne (by omega)]
    unfold jN
    dsimp only
    rw [blt_t hk]
    rfl
  · have e : k = 84 := by omega
    subst e
    rfl
theorem H_query {l : Launch} (hl : l.stackTraces = false) {u v : St} {o : Nat → Int64} (hR : Rel u v) : Ch l yL_query cL_query 3 (some .int) [(0, 8, 11, 13)] 8 1 LJ (jN u v o) [aR 0, aR 84] (okI (fun k w' => ∃ (u' : St) (o' : Nat → Int64), w' = jN u' v o' ∧ Cn l yX10_query cX10_query 2 (some .int) 6 LM v [aR 0] (okI (fun r' v' => v'.1 0 0 = k ∧ (k = 0 → o' 0 = i2l r') ∧ Rel u' v')))) := by
  refine Ch.of [some (aR 0), some (aR 84), none] (by decide) (Nat.le_of_ble_eq_true rfl) rfl ?_
  intro p e s m args below meth c D cA ad A Q hQ hC hr9 hk htb hnc hoks
  refine r_aload_n hC 1 dL_query_0 rfl rfl ?_
  refine r_iconst hC dL_query_1 ⟨by decide, by decide⟩ ?_
  refine r_aload_n hC 0 dL_query_2 rfl rfl ?_
  refine r_callTVH hC (k := 0) [] [aI 0, aR 84] htb hnc dL_query_3 ml_RL_7 my_X9_query mi_X9_query lJ_0 rfl rfl ⟨by decide, by decide⟩ ⟨by decide, by decide⟩ (by decide) rfl (Ct.liftX rfl rfl okI_nr (K_query hl hR )) (fun x w' hx => ?_) (fun r w' hok hq => ?_)
  · obtain ⟨u', ⟨k, hk9, hCn⟩, rfl⟩ := hx
    rcases List.mem_cons.mp hk9 with e9 | hk9
    · cases e9
      refine ⟨11, ⟨[], [], 0, 8, 13, rfl, (fun z hz => by cases hz), by decide, by decide, kl_13, kc_3⟩, ?_⟩
      exact hnd_n 2 hC hQ ⟨by decide, by decide⟩ hk hr9 rfl (by decide) ⟨by decide, by decide⟩ dL_query_11 dL_query_12 dL_query_13 ⟨1, rfl, u', o, rfl, hCn.mono fun r2 w2 h2 => by obtain ⟨z2, e2, h3, h4⟩ := h2; exact ⟨w2, rfl, z2, e2, h3, fun e8 => absurd e8 (by decide), h4⟩⟩
    cases hk9
  · obtain ⟨u', ⟨z, rfl, hCn⟩, rfl⟩ := hq
    refine r_i2l hC dL_query_6 ?_
    refine r_last hC dL_query_7 (n := 1) lJ_84 (by decide) (by decide) ?_
    refine r_pj jN_st ?_
    refine r_goto hC (tgt := 14) dL_query_8 (by decide) ?_
    refine r_iconst hC dL_query_14 ⟨by decide, by decide⟩ ?_
    exact r_tri (kd := 0) hC hQ ⟨by decide, by decide⟩ dL_query_15 hr9 hk (by decide) (.inl rfl) ⟨u', _, rfl, hCn.mono fun r2 w2 h2 => by obtain ⟨z2, e2, h3, h4, h5⟩ := h2; exact ⟨w2, rfl, z2, e2, h3, fun _ => by rw [h4]; rfl, h5⟩⟩
theorem H_tell {l : Launch} (hl : l.stackTraces = false) {u v : St} {o : Nat → Int64} (hR : Rel u v) (a1 a2 : Int) : Ch l yL_tell cL_tell 5 (some .int) [(0, 10, 13, 19), (0, 10, 17, 13)] 8 2 LJ (jN u v o) [aR 0, aI a1, aI a2, aR 84] (okI (fun k w' => ∃ (u' : St) (o' : Nat → Int64), w' = jN u' v o' ∧ Cn l yX10_tell cX10_tell 4 (some .int) 1 LM v [aR 0, aI a1, aI a2] (okI (fun r' v' => v'.1 0 0 = k ∧ (k = 0 → o' 0 = i2l r') ∧ Rel u' v')))) := by
  refine Ch.of [some (aR 0), some (aI a1), some (aI a2), some (aR 84), none] (by decide) (Nat.le_of_ble_eq_true rfl) rfl ?_
  intro p e s m args below meth c D cA ad A Q hQ hC hr9 hk htb hnc hoks
  refine r_aload_n hC 3 dL_tell_0 rfl rfl ?_
  refine r_iconst hC dL_tell_1 ⟨by decide, by decide⟩ ?_
  refine r_aload_n hC 0 dL_tell_2 rfl rfl ?_
  refine r_iload_n hC 1 dL_tell_3 rfl rfl ?_
  refine r_iload_n hC 2 dL_tell_4 rfl rfl ?_
  refine r_callTVH hC (k := 0) [aI a1, aI a2] [aI 0, aR 84] htb hnc dL_tell_5 ml_RL_15 my_X9_tell mi_X9_tell lJ_0 rfl rfl ⟨by decide, by decide⟩ ⟨by decide, by decide⟩ (by decide) rfl (Ct.liftX rfl rfl okI_nr (K_tell hl hR a1 a2)) (fun x w' hx => ?_) (fun r w' hok hq => ?_)
  · obtain ⟨u', ⟨k, hk9, hCn⟩, rfl⟩ := hx
    rcases List.mem_cons.mp hk9 with e9 | hk9
    · cases e9
      refine ⟨13, ⟨[], [(0, 10, 17, 13)], 0, 10, 19, rfl, (fun z hz => by cases hz), by decide, by decide, kl_19, kc_2⟩, ?_⟩
      exact hnd_a hC hQ ⟨by decide, by decide⟩ hk hr9 (by decide) ⟨by decide, by decide⟩ dL_tell_13 dL_tell_15 dL_tell_16 ⟨1, rfl, u', o, rfl, hCn.mono fun r2 w2 h2 => by obtain ⟨z2, e2, h3, h4⟩ := h2; exact ⟨w2, rfl, z2, e2, h3, fun e8 => absurd e8 (by decide), h4⟩⟩
    rcases List.mem_cons.mp hk9 with e9 | hk9
    · cases e9
      refine ⟨17, ⟨[(0, 10, 13, 19)], [], 0, 10, 13, rfl, (fun z hz => by
        rcases List.mem_cons.mp hz with rfl | hz
        · exact ⟨by decide, 2, kl_19, by decide⟩
        cases hz), by decide, by decide, kl_13, kc_3⟩, ?_⟩
      exact hnd_a hC hQ ⟨by decide, by decide⟩ hk hr9 (by decide) ⟨by decide, by decide⟩ dL_tell_17 dL_tell_19 dL_tell_20 ⟨2, rfl, u', o, rfl, hCn.mono fun r2 w2 h2 => by obtain ⟨z2, e2, h3, h4⟩ := h2; exact ⟨w2, rfl, z2, e2, h3, fun e8 => absurd e8 (by decide), h4⟩⟩
    cases hk9
  · obtain ⟨u', ⟨z, rfl, hCn⟩, rfl⟩ := hq
    refine r_i2l hC dL_tell_8 ?_
    refine r_last hC dL_tell_9 (n := 1) lJ_84 (by decide) (by decide) ?_
    refine r_pj jN_st ?_
    refine r_goto hC (tgt := 21) dL_tell_10 (by decide) ?_
    refine r_iconst hC dL_tell_21 ⟨by decide, by decide⟩ ?_
    exact r_tri (kd := 0) hC hQ ⟨by decide, by decide⟩ dL_tell_22 hr9 hk (by decide) (.inl rfl) ⟨u', _, rfl, hCn.mono fun r2 w2 h2 => by obtain ⟨z2, e2, h3, h4, h5⟩ := h2; exact ⟨w2, rfl, z2, e2, h3, fun _ => by rw [h4]; rfl, h5⟩⟩
theorem H_word {l : Launch} (hl : l.stackTraces = false) {u v : St} {o : Nat → Int64} (hR : Rel u v) (a1 a2 : Int) : Ch l yL_word cL_word 5 (some .int) [(0, 10, 13, 24), (0, 10, 17, 19)] 8 2 LJ (jN u v o) [aR 0, aI a1, aI a2, aR 84] (okI (fun k w' => ∃ (u' : St) (o' : Nat → Int64), w' = jN u' v o' ∧ Cn l yX10_word cX10_word 3 (some .int) 2 LM v [aR 0, aI a1, aI a2] (okI (fun r' v' => v'.1 0 0 = k ∧ (k = 0 → o' 0 = i2l r') ∧ Rel u' v')))) := by
  refine Ch.of [some (aR 0), some (aI a1), some (aI a2), some (aR 84), none] (by decide) (Nat.le_of_ble_eq_true rfl) rfl ?_
  intro p e s m args below meth c D cA ad A Q hQ hC hr9 hk htb hnc hoks
  refine r_aload_n hC 3 dL_word_0 rfl rfl ?_
  refine r_iconst hC dL_word_1 ⟨by decide, by decide⟩ ?_
  refine r_aload_n hC 0 dL_word_2 rfl rfl ?_
  refine r_iload_n hC 1 dL_word_3 rfl rfl ?_
  refine r_iload_n hC 2 dL_word_4 rfl rfl ?_
  refine r_callTVH hC (k := 0) [aI a1, aI a2] [aI 0, aR 84] htb hnc dL_word_5 ml_RL_21 my_X9_word mi_X9_word lJ_0 rfl rfl ⟨by decide, by decide⟩ ⟨by decide, by decide⟩ (by decide) rfl (Ct.liftX rfl rfl okI_nr (K_word hl hR a1 a2)) (fun x w' hx => ?_) (fun r w' hok hq => ?_)
  · obtain ⟨u', ⟨k, hk9, hCn⟩, rfl⟩ := hx
    rcases List.mem_cons.mp hk9 with e9 | hk9
    · cases e9
      refine ⟨17, ⟨[(0, 10, 13, 24)], [], 0, 10, 19, rfl, (fun z hz => by
        rcases List.mem_cons.mp hz with rfl | hz
        · exact ⟨by decide, 1, kl_24, by decide⟩
        cases hz), by decide, by decide, kl_19, kc_2⟩, ?_⟩
      exact hnd_a hC hQ ⟨by decide, by decide⟩ hk hr9 (by decide) ⟨by decide, by decide⟩ dL_word_17 dL_word_19 dL_word_20 ⟨2, rfl, u', o, rfl, hCn.mono fun r2 w2 h2 => by obtain ⟨z2, e2, h3, h4⟩ := h2; exact ⟨w2, rfl, z2, e2, h3, fun e8 => absurd e8 (by decide), h4⟩⟩
    rcases List.mem_cons.mp hk9 with e9 | hk9
    · cases e9
      refine ⟨13, ⟨[], [(0, 10, 17, 19)], 0, 10, 24, rfl, (fun z hz => by cases hz), by decide, by decide, kl_24, kc_1⟩, ?_⟩
      exact hnd_a hC hQ ⟨by decide, by decide⟩ hk hr9 (by decide) ⟨by decide, by decide⟩ dL_word_13 dL_word_15 dL_word_16 ⟨1, rfl, u', o, rfl, hCn.mono fun r2 w2 h2 => by obtain ⟨z2, e2, h3, h4⟩ := h2; exact ⟨w2, rfl, z2, e2, h3, fun e8 => absurd e8 (by decide), h4⟩⟩
    cases hk9
  · obtain ⟨u', ⟨z, rfl, hCn⟩, rfl⟩ := hq
    refine r_i2l hC dL_word_8 ?_
    refine r_last hC dL_word_9 (n := 1) lJ_84 (by decide) (by decide) ?_
    refine r_pj jN_st ?_
    refine r_goto hC (tgt := 21) dL_word_10 (by decide) ?_
    refine r_iconst hC dL_word_21 ⟨by decide, by decide⟩ ?_
    exact r_tri (kd := 0) hC hQ ⟨by decide, by decide⟩ dL_word_22 hr9 hk (by decide) (.inl rfl) ⟨u', _, rfl, hCn.mono fun r2 w2 h2 => by obtain ⟨z2, e2, h3, h4, h5⟩ := h2; exact ⟨w2, rfl, z2, e2, h3, fun _ => by rw [h4]; rfl, h5⟩⟩
theorem H_sentence {l : Launch} (hl : l.stackTraces = false) {u v : St} {o : Nat → Int64} (hR : Rel u v) (a1 a2 : Int) : Ch l yL_sentence cL_sentence 5 (some .int) [(0, 10, 13, 24), (0, 10, 17, 19)] 8 2 LJ (jN u v o) [aR 0, aI a1, aI a2, aR 84] (okI (fun k w' => ∃ (u' : St) (o' : Nat → Int64), w' = jN u' v o' ∧ Cn l yX10_sentence cX10_sentence 4 (some .int) 5 LM v [aR 0, aI a1, aI a2] (okI (fun r' v' => v'.1 0 0 = k ∧ (k = 0 → o' 0 = i2l r') ∧ Rel u' v')))) := by
  refine Ch.of [some (aR 0), some (aI a1), some (aI a2), some (aR 84), none] (by decide) (Nat.le_of_ble_eq_true rfl) rfl ?_
  intro p e s m args below meth c D cA ad A Q hQ hC hr9 hk htb hnc hoks
  refine r_aload_n hC 3 dL_sentence_0 rfl rfl ?_
  refine r_iconst hC dL_sentence_1 ⟨by decide, by decide⟩ ?_
  refine r_aload_n hC 0 dL_sentence_2 rfl rfl ?_
  refine r_iload_n hC 1 dL_sentence_3 rfl rfl ?_
  refine r_iload_n hC 2 dL_sentence_4 rfl rfl ?_
  refine r_callTVH hC (k := 0) [aI a1, aI a2] [aI 0, aR 84] htb hnc dL_sentence_5 ml_RL_26 my_X9_sentence mi_X9_sentence lJ_0 rfl rfl ⟨by decide, by decide⟩ ⟨by decide, by decide⟩ (by decide) rfl (Ct.liftX rfl rfl okI_nr (K_sentence hl hR a1 a2)) (fun x w' hx => ?_) (fun r w' hok hq => ?_)
  · obtain ⟨u', ⟨k, hk9, hCn⟩, rfl⟩ := hx
    rcases List.mem_cons.mp hk9 with e9 | hk9
    · cases e9
      refine ⟨17, ⟨[(0, 10, 13, 24)], [], 0, 10, 19, rfl, (fun z hz => by
        rcases List.mem_cons.mp hz with rfl | hz
        · exact ⟨by decide, 1, kl_24, by decide⟩
        cases hz), by decide, by decide, kl_19, kc_2⟩, ?_⟩
      exact hnd_a hC hQ ⟨by decide, by decide⟩ hk hr9 (by decide) ⟨by decide, by decide⟩ dL_sentence_17 dL_sentence_19 dL_sentence_20 ⟨2, rfl, u', o, rfl, hCn.mono fun r2 w2 h2 => by obtain ⟨z2, e2, h3, h4⟩ := h2; exact ⟨w2, rfl, z2, e2, h3, fun e8 => absurd e8 (by decide), h4⟩⟩
    rcases List.mem_cons.mp hk9 with e9 | hk9
    · cases e9
      refine ⟨13, ⟨[], [(0, 10, 17, 19)], 0, 10, 24, rfl, (fun z hz => by cases hz), by decide, by decide, kl_24, kc_1⟩, ?_⟩
      exact hnd_a hC hQ ⟨by decide, by decide⟩ hk hr9 (by decide) ⟨by decide, by decide⟩ dL_sentence_13 dL_sentence_15 dL_sentence_16 ⟨1, rfl, u', o, rfl, hCn.mono fun r2 w2 h2 => by obtain ⟨z2, e2, h3, h4⟩ := h2; exact ⟨w2, rfl, z2, e2, h3, fun e8 => absurd e8 (by decide), h4⟩⟩
    cases hk9
  · obtain ⟨u', ⟨z, rfl, hCn⟩, rfl⟩ := hq
    refine r_i2l hC dL_sentence_8 ?_
    refine r_last hC dL_sentence_9 (n := 1) lJ_84 (by decide) (by decide) ?_
    refine r_pj jN_st ?_
    refine r_goto hC (tgt := 21) dL_sentence_10 (by decide) ?_
    refine r_iconst hC dL_sentence_21 ⟨by decide, by decide⟩ ?_
    exact r_tri (kd := 0) hC hQ ⟨by decide, by decide⟩ dL_sentence_22 hr9 hk (by decide) (.inl rfl) ⟨u', _, rfl, hCn.mono fun r2 w2 h2 => by obtain ⟨z2, e2, h3, h4, h5⟩ := h2; exact ⟨w2, rfl, z2, e2, h3, fun _ => by rw [h4]; rfl, h5⟩⟩
theorem H_item {l : Launch} (hl : l.stackTraces = false) {u v : St} {o : Nat → Int64} (hR : Rel u v) (a1 a2 : Int) : Ch l yL_item cL_item 5 (some .int) [(0, 10, 13, 24), (0, 10, 17, 19)] 8 2 LJ (jN u v o) [aR 0, aI a1, aI a2, aR 84] (okI (fun k w' => ∃ (u' : St) (o' : Nat → Int64), w' = jN u' v o' ∧ Cn l yX10_item cX10_item 3 (some .int) 2 LM v [aR 0, aI a1, aI a2] (okI (fun r' v' => v'.1 0 0 = k ∧ (k = 0 → o' 0 = i2l r') ∧ Rel u' v')))) := by
  refine Ch.of [some (aR 0), some (aI a1), some (aI a2), some (aR 84), none] (by decide) (Nat.le_of_ble_eq_true rfl) rfl ?_
  intro p e s m args below meth c D cA ad A Q hQ hC hr9 hk htb hnc hoks
  refine r_aload_n hC 3 dL_item_0 rfl rfl ?_
  refine r_iconst hC dL_item_1 ⟨by decide, by decide⟩ ?_
  refine r_aload_n hC 0 dL_item_2 rfl rfl ?_
  refine r_iload_n hC 1 dL_item_3 rfl rfl ?_
  refine r_iload_n hC 2 dL_item_4 rfl rfl ?_
  refine r_callTVH hC (k := 0) [aI a1, aI a2] [aI 0, aR 84] htb hnc dL_item_5 ml_RL_29 my_X9_item mi_X9_item lJ_0 rfl rfl ⟨by decide, by decide⟩ ⟨by decide, by decide⟩ (by decide) rfl (Ct.liftX rfl rfl okI_nr (K_item hl hR a1 a2)) (fun x w' hx => ?_) (fun r w' hok hq => ?_)
  · obtain ⟨u', ⟨k, hk9, hCn⟩, rfl⟩ := hx
    rcases List.mem_cons.mp hk9 with e9 | hk9
    · cases e9
      refine ⟨17, ⟨[(0, 10, 13, 24)], [], 0, 10, 19, rfl, (fun z hz => by
        rcases List.mem_cons.mp hz with rfl | hz
        · exact ⟨by decide, 1, kl_24, by decide⟩
        cases hz), by decide, by decide, kl_19, kc_2⟩, ?_⟩
      exact hnd_a hC hQ ⟨by decide, by decide⟩ hk hr9 (by decide) ⟨by decide, by decide⟩ dL_item_17 dL_item_19 dL_item_20 ⟨2, rfl, u', o, rfl, hCn.mono fun r2 w2 h2 => by obtain ⟨z2, e2, h3, h4⟩ := h2; exact ⟨w2, rfl, z2, e2, h3, fun e8 => absurd e8 (by decide), h4⟩⟩
    rcases List.mem_cons.mp hk9 with e9 | hk9
    · cases e9
      refine ⟨13, ⟨[], [(0, 10, 17, 19)], 0, 10, 24, rfl, (fun z hz => by cases hz), by decide, by decide, kl_24, kc_1⟩, ?_⟩
      exact hnd_a hC hQ ⟨by decide, by decide⟩ hk hr9 (by decide) ⟨by decide, by decide⟩ dL_item_13 dL_item_15 dL_item_16 ⟨1, rfl, u', o, rfl, hCn.mono fun r2 w2 h2 => by obtain ⟨z2, e2, h3, h4⟩ := h2; exact ⟨w2, rfl, z2, e2, h3, fun e8 => absurd e8 (by decide), h4⟩⟩
    cases hk9
  · obtain ⟨u', ⟨z, rfl, hCn⟩, rfl⟩ := hq
    refine r_i2l hC dL_item_8 ?_
    refine r_last hC dL_item_9 (n := 1) lJ_84 (by decide) (by decide) ?_
    refine r_pj jN_st ?_
    refine r_goto hC (tgt := 21) dL_item_10 (by decide) ?_
    refine r_iconst hC dL_item_21 ⟨by decide, by decide⟩ ?_
    exact r_tri (kd := 0) hC hQ ⟨by decide, by decide⟩ dL_item_22 hr9 hk (by decide) (.inl rfl) ⟨u', _, rfl, hCn.mono fun r2 w2 h2 => by obtain ⟨z2, e2, h3, h4, h5⟩ := h2; exact ⟨w2, rfl, z2, e2, h3, fun _ => by rw [h4]; rfl, h5⟩⟩
theorem H_fits {l : Launch} (hl : l.stackTraces = false) {u v : St} {o : Nat → Int64} (hR : Rel u v) (a1 a2 a3 : Int) : Ch l yL_fits cL_fits 6 (some .int) [(0, 19, 22, 24)] 8 2 LJ (jN u v o) [aR 0, aI a1, aI a2, aI a3, aR 84] (okI (fun k w' => ∃ (u' : St) (o' : Nat → Int64), w' = jN u' v o' ∧ Cn l yX10_fits cX10_fits 4 (some .boolean) 3 LM v [aR 0, aI a1, aI a2, aI a3] (okI (fun r' v' => v'.1 0 0 = k ∧ (k = 0 → o' 0 = zB r') ∧ Rel u' v')))) := by
  refine Ch.of [some (aR 0), some (aI a1), some (aI a2), some (aI a3), some (aR 84), none] (by decide) (Nat.le_of_ble_eq_true rfl) rfl ?_
  intro p e s m args below meth c D cA ad A Q hQ hC hr9 hk htb hnc hoks
  refine r_aload hC dL_fits_0 rfl ?_
  refine r_iconst hC dL_fits_2 ⟨by decide, by decide⟩ ?_
  refine r_aload_n hC 0 dL_fits_3 rfl rfl ?_
  refine r_iload_n hC 1 dL_fits_4 rfl rfl ?_
  refine r_iload_n hC 2 dL_fits_5 rfl rfl ?_
  refine r_iload_n hC 3 dL_fits_6 rfl rfl ?_
  refine r_callTVH hC (k := 0) [aI a1, aI a2, aI a3] [aI 0, aR 84] htb hnc dL_fits_7 ml_RL_32 my_X9_fits mi_X9_fits lJ_0 rfl rfl ⟨by decide, by decide⟩ ⟨by decide, by decide⟩ (by decide) rfl (Ct.liftX rfl rfl okI_nr (K_fits hl hR a1 a2 a3)) (fun x w' hx => ?_) (fun r w' hok hq => ?_)
  · obtain ⟨u', ⟨k, hk9, hCn⟩, rfl⟩ := hx
    rcases List.mem_cons.mp hk9 with e9 | hk9
    · cases e9
      refine ⟨22, ⟨[], [], 0, 19, 24, rfl, (fun z hz => by cases hz), by decide, by decide, kl_24, kc_1⟩, ?_⟩
      exact hnd_a hC hQ ⟨by decide, by decide⟩ hk hr9 (by decide) ⟨by decide, by decide⟩ dL_fits_22 dL_fits_24 dL_fits_25 ⟨1, rfl, u', o, rfl, hCn.mono fun r2 w2 h2 => by obtain ⟨z2, e2, h3, h4⟩ := h2; exact ⟨w2, rfl, z2, e2, h3, fun e8 => absurd e8 (by decide), h4⟩⟩
    cases hk9
  · obtain ⟨u', ⟨z, rfl, hCn⟩, rfl⟩ := hq
    refine r_if_eq hC (tgt := 17) dL_fits_10 (by decide) (fun g => ?_) (fun g => ?_)
    · refine r_lconst hC dL_fits_17 rfl ?_
      refine r_last hC dL_fits_18 (n := 1) lJ_84 (by decide) (by decide) ?_
      refine r_pj jN_st ?_
      refine r_goto hC (tgt := 26) dL_fits_19 (by decide) ?_
      refine r_iconst hC dL_fits_26 ⟨by decide, by decide⟩ ?_
      exact r_tri (kd := 0) hC hQ ⟨by decide, by decide⟩ dL_fits_27 hr9 hk (by decide) (.inl rfl) ⟨u', _, rfl, hCn.mono fun r2 w2 h2 => by obtain ⟨z2, e2, h3, h4, h5⟩ := h2; exact ⟨w2, rfl, z2, e2, h3, fun _ => by rw [h4]; unfold zB; rw [if_pos g]; rfl, h5⟩⟩
    · refine r_lconst hC dL_fits_13 rfl ?_
      refine r_goto hC (tgt := 18) dL_fits_14 (by decide) ?_
      refine r_last hC dL_fits_18 (n := 1) lJ_84 (by decide) (by decide) ?_
      refine r_pj jN_st ?_
      refine r_goto hC (tgt := 26) dL_fits_19 (by decide) ?_
      refine r_iconst hC dL_fits_26 ⟨by decide, by decide⟩ ?_
      exact r_tri (kd := 0) hC hQ ⟨by decide, by decide⟩ dL_fits_27 hr9 hk (by decide) (.inl rfl) ⟨u', _, rfl, hCn.mono fun r2 w2 h2 => by obtain ⟨z2, e2, h3, h4, h5⟩ := h2; exact ⟨w2, rfl, z2, e2, h3, fun _ => by rw [h4]; unfold zB; rw [if_neg g]; rfl, h5⟩⟩
theorem H_match {l : Launch} (hl : l.stackTraces = false) {u v : St} {o : Nat → Int64} (hR : Rel u v) (a1 a2 : Int) : Ch l yL_match cL_match 5 (some .int) [(0, 10, 13, 24), (0, 10, 17, 19)] 8 2 LJ (jN u v o) [aR 0, aI a1, aI a2, aR 84] (okI (fun k w' => ∃ (u' : St) (o' : Nat → Int64), w' = jN u' v o' ∧ Cn l yX10_match cX10_match 3 (some .int) 1 LM v [aR 0, aI a1, aI a2] (okI (fun r' v' => v'.1 0 0 = k ∧ (k = 0 → o' 0 = i2l r') ∧ Rel u' v')))) := by
  refine Ch.of [some (aR 0), some (aI a1), some (aI a2), some (aR 84), none] (by decide) (Nat.le_of_ble_eq_true rfl) rfl ?_
  intro p e s m args below meth c D cA ad A Q hQ hC hr9 hk htb hnc hoks
  refine r_aload_n hC 3 dL_match_0 rfl rfl ?_
  refine r_iconst hC dL_match_1 ⟨by decide, by decide⟩ ?_
  refine r_aload_n hC 0 dL_match_2 rfl rfl ?_
  refine r_iload_n hC 1 dL_match_3 rfl rfl ?_
  refine r_iload_n hC 2 dL_match_4 rfl rfl ?_
  refine r_callTVH hC (k := 0) [aI a1, aI a2] [aI 0, aR 84] htb hnc dL_match_5 ml_RL_36 my_X9_match mi_X9_match lJ_0 rfl rfl ⟨by decide, by decide⟩ ⟨by decide, by decide⟩ (by decide) rfl (Ct.liftX rfl rfl okI_nr (K_match hl hR a1 a2)) (fun x w' hx => ?_) (fun r w' hok hq => ?_)
  · obtain ⟨u', ⟨k, hk9, hCn⟩, rfl⟩ := hx
    rcases List.mem_cons.mp hk9 with e9 | hk9
    · cases e9
      refine ⟨17, ⟨[(0, 10, 13, 24)], [], 0, 10, 19, rfl, (fun z hz => by
        rcases List.mem_cons.mp hz with rfl | hz
        · exact ⟨by decide, 1, kl_24, by decide⟩
        cases hz), by decide, by decide, kl_19, kc_2⟩, ?_⟩
      exact hnd_a hC hQ ⟨by decide, by decide⟩ hk hr9 (by decide) ⟨by decide, by decide⟩ dL_match_17 dL_match_19 dL_match_20 ⟨2, rfl, u', o, rfl, hCn.mono fun r2 w2 h2 => by obtain ⟨z2, e2, h3, h4⟩ := h2; exact ⟨w2, rfl, z2, e2, h3, fun e8 => absurd e8 (by decide), h4⟩⟩
    rcases List.mem_cons.mp hk9 with e9 | hk9
    · cases e9
      refine ⟨13, ⟨[], [(0, 10, 17, 19)], 0, 10, 24, rfl, (fun z hz => by cases hz), by decide, by decide, kl_24, kc_1⟩, ?_⟩
      exact hnd_a hC hQ ⟨by decide, by decide⟩ hk hr9 (by decide) ⟨by decide, by decide⟩ dL_match_13 dL_match_15 dL_match_16 ⟨1, rfl, u', o, rfl, hCn.mono fun r2 w2 h2 => by obtain ⟨z2, e2, h3, h4⟩ := h2; exact ⟨w2, rfl, z2, e2, h3, fun e8 => absurd e8 (by decide), h4⟩⟩
    cases hk9
  · obtain ⟨u', ⟨z, rfl, hCn⟩, rfl⟩ := hq
    refine r_i2l hC dL_match_8 ?_
    refine r_last hC dL_match_9 (n := 1) lJ_84 (by decide) (by decide) ?_
    refine r_pj jN_st ?_
    refine r_goto hC (tgt := 21) dL_match_10 (by decide) ?_
    refine r_iconst hC dL_match_21 ⟨by decide, by decide⟩ ?_
    exact r_tri (kd := 0) hC hQ ⟨by decide, by decide⟩ dL_match_22 hr9 hk (by decide) (.inl rfl) ⟨u', _, rfl, hCn.mono fun r2 w2 h2 => by obtain ⟨z2, e2, h3, h4, h5⟩ := h2; exact ⟨w2, rfl, z2, e2, h3, fun _ => by rw [h4]; rfl, h5⟩⟩
theorem H_window {l : Launch} (hl : l.stackTraces = false) {u v : St} {o : Nat → Int64} (hR : Rel u v) (a1 a2 a3 : Int) (hr : rng a1) : Ch l yL_window cL_window 6 (some .int) [(0, 12, 15, 19), (0, 12, 19, 13)] 8 2 LJ (jN u v o) [aR 0, aI a1, aI a2, aI a3, aR 84] (okI (fun k w' => ∃ (u' : St) (o' : Nat → Int64), w' = jN u' v o' ∧ Cn l yX10_window cX10_window 7 (some .int) 3 LM v [aR 0, aI a1, aI a2, aI a3] (okI (fun r' v' => v'.1 0 0 = k ∧ (k = 0 → o' 0 = i2l r') ∧ Rel u' v')))) := by
  refine Ch.of [some (aR 0), some (aI a1), some (aI a2), some (aI a3), some (aR 84), none] (by decide) (Nat.le_of_ble_eq_true rfl) rfl ?_
  intro p e s m args below meth c D cA ad A Q hQ hC hr9 hk htb hnc hoks
  refine r_aload hC dL_window_0 rfl ?_
  refine r_iconst hC dL_window_2 ⟨by decide, by decide⟩ ?_
  refine r_aload_n hC 0 dL_window_3 rfl rfl ?_
  refine r_iload_n hC 1 dL_window_4 rfl rfl ?_
  refine r_iload_n hC 2 dL_window_5 rfl rfl ?_
  refine r_iload_n hC 3 dL_window_6 rfl rfl ?_
  refine r_callTVH hC (k := 0) [aI a1, aI a2, aI a3] [aI 0, aR 84] htb hnc dL_window_7 ml_RL_39 my_X9_window mi_X9_window lJ_0 rfl rfl ⟨by decide, by decide⟩ ⟨by decide, by decide⟩ (by decide) rfl (Ct.liftX rfl rfl okI_nr (K_window hl hR a1 a2 a3 hr)) (fun x w' hx => ?_) (fun r w' hok hq => ?_)
  · obtain ⟨u', ⟨k, hk9, hCn⟩, rfl⟩ := hx
    rcases List.mem_cons.mp hk9 with e9 | hk9
    · cases e9
      refine ⟨15, ⟨[], [(0, 12, 19, 13)], 0, 12, 19, rfl, (fun z hz => by cases hz), by decide, by decide, kl_19, kc_2⟩, ?_⟩
      exact hnd_a hC hQ ⟨by decide, by decide⟩ hk hr9 (by decide) ⟨by decide, by decide⟩ dL_window_15 dL_window_17 dL_window_18 ⟨1, rfl, u', o, rfl, hCn.mono fun r2 w2 h2 => by obtain ⟨z2, e2, h3, h4⟩ := h2; exact ⟨w2, rfl, z2, e2, h3, fun e8 => absurd e8 (by decide), h4⟩⟩
    rcases List.mem_cons.mp hk9 with e9 | hk9
    · cases e9
      refine ⟨19, ⟨[(0, 12, 15, 19)], [], 0, 12, 13, rfl, (fun z hz => by
        rcases List.mem_cons.mp hz with rfl | hz
        · exact ⟨by decide, 2, kl_19, by decide⟩
        cases hz), by decide, by decide, kl_13, kc_3⟩, ?_⟩
      exact hnd_a hC hQ ⟨by decide, by decide⟩ hk hr9 (by decide) ⟨by decide, by decide⟩ dL_window_19 dL_window_21 dL_window_22 ⟨2, rfl, u', o, rfl, hCn.mono fun r2 w2 h2 => by obtain ⟨z2, e2, h3, h4⟩ := h2; exact ⟨w2, rfl, z2, e2, h3, fun e8 => absurd e8 (by decide), h4⟩⟩
    cases hk9
  · obtain ⟨u', ⟨z, rfl, hCn⟩, rfl⟩ := hq
    refine r_i2l hC dL_window_10 ?_
    refine r_last hC dL_window_11 (n := 1) lJ_84 (by decide) (by decide) ?_
    refine r_pj jN_st ?_
    refine r_goto hC (tgt := 23) dL_window_12 (by decide) ?_
    refine r_iconst hC dL_window_23 ⟨by decide, by decide⟩ ?_
    exact r_tri (kd := 0) hC hQ ⟨by decide, by decide⟩ dL_window_24 hr9 hk (by decide) (.inl rfl) ⟨u', _, rfl, hCn.mono fun r2 w2 h2 => by obtain ⟨z2, e2, h3, h4, h5⟩ := h2; exact ⟨w2, rfl, z2, e2, h3, fun _ => by rw [h4]; rfl, h5⟩⟩
theorem H_least {l : Launch} (hl : l.stackTraces = false) {u v : St} {o : Nat → Int64} (hR : Rel u v) (a1 a2 : Int) (hr : rng a1) : Ch l yL_least cL_least 5 (some .int) [(0, 10, 13, 19), (0, 10, 17, 13)] 8 2 LJ (jN u v o) [aR 0, aI a1, aI a2, aR 84] (okI (fun k w' => ∃ (u' : St) (o' : Nat → Int64), w' = jN u' v o' ∧ Cn l yX10_least cX10_least 7 (some .int) 3 LM v [aR 0, aI a1, aI a2] (okI (fun r' v' => v'.1 0 0 = k ∧ (k = 0 → o' 0 = i2l r') ∧ Rel u' v')))) := by
  refine Ch.of [some (aR 0), some (aI a1), some (aI a2), some (aR 84), none] (by decide) (Nat.le_of_ble_eq_true rfl) rfl ?_
  intro p e s m args below meth c D cA ad A Q hQ hC hr9 hk htb hnc hoks
  refine r_aload_n hC 3 dL_least_0 rfl rfl ?_
  refine r_iconst hC dL_least_1 ⟨by decide, by decide⟩ ?_
  refine r_aload_n hC 0 dL_least_2 rfl rfl ?_
  refine r_iload_n hC 1 dL_least_3 rfl rfl ?_
  refine r_iload_n hC 2 dL_least_4 rfl rfl ?_
  refine r_callTVH hC (k := 0) [aI a1, aI a2] [aI 0, aR 84] htb hnc dL_least_5 ml_RL_43 my_X9_least mi_X9_least lJ_0 rfl rfl ⟨by decide, by decide⟩ ⟨by decide, by decide⟩ (by decide) rfl (Ct.liftX rfl rfl okI_nr (K_least hl hR a1 a2 hr)) (fun x w' hx => ?_) (fun r w' hok hq => ?_)
  · obtain ⟨u', ⟨k, hk9, hCn⟩, rfl⟩ := hx
    rcases List.mem_cons.mp hk9 with e9 | hk9
    · cases e9
      refine ⟨13, ⟨[], [(0, 10, 17, 13)], 0, 10, 19, rfl, (fun z hz => by cases hz), by decide, by decide, kl_19, kc_2⟩, ?_⟩
      exact hnd_a hC hQ ⟨by decide, by decide⟩ hk hr9 (by decide) ⟨by decide, by decide⟩ dL_least_13 dL_least_15 dL_least_16 ⟨1, rfl, u', o, rfl, hCn.mono fun r2 w2 h2 => by obtain ⟨z2, e2, h3, h4⟩ := h2; exact ⟨w2, rfl, z2, e2, h3, fun e8 => absurd e8 (by decide), h4⟩⟩
    rcases List.mem_cons.mp hk9 with e9 | hk9
    · cases e9
      refine ⟨17, ⟨[(0, 10, 13, 19)], [], 0, 10, 13, rfl, (fun z hz => by
        rcases List.mem_cons.mp hz with rfl | hz
        · exact ⟨by decide, 2, kl_19, by decide⟩
        cases hz), by decide, by decide, kl_13, kc_3⟩, ?_⟩
      exact hnd_a hC hQ ⟨by decide, by decide⟩ hk hr9 (by decide) ⟨by decide, by decide⟩ dL_least_17 dL_least_19 dL_least_20 ⟨2, rfl, u', o, rfl, hCn.mono fun r2 w2 h2 => by obtain ⟨z2, e2, h3, h4⟩ := h2; exact ⟨w2, rfl, z2, e2, h3, fun e8 => absurd e8 (by decide), h4⟩⟩
    cases hk9
  · obtain ⟨u', ⟨z, rfl, hCn⟩, rfl⟩ := hq
    refine r_i2l hC dL_least_8 ?_
    refine r_last hC dL_least_9 (n := 1) lJ_84 (by decide) (by decide) ?_
    refine r_pj jN_st ?_
    refine r_goto hC (tgt := 21) dL_least_10 (by decide) ?_
    refine r_iconst hC dL_least_21 ⟨by decide, by decide⟩ ?_
    exact r_tri (kd := 0) hC hQ ⟨by decide, by decide⟩ dL_least_22 hr9 hk (by decide) (.inl rfl) ⟨u', _, rfl, hCn.mono fun r2 w2 h2 => by obtain ⟨z2, e2, h3, h4, h5⟩ := h2; exact ⟨w2, rfl, z2, e2, h3, fun _ => by rw [h4]; rfl, h5⟩⟩
theorem H_most {l : Launch} (hl : l.stackTraces = false) {u v : St} {o : Nat → Int64} (hR : Rel u v) (a1 : Int) : Ch l yL_most cL_most 4 (some .int) [(0, 9, 12, 13)] 8 1 LJ (jN u v o) [aR 0, aI a1, aR 84] (okI (fun k w' => ∃ (u' : St) (o' : Nat → Int64), w' = jN u' v o' ∧ Cn l yX10_most cX10_most 7 (some .int) 1 LM v [aR 0, aI a1] (okI (fun r' v' => v'.1 0 0 = k ∧ (k = 0 → o' 0 = i2l r') ∧ Rel u' v')))) := by
  refine Ch.of [some (aR 0), some (aI a1), some (aR 84), none] (by decide) (Nat.le_of_ble_eq_true rfl) rfl ?_
  intro p e s m args below meth c D cA ad A Q hQ hC hr9 hk htb hnc hoks
  refine r_aload_n hC 2 dL_most_0 rfl rfl ?_
  refine r_iconst hC dL_most_1 ⟨by decide, by decide⟩ ?_
  refine r_aload_n hC 0 dL_most_2 rfl rfl ?_
  refine r_iload_n hC 1 dL_most_3 rfl rfl ?_
  refine r_callTVH hC (k := 0) [aI a1] [aI 0, aR 84] htb hnc dL_most_4 ml_RL_46 my_X9_most mi_X9_most lJ_0 rfl rfl ⟨by decide, by decide⟩ ⟨by decide, by decide⟩ (by decide) rfl (Ct.liftX rfl rfl okI_nr (K_most hl hR a1)) (fun x w' hx => ?_) (fun r w' hok hq => ?_)
  · obtain ⟨u', ⟨k, hk9, hCn⟩, rfl⟩ := hx
    rcases List.mem_cons.mp hk9 with e9 | hk9
    · cases e9
      refine ⟨12, ⟨[], [], 0, 9, 13, rfl, (fun z hz => by cases hz), by decide, by decide, kl_13, kc_3⟩, ?_⟩
      exact hnd_n 3 hC hQ ⟨by decide, by decide⟩ hk hr9 rfl (by decide) ⟨by decide, by decide⟩ dL_most_12 dL_most_13 dL_most_14 ⟨1, rfl, u', o, rfl, hCn.mono fun r2 w2 h2 => by obtain ⟨z2, e2, h3, h4⟩ := h2; exact ⟨w2, rfl, z2, e2, h3, fun e8 => absurd e8 (by decide), h4⟩⟩
    cases hk9
  · obtain ⟨u', ⟨z, rfl, hCn⟩, rfl⟩ := hq
    refine r_i2l hC dL_most_7 ?_
    refine r_last hC dL_most_8 (n := 1) lJ_84 (by decide) (by decide) ?_
    refine r_pj jN_st ?_
    refine r_goto hC (tgt := 15) dL_most_9 (by decide) ?_
    refine r_iconst hC dL_most_15 ⟨by decide, by decide⟩ ?_
    exact r_tri (kd := 0) hC hQ ⟨by decide, by decide⟩ dL_most_16 hr9 hk (by decide) (.inl rfl) ⟨u', _, rfl, hCn.mono fun r2 w2 h2 => by obtain ⟨z2, e2, h3, h4, h5⟩ := h2; exact ⟨w2, rfl, z2, e2, h3, fun _ => by rw [h4]; rfl, h5⟩⟩
theorem H_widest {l : Launch} (hl : l.stackTraces = false) {u v : St} {o : Nat → Int64} (hR : Rel u v) (a1 a2 : Int) : Ch l yL_widest cL_widest 5 (some .int) [(0, 10, 13, 19), (0, 10, 17, 13)] 8 2 LJ (jN u v o) [aR 0, aI a1, aI a2, aR 84] (okI (fun k w' => ∃ (u' : St) (o' : Nat → Int64), w' = jN u' v o' ∧ Cn l yX10_widest cX10_widest 3 (some .int) 3 LM v [aR 0, aI a1, aI a2] (okI (fun r' v' => v'.1 0 0 = k ∧ (k = 0 → o' 0 = i2l r') ∧ Rel u' v')))) := by
  refine Ch.of [some (aR 0), some (aI a1), some (aI a2), some (aR 84), none] (by decide) (Nat.le_of_ble_eq_true rfl) rfl ?_
  intro p e s m args below meth c D cA ad A Q hQ hC hr9 hk htb hnc hoks
  refine r_aload_n hC 3 dL_widest_0 rfl rfl ?_
  refine r_iconst hC dL_widest_1 ⟨by decide, by decide⟩ ?_
  refine r_aload_n hC 0 dL_widest_2 rfl rfl ?_
  refine r_iload_n hC 1 dL_widest_3 rfl rfl ?_
  refine r_iload_n hC 2 dL_widest_4 rfl rfl ?_
  refine r_callTVH hC (k := 0) [aI a1, aI a2] [aI 0, aR 84] htb hnc dL_widest_5 ml_RL_50 my_X9_widest mi_X9_widest lJ_0 rfl rfl ⟨by decide, by decide⟩ ⟨by decide, by decide⟩ (by decide) rfl (Ct.liftX rfl rfl okI_nr (K_widest hl hR a1 a2)) (fun x w' hx => ?_) (fun r w' hok hq => ?_)
  · obtain ⟨u', ⟨k, hk9, hCn⟩, rfl⟩ := hx
    rcases List.mem_cons.mp hk9 with e9 | hk9
    · cases e9
      refine ⟨13, ⟨[], [(0, 10, 17, 13)], 0, 10, 19, rfl, (fun z hz => by cases hz), by decide, by decide, kl_19, kc_2⟩, ?_⟩
      exact hnd_a hC hQ ⟨by decide, by decide⟩ hk hr9 (by decide) ⟨by decide, by decide⟩ dL_widest_13 dL_widest_15 dL_widest_16 ⟨1, rfl, u', o, rfl, hCn.mono fun r2 w2 h2 => by obtain ⟨z2, e2, h3, h4⟩ := h2; exact ⟨w2, rfl, z2, e2, h3, fun e8 => absurd e8 (by decide), h4⟩⟩
    rcases List.mem_cons.mp hk9 with e9 | hk9
    · cases e9
      refine ⟨17, ⟨[(0, 10, 13, 19)], [], 0, 10, 13, rfl, (fun z hz => by
        rcases List.mem_cons.mp hz with rfl | hz
        · exact ⟨by decide, 2, kl_19, by decide⟩
        cases hz), by decide, by decide, kl_13, kc_3⟩, ?_⟩
      exact hnd_a hC hQ ⟨by decide, by decide⟩ hk hr9 (by decide) ⟨by decide, by decide⟩ dL_widest_17 dL_widest_19 dL_widest_20 ⟨2, rfl, u', o, rfl, hCn.mono fun r2 w2 h2 => by obtain ⟨z2, e2, h3, h4⟩ := h2; exact ⟨w2, rfl, z2, e2, h3, fun e8 => absurd e8 (by decide), h4⟩⟩
    cases hk9
  · obtain ⟨u', ⟨z, rfl, hCn⟩, rfl⟩ := hq
    refine r_i2l hC dL_widest_8 ?_
    refine r_last hC dL_widest_9 (n := 1) lJ_84 (by decide) (by decide) ?_
    refine r_pj jN_st ?_
    refine r_goto hC (tgt := 21) dL_widest_10 (by decide) ?_
    refine r_iconst hC dL_widest_21 ⟨by decide, by decide⟩ ?_
    exact r_tri (kd := 0) hC hQ ⟨by decide, by decide⟩ dL_widest_22 hr9 hk (by decide) (.inl rfl) ⟨u', _, rfl, hCn.mono fun r2 w2 h2 => by obtain ⟨z2, e2, h3, h4, h5⟩ := h2; exact ⟨w2, rfl, z2, e2, h3, fun _ => by rw [h4]; rfl, h5⟩⟩
theorem H_cut {l : Launch} (hl : l.stackTraces = false) {u v : St} {o : Nat → Int64} (hR : Rel u v) (a1 a2 a3 : Int) : Ch l yL_cut cL_cut 6 (some .int) [(0, 12, 15, 24), (0, 12, 19, 19), (0, 12, 23, 13)] 8 3 LJ (jN u v o) [aR 0, aI a1, aI a2, aI a3, aR 84] (okI (fun k w' => ∃ (u' : St) (o' : Nat → Int64), w' = jN u' v o' ∧ Cn l yX10_cut cX10_cut 5 (some .int) 4 LM v [aR 0, aI a1, aI a2, aI a3] (okI (fun r' v' => v'.1 0 0 = k ∧ (k = 0 → o' 0 = i2l r') ∧ Rel u' v')))) := by
  refine Ch.of [some (aR 0), some (aI a1), some (aI a2), some (aI a3), some (aR 84), none] (by decide) (Nat.le_of_ble_eq_true rfl) rfl ?_
  intro p e s m args below meth c D cA ad A Q hQ hC hr9 hk htb hnc hoks
  refine r_aload hC dL_cut_0 rfl ?_
  refine r_iconst hC dL_cut_2 ⟨by decide, by decide⟩ ?_
  refine r_aload_n hC 0 dL_cut_3 rfl rfl ?_
  refine r_iload_n hC 1 dL_cut_4 rfl rfl ?_
  refine r_iload_n hC 2 dL_cut_5 rfl rfl ?_
  refine r_iload_n hC 3 dL_cut_6 rfl rfl ?_
  refine r_callTVH hC (k := 0) [aI a1, aI a2, aI a3] [aI 0, aR 84] htb hnc dL_cut_7 ml_RL_53 my_X9_cut mi_X9_cut lJ_0 rfl rfl ⟨by decide, by decide⟩ ⟨by decide, by decide⟩ (by decide) rfl (Ct.liftX rfl rfl okI_nr (K_cut hl hR a1 a2 a3)) (fun x w' hx => ?_) (fun r w' hok hq => ?_)
  · obtain ⟨u', ⟨k, hk9, hCn⟩, rfl⟩ := hx
    rcases List.mem_cons.mp hk9 with e9 | hk9
    · cases e9
      refine ⟨15, ⟨[], [(0, 12, 19, 19), (0, 12, 23, 13)], 0, 12, 24, rfl, (fun z hz => by cases hz), by decide, by decide, kl_24, kc_1⟩, ?_⟩
      exact hnd_a hC hQ ⟨by decide, by decide⟩ hk hr9 (by decide) ⟨by decide, by decide⟩ dL_cut_15 dL_cut_17 dL_cut_18 ⟨1, rfl, u', o, rfl, hCn.mono fun r2 w2 h2 => by obtain ⟨z2, e2, h3, h4⟩ := h2; exact ⟨w2, rfl, z2, e2, h3, fun e8 => absurd e8 (by decide), h4⟩⟩
    rcases List.mem_cons.mp hk9 with e9 | hk9
    · cases e9
      refine ⟨19, ⟨[(0, 12, 15, 24)], [(0, 12, 23, 13)], 0, 12, 19, rfl, (fun z hz => by
        rcases List.mem_cons.mp hz with rfl | hz
        · exact ⟨by decide, 1, kl_24, by decide⟩
        cases hz), by decide, by decide, kl_19, kc_2⟩, ?_⟩
      exact hnd_a hC hQ ⟨by decide, by decide⟩ hk hr9 (by decide) ⟨by decide, by decide⟩ dL_cut_19 dL_cut_21 dL_cut_22 ⟨2, rfl, u', o, rfl, hCn.mono fun r2 w2 h2 => by obtain ⟨z2, e2, h3, h4⟩ := h2; exact ⟨w2, rfl, z2, e2, h3, fun e8 => absurd e8 (by decide), h4⟩⟩
    rcases List.mem_cons.mp hk9 with e9 | hk9
    · cases e9
      refine ⟨23, ⟨[(0, 12, 15, 24), (0, 12, 19, 19)], [], 0, 12, 13, rfl, (fun z hz => by
        rcases List.mem_cons.mp hz with rfl | hz
        · exact ⟨by decide, 1, kl_24, by decide⟩
        rcases List.mem_cons.mp hz with rfl | hz
        · exact ⟨by decide, 2, kl_19, by decide⟩
        cases hz), by decide, by decide, kl_13, kc_3⟩, ?_⟩
      exact hnd_a hC hQ ⟨by decide, by decide⟩ hk hr9 (by decide) ⟨by decide, by decide⟩ dL_cut_23 dL_cut_25 dL_cut_26 ⟨3, rfl, u', o, rfl, hCn.mono fun r2 w2 h2 => by obtain ⟨z2, e2, h3, h4⟩ := h2; exact ⟨w2, rfl, z2, e2, h3, fun e8 => absurd e8 (by decide), h4⟩⟩
    cases hk9
  · obtain ⟨u', ⟨z, rfl, hCn⟩, rfl⟩ := hq
    refine r_i2l hC dL_cut_10 ?_
    refine r_last hC dL_cut_11 (n := 1) lJ_84 (by decide) (by decide) ?_
    refine r_pj jN_st ?_
    refine r_goto hC (tgt := 27) dL_cut_12 (by decide) ?_
    refine r_iconst hC dL_cut_27 ⟨by decide, by decide⟩ ?_
    exact r_tri (kd := 0) hC hQ ⟨by decide, by decide⟩ dL_cut_28 hr9 hk (by decide) (.inl rfl) ⟨u', _, rfl, hCn.mono fun r2 w2 h2 => by obtain ⟨z2, e2, h3, h4, h5⟩ := h2; exact ⟨w2, rfl, z2, e2, h3, fun _ => by rw [h4]; rfl, h5⟩⟩
theorem H_set {l : Launch} (hl : l.stackTraces = false) {u v : St} {o : Nat → Int64} (hR : Rel u v) (a1 a2 : Int) (hr : rng a1) : Ch l yL_set cL_set 5 (some .int) [(0, 10, 13, 19), (0, 10, 17, 13)] 8 2 LJ (jN u v o) [aR 0, aI a1, aI a2, aR 84] (okI (fun k w' => ∃ (u' : St) (o' : Nat → Int64), w' = jN u' v o' ∧ Cn l yX10_set cX10_set 5 (some .int) 4 LM v [aR 0, aI a1, aI a2] (okI (fun r' v' => v'.1 0 0 = k ∧ (k = 0 → o' 0 = i2l r') ∧ Rel u' v')))) := by
  refine Ch.of [some (aR 0), some (aI a1), some (aI a2), some (aR 84), none] (by decide) (Nat.le_of_ble_eq_true rfl) rfl ?_
  intro p e s m args below meth c D cA ad A Q hQ hC hr9 hk htb hnc hoks
  refine r_aload_n hC 3 dL_set_0 rfl rfl ?_
  refine r_iconst hC dL_set_1 ⟨by decide, by decide⟩ ?_
  refine r_aload_n hC 0 dL_set_2 rfl rfl ?_
  refine r_iload_n hC 1 dL_set_3 rfl rfl ?_
  refine r_iload_n hC 2 dL_set_4 rfl rfl ?_
  refine r_callTVH hC (k := 0) [aI a1, aI a2] [aI 0, aR 84] htb hnc dL_set_5 ml_RL_56 my_X9_set mi_X9_set lJ_0 rfl rfl ⟨by decide, by decide⟩ ⟨by decide, by decide⟩ (by decide) rfl (Ct.liftX rfl rfl okI_nr (K_set hl hR a1 a2 hr)) (fun x w' hx => ?_) (fun r w' hok hq => ?_)
  · obtain ⟨u', ⟨k, hk9, hCn⟩, rfl⟩ := hx
    rcases List.mem_cons.mp hk9 with e9 | hk9
    · cases e9
      refine ⟨13, ⟨[], [(0, 10, 17, 13)], 0, 10, 19, rfl, (fun z hz => by cases hz), by decide, by decide, kl_19, kc_2⟩, ?_⟩
      exact hnd_a hC hQ ⟨by decide, by decide⟩ hk hr9 (by decide) ⟨by decide, by decide⟩ dL_set_13 dL_set_15 dL_set_16 ⟨1, rfl, u', o, rfl, hCn.mono fun r2 w2 h2 => by obtain ⟨z2, e2, h3, h4⟩ := h2; exact ⟨w2, rfl, z2, e2, h3, fun e8 => absurd e8 (by decide), h4⟩⟩
    rcases List.mem_cons.mp hk9 with e9 | hk9
    · cases e9
      refine ⟨17, ⟨[(0, 10, 13, 19)], [], 0, 10, 13, rfl, (fun z hz => by
        rcases List.mem_cons.mp hz with rfl | hz
        · exact ⟨by decide, 2, kl_19, by decide⟩
        cases hz), by decide, by decide, kl_13, kc_3⟩, ?_⟩
      exact hnd_a hC hQ ⟨by decide, by decide⟩ hk hr9 (by decide) ⟨by decide, by decide⟩ dL_set_17 dL_set_19 dL_set_20 ⟨2, rfl, u', o, rfl, hCn.mono fun r2 w2 h2 => by obtain ⟨z2, e2, h3, h4⟩ := h2; exact ⟨w2, rfl, z2, e2, h3, fun e8 => absurd e8 (by decide), h4⟩⟩
    cases hk9
  · obtain ⟨u', ⟨z, rfl, hCn⟩, rfl⟩ := hq
    refine r_i2l hC dL_set_8 ?_
    refine r_last hC dL_set_9 (n := 1) lJ_84 (by decide) (by decide) ?_
    refine r_pj jN_st ?_
    refine r_goto hC (tgt := 21) dL_set_10 (by decide) ?_
    refine r_iconst hC dL_set_21 ⟨by decide, by decide⟩ ?_
    exact r_tri (kd := 0) hC hQ ⟨by decide, by decide⟩ dL_set_22 hr9 hk (by decide) (.inl rfl) ⟨u', _, rfl, hCn.mono fun r2 w2 h2 => by obtain ⟨z2, e2, h3, h4, h5⟩ := h2; exact ⟨w2, rfl, z2, e2, h3, fun _ => by rw [h4]; rfl, h5⟩⟩
theorem H_common {l : Launch} (hl : l.stackTraces = false) {u v : St} {o : Nat → Int64} (hR : Rel u v) (a1 a2 : Int) : Ch l yL_common cL_common 5 (some .int) [(0, 10, 13, 24)] 8 2 LJ (jN u v o) [aR 0, aI a1, aI a2, aR 84] (okI (fun k w' => ∃ (u' : St) (o' : Nat → Int64), w' = jN u' v o' ∧ Cn l yX10_common cX10_common 3 (some .int) 2 LM v [aR 0, aI a1, aI a2] (okI (fun r' v' => v'.1 0 0 = k ∧ (k = 0 → o' 0 = i2l r') ∧ Rel u' v')))) := by
  refine Ch.of [some (aR 0), some (aI a1), some (aI a2), some (aR 84), none] (by decide) (Nat.le_of_ble_eq_true rfl) rfl ?_
  intro p e s m args below meth c D cA ad A Q hQ hC hr9 hk htb hnc hoks
  refine r_aload_n hC 3 dL_common_0 rfl rfl ?_
  refine r_iconst hC dL_common_1 ⟨by decide, by decide⟩ ?_
  refine r_aload_n hC 0 dL_common_2 rfl rfl ?_
  refine r_iload_n hC 1 dL_common_3 rfl rfl ?_
  refine r_iload_n hC 2 dL_common_4 rfl rfl ?_
  refine r_callTVH hC (k := 0) [aI a1, aI a2] [aI 0, aR 84] htb hnc dL_common_5 ml_RL_59 my_X9_common mi_X9_common lJ_0 rfl rfl ⟨by decide, by decide⟩ ⟨by decide, by decide⟩ (by decide) rfl (Ct.liftX rfl rfl okI_nr (K_common hl hR a1 a2)) (fun x w' hx => ?_) (fun r w' hok hq => ?_)
  · obtain ⟨u', ⟨k, hk9, hCn⟩, rfl⟩ := hx
    rcases List.mem_cons.mp hk9 with e9 | hk9
    · cases e9
      refine ⟨13, ⟨[], [], 0, 10, 24, rfl, (fun z hz => by cases hz), by decide, by decide, kl_24, kc_1⟩, ?_⟩
      exact hnd_a hC hQ ⟨by decide, by decide⟩ hk hr9 (by decide) ⟨by decide, by decide⟩ dL_common_13 dL_common_15 dL_common_16 ⟨1, rfl, u', o, rfl, hCn.mono fun r2 w2 h2 => by obtain ⟨z2, e2, h3, h4⟩ := h2; exact ⟨w2, rfl, z2, e2, h3, fun e8 => absurd e8 (by decide), h4⟩⟩
    cases hk9
  · obtain ⟨u', ⟨z, rfl, hCn⟩, rfl⟩ := hq
    refine r_i2l hC dL_common_8 ?_
    refine r_last hC dL_common_9 (n := 1) lJ_84 (by decide) (by decide) ?_
    refine r_pj jN_st ?_
    refine r_goto hC (tgt := 17) dL_common_10 (by decide) ?_
    refine r_iconst hC dL_common_17 ⟨by decide, by decide⟩ ?_
    exact r_tri (kd := 0) hC hQ ⟨by decide, by decide⟩ dL_common_18 hr9 hk (by decide) (.inl rfl) ⟨u', _, rfl, hCn.mono fun r2 w2 h2 => by obtain ⟨z2, e2, h3, h4, h5⟩ := h2; exact ⟨w2, rfl, z2, e2, h3, fun _ => by rw [h4]; rfl, h5⟩⟩
theorem H_choose {l : Launch} (hl : l.stackTraces = false) {u v : St} {o : Nat → Int64} (hR : Rel u v) (a1 : Int) : Ch l yL_choose cL_choose 4 (some .int) [(0, 9, 12, 24), (0, 9, 15, 65)] 8 2 LJ (jN u v o) [aR 0, aI a1, aR 84] (okI (fun k w' => ∃ (u' : St) (o' : Nat → Int64), w' = jN u' v o' ∧ Cn l yX10_choose cX10_choose 2 (some .int) 4 LM v [aR 0, aI a1] (okI (fun r' v' => v'.1 0 0 = k ∧ (k = 0 → o' 0 = i2l r') ∧ Rel u' v')))) := by
  refine Ch.of [some (aR 0), some (aI a1), some (aR 84), none] (by decide) (Nat.le_of_ble_eq_true rfl) rfl ?_
  intro p e s m args below meth c D cA ad A Q hQ hC hr9 hk htb hnc hoks
  refine r_aload_n hC 2 dL_choose_0 rfl rfl ?_
  refine r_iconst hC dL_choose_1 ⟨by decide, by decide⟩ ?_
  refine r_aload_n hC 0 dL_choose_2 rfl rfl ?_
  refine r_iload_n hC 1 dL_choose_3 rfl rfl ?_
  refine r_callTVH hC (k := 0) [aI a1] [aI 0, aR 84] htb hnc dL_choose_4 ml_RL_62 my_X9_choose mi_X9_choose lJ_0 rfl rfl ⟨by decide, by decide⟩ ⟨by decide, by decide⟩ (by decide) rfl (Ct.liftX rfl rfl okI_nr (K_choose hl hR a1)) (fun x w' hx => ?_) (fun r w' hok hq => ?_)
  · obtain ⟨u', ⟨k, hk9, hCn⟩, rfl⟩ := hx
    rcases List.mem_cons.mp hk9 with e9 | hk9
    · cases e9
      refine ⟨12, ⟨[], [(0, 9, 15, 65)], 0, 9, 24, rfl, (fun z hz => by cases hz), by decide, by decide, kl_24, kc_1⟩, ?_⟩
      exact hnd_n 3 hC hQ ⟨by decide, by decide⟩ hk hr9 rfl (by decide) ⟨by decide, by decide⟩ dL_choose_12 dL_choose_13 dL_choose_14 ⟨1, rfl, u', o, rfl, hCn.mono fun r2 w2 h2 => by obtain ⟨z2, e2, h3, h4⟩ := h2; exact ⟨w2, rfl, z2, e2, h3, fun e8 => absurd e8 (by decide), h4⟩⟩
    rcases List.mem_cons.mp hk9 with e9 | hk9
    · cases e9
      refine ⟨15, ⟨[(0, 9, 12, 24)], [], 0, 9, 65, rfl, (fun z hz => by
        rcases List.mem_cons.mp hz with rfl | hz
        · exact ⟨by decide, 1, kl_24, by decide⟩
        cases hz), by decide, by decide, kl_65, kc_4⟩, ?_⟩
      exact hnd_n 3 hC hQ ⟨by decide, by decide⟩ hk hr9 rfl (by decide) ⟨by decide, by decide⟩ dL_choose_15 dL_choose_16 dL_choose_17 ⟨2, rfl, u', o, rfl, hCn.mono fun r2 w2 h2 => by obtain ⟨z2, e2, h3, h4⟩ := h2; exact ⟨w2, rfl, z2, e2, h3, fun e8 => absurd e8 (by decide), h4⟩⟩
    cases hk9
  · obtain ⟨u', ⟨z, rfl, hCn⟩, rfl⟩ := hq
    refine r_i2l hC dL_choose_7 ?_
    refine r_last hC dL_choose_8 (n := 1) lJ_84 (by decide) (by decide) ?_
    refine r_pj jN_st ?_
    refine r_goto hC (tgt := 18) dL_choose_9 (by decide) ?_
    refine r_iconst hC dL_choose_18 ⟨by decide, by decide⟩ ?_
    exact r_tri (kd := 0) hC hQ ⟨by decide, by decide⟩ dL_choose_19 hr9 hk (by decide) (.inl rfl) ⟨u', _, rfl, hCn.mono fun r2 w2 h2 => by obtain ⟨z2, e2, h3, h4, h5⟩ := h2; exact ⟨w2, rfl, z2, e2, h3, fun _ => by rw [h4]; rfl, h5⟩⟩
theorem H_drop {l : Launch} (hl : l.stackTraces = false) {u v : St} {o : Nat → Int64} (hR : Rel u v) (a1 : Int) : Ch l yL_drop cL_drop 4 (some .int) [(0, 9, 12, 24), (0, 9, 15, 65)] 8 2 LJ (jN u v o) [aR 0, aI a1, aR 84] (okI (fun k w' => ∃ (u' : St) (o' : Nat → Int64), w' = jN u' v o' ∧ Cn l yX10_drop cX10_drop 2 (some .int) 3 LM v [aR 0, aI a1] (okI (fun r' v' => v'.1 0 0 = k ∧ (k = 0 → o' 0 = i2l r') ∧ Rel u' v')))) := by
  refine Ch.of [some (aR 0), some (aI a1), some (aR 84), none] (by decide) (Nat.le_of_ble_eq_true rfl) rfl ?_
  intro p e s m args below meth c D cA ad A Q hQ hC hr9 hk htb hnc hoks
  refine r_aload_n hC 2 dL_drop_0 rfl rfl ?_
  refine r_iconst hC dL_drop_1 ⟨by decide, by decide⟩ ?_
  refine r_aload_n hC 0 dL_drop_2 rfl rfl ?_
  refine r_iload_n hC 1 dL_drop_3 rfl rfl ?_
  refine r_callTVH hC (k := 0) [aI a1] [aI 0, aR 84] htb hnc dL_drop_4 ml_RL_67 my_X9_drop mi_X9_drop lJ_0 rfl rfl ⟨by decide, by decide⟩ ⟨by decide, by decide⟩ (by decide) rfl (Ct.liftX rfl rfl okI_nr (K_drop hl hR a1)) (fun x w' hx => ?_) (fun r w' hok hq => ?_)
  · obtain ⟨u', ⟨k, hk9, hCn⟩, rfl⟩ := hx
    rcases List.mem_cons.mp hk9 with e9 | hk9
    · cases e9
      refine ⟨12, ⟨[], [(0, 9, 15, 65)], 0, 9, 24, rfl, (fun z hz => by cases hz), by decide, by decide, kl_24, kc_1⟩, ?_⟩
      exact hnd_n 3 hC hQ ⟨by decide, by decide⟩ hk hr9 rfl (by decide) ⟨by decide, by decide⟩ dL_drop_12 dL_drop_13 dL_drop_14 ⟨1, rfl, u', o, rfl, hCn.mono fun r2 w2 h2 => by obtain ⟨z2, e2, h3, h4⟩ := h2; exact ⟨w2, rfl, z2, e2, h3, fun e8 => absurd e8 (by decide), h4⟩⟩
    rcases List.mem_cons.mp hk9 with e9 | hk9
    · cases e9
      refine ⟨15, ⟨[(0, 9, 12, 24)], [], 0, 9, 65, rfl, (fun z hz => by
        rcases List.mem_cons.mp hz with rfl | hz
        · exact ⟨by decide, 1, kl_24, by decide⟩
        cases hz), by decide, by decide, kl_65, kc_4⟩, ?_⟩
      exact hnd_n 3 hC hQ ⟨by decide, by decide⟩ hk hr9 rfl (by decide) ⟨by decide, by decide⟩ dL_drop_15 dL_drop_16 dL_drop_17 ⟨2, rfl, u', o, rfl, hCn.mono fun r2 w2 h2 => by obtain ⟨z2, e2, h3, h4⟩ := h2; exact ⟨w2, rfl, z2, e2, h3, fun e8 => absurd e8 (by decide), h4⟩⟩
    cases hk9
  · obtain ⟨u', ⟨z, rfl, hCn⟩, rfl⟩ := hq
    refine r_i2l hC dL_drop_7 ?_
    refine r_last hC dL_drop_8 (n := 1) lJ_84 (by decide) (by decide) ?_
    refine r_pj jN_st ?_
    refine r_goto hC (tgt := 18) dL_drop_9 (by decide) ?_
    refine r_iconst hC dL_drop_18 ⟨by decide, by decide⟩ ?_
    exact r_tri (kd := 0) hC hQ ⟨by decide, by decide⟩ dL_drop_19 hr9 hk (by decide) (.inl rfl) ⟨u', _, rfl, hCn.mono fun r2 w2 h2 => by obtain ⟨z2, e2, h3, h4, h5⟩ := h2; exact ⟨w2, rfl, z2, e2, h3, fun _ => by rw [h4]; rfl, h5⟩⟩
theorem H_exchange {l : Launch} (hl : l.stackTraces = false) {u v : St} {o : Nat → Int64} (hR : Rel u v) (a1 : Int) : Ch l yL_exchange cL_exchange 4 (some .int) [(0, 9, 12, 19)] 8 1 LJ (jN u v o) [aR 0, aI a1, aR 84] (okI (fun k w' => ∃ (u' : St) (o' : Nat → Int64), w' = jN u' v o' ∧ Cn l yX10_exchange cX10_exchange 3 (some .int) 5 LM v [aR 0, aI a1] (okI (fun r' v' => v'.1 0 0 = k ∧ (k = 0 → o' 0 = i2l r') ∧ Rel u' v')))) := by
  refine Ch.of [some (aR 0), some (aI a1), some (aR 84), none] (by decide) (Nat.le_of_ble_eq_true rfl) rfl ?_
  intro p e s m args below meth c D cA ad A Q hQ hC hr9 hk htb hnc hoks
  refine r_aload_n hC 2 dL_exchange_0 rfl rfl ?_
  refine r_iconst hC dL_exchange_1 ⟨by decide, by decide⟩ ?_
  refine r_aload_n hC 0 dL_exchange_2 rfl rfl ?_
  refine r_iload_n hC 1 dL_exchange_3 rfl rfl ?_
  refine r_callTVH hC (k := 0) [aI a1] [aI 0, aR 84] htb hnc dL_exchange_4 ml_RL_70 my_X9_exchange mi_X9_exchange lJ_0 rfl rfl ⟨by decide, by decide⟩ ⟨by decide, by decide⟩ (by decide) rfl (Ct.liftX rfl rfl okI_nr (K_exchange hl hR a1)) (fun x w' hx => ?_) (fun r w' hok hq => ?_)
  · obtain ⟨u', ⟨k, hk9, hCn⟩, rfl⟩ := hx
    rcases List.mem_cons.mp hk9 with e9 | hk9
    · cases e9
      refine ⟨12, ⟨[], [], 0, 9, 19, rfl, (fun z hz => by cases hz), by decide, by decide, kl_19, kc_2⟩, ?_⟩
      exact hnd_n 3 hC hQ ⟨by decide, by decide⟩ hk hr9 rfl (by decide) ⟨by decide, by decide⟩ dL_exchange_12 dL_exchange_13 dL_exchange_14 ⟨1, rfl, u', o, rfl, hCn.mono fun r2 w2 h2 => by obtain ⟨z2, e2, h3, h4⟩ := h2; exact ⟨w2, rfl, z2, e2, h3, fun e8 => absurd e8 (by decide), h4⟩⟩
    cases hk9
  · obtain ⟨u', ⟨z, rfl, hCn⟩, rfl⟩ := hq
    refine r_i2l hC dL_exchange_7 ?_
    refine r_last hC dL_exchange_8 (n := 1) lJ_84 (by decide) (by decide) ?_
    refine r_pj jN_st ?_
    refine r_goto hC (tgt := 15) dL_exchange_9 (by decide) ?_
    refine r_iconst hC dL_exchange_15 ⟨by decide, by decide⟩ ?_
    exact r_tri (kd := 0) hC hQ ⟨by decide, by decide⟩ dL_exchange_16 hr9 hk (by decide) (.inl rfl) ⟨u', _, rfl, hCn.mono fun r2 w2 h2 => by obtain ⟨z2, e2, h3, h4, h5⟩ := h2; exact ⟨w2, rfl, z2, e2, h3, fun _ => by rw [h4]; rfl, h5⟩⟩
theorem H_trade {l : Launch} (hl : l.stackTraces = false) {u v : St} {o : Nat → Int64} (hR : Rel u v) : Ch l yL_trade cL_trade 3 (some .int) [(0, 8, 11, 65)] 7 1 LJ (jN u v o) [aR 0, aR 84] (okI (fun k w' => ∃ (u' : St) (o' : Nat → Int64), w' = jN u' v o' ∧ Cn l yX10_trade cX10_trade 1 (some .int) 5 LM v [aR 0] (okI (fun r' v' => v'.1 0 0 = k ∧ (k = 0 → o' 0 = i2l r') ∧ Rel u' v')))) := by
  refine Ch.of [some (aR 0), some (aR 84), none] (by decide) (Nat.le_of_ble_eq_true rfl) rfl ?_
  intro p e s m args below meth c D cA ad A Q hQ hC hr9 hk htb hnc hoks
  refine r_aload_n hC 1 dL_trade_0 rfl rfl ?_
  refine r_iconst hC dL_trade_1 ⟨by decide, by decide⟩ ?_
  refine r_aload_n hC 0 dL_trade_2 rfl rfl ?_
  refine r_callTVH hC (k := 0) [] [aI 0, aR 84] htb hnc dL_trade_3 ml_RL_73 my_X9_trade mi_X9_trade lJ_0 rfl rfl ⟨by decide, by decide⟩ ⟨by decide, by decide⟩ (by decide) rfl (Ct.liftX rfl rfl okI_nr (K_trade hl hR )) (fun x w' hx => ?_) (fun r w' hok hq => ?_)
  · obtain ⟨u', ⟨k, hk9, hCn⟩, rfl⟩ := hx
    rcases List.mem_cons.mp hk9 with e9 | hk9
    · cases e9
      refine ⟨11, ⟨[], [], 0, 8, 65, rfl, (fun z hz => by cases hz), by decide, by decide, kl_65, kc_4⟩, ?_⟩
      exact hnd_n 2 hC hQ ⟨by decide, by decide⟩ hk hr9 rfl (by decide) ⟨by decide, by decide⟩ dL_trade_11 dL_trade_12 dL_trade_13 ⟨1, rfl, u', o, rfl, hCn.mono fun r2 w2 h2 => by obtain ⟨z2, e2, h3, h4⟩ := h2; exact ⟨w2, rfl, z2, e2, h3, fun e8 => absurd e8 (by decide), h4⟩⟩
    cases hk9
  · obtain ⟨u', ⟨z, rfl, hCn⟩, rfl⟩ := hq
    refine r_i2l hC dL_trade_6 ?_
    refine r_last hC dL_trade_7 (n := 1) lJ_84 (by decide) (by decide) ?_
    refine r_pj jN_st ?_
    refine r_goto hC (tgt := 14) dL_trade_8 (by decide) ?_
    refine r_iconst hC dL_trade_14 ⟨by decide, by decide⟩ ?_
    exact r_tri (kd := 0) hC hQ ⟨by decide, by decide⟩ dL_trade_15 hr9 hk (by decide) (.inl rfl) ⟨u', _, rfl, hCn.mono fun r2 w2 h2 => by obtain ⟨z2, e2, h3, h4, h5⟩ := h2; exact ⟨w2, rfl, z2, e2, h3, fun _ => by rw [h4]; rfl, h5⟩⟩
theorem H_need {l : Launch} (hl : l.stackTraces = false) {u v : St} {o : Nat → Int64} (hR : Rel u v) (a1 : Int) : Ch l yL_need cL_need 4 (some .int) [(0, 9, 12, 13)] 13 1 LJ (jN u v o) [aR 0, aI a1, aR 84] (okI (fun k w' => ∃ (u' : St) (o' : Nat → Int64), w' = jN u' v o' ∧ Cn l yX10_need cX10_need 4 (some .int) 3 LM v [aR 0, aI a1] (okI (fun r' v' => v'.1 0 0 = k ∧ (k = 0 → o' 0 = i2l r') ∧ Rel u' v')))) := by
  refine Ch.of [some (aR 0), some (aI a1), some (aR 84), none] (by decide) (Nat.le_of_ble_eq_true rfl) rfl ?_
  intro p e s m args below meth c D cA ad A Q hQ hC hr9 hk htb hnc hoks
  refine r_aload_n hC 2 dL_need_0 rfl rfl ?_
  refine r_iconst hC dL_need_1 ⟨by decide, by decide⟩ ?_
  refine r_aload_n hC 0 dL_need_2 rfl rfl ?_
  refine r_iload_n hC 1 dL_need_3 rfl rfl ?_
  refine r_callTVH hC (k := 0) [aI a1] [aI 0, aR 84] htb hnc dL_need_4 ml_RL_76 my_X9_need mi_X9_need lJ_0 rfl rfl ⟨by decide, by decide⟩ ⟨by decide, by decide⟩ (by decide) rfl (Ct.liftX rfl rfl okI_nr (K_need hl hR a1)) (fun x w' hx => ?_) (fun r w' hok hq => ?_)
  · obtain ⟨u', ⟨k, hk9, hCn⟩, rfl⟩ := hx
    rcases List.mem_cons.mp hk9 with e9 | hk9
    · cases e9
      refine ⟨12, ⟨[], [], 0, 9, 13, rfl, (fun z hz => by cases hz), by decide, by decide, kl_13, kc_3⟩, ?_⟩
      exact hnd_n 3 hC hQ ⟨by decide, by decide⟩ hk hr9 rfl (by decide) ⟨by decide, by decide⟩ dL_need_12 dL_need_13 dL_need_14 ⟨1, rfl, u', o, rfl, hCn.mono fun r2 w2 h2 => by obtain ⟨z2, e2, h3, h4⟩ := h2; exact ⟨w2, rfl, z2, e2, h3, fun e8 => absurd e8 (by decide), h4⟩⟩
    cases hk9
  · obtain ⟨u', ⟨z, rfl, hCn⟩, rfl⟩ := hq
    refine r_i2l hC dL_need_7 ?_
    refine r_last hC dL_need_8 (n := 1) lJ_84 (by decide) (by decide) ?_
    refine r_pj jN_st ?_
    refine r_goto hC (tgt := 15) dL_need_9 (by decide) ?_
    refine r_iconst hC dL_need_15 ⟨by decide, by decide⟩ ?_
    exact r_tri (kd := 0) hC hQ ⟨by decide, by decide⟩ dL_need_16 hr9 hk (by decide) (.inl rfl) ⟨u', _, rfl, hCn.mono fun r2 w2 h2 => by obtain ⟨z2, e2, h3, h4, h5⟩ := h2; exact ⟨w2, rfl, z2, e2, h3, fun _ => by rw [h4]; rfl, h5⟩⟩
theorem H_loss {l : Launch} (hl : l.stackTraces = false) {u v : St} {o : Nat → Int64} (hR : Rel u v) (a1 : Int) : Ch l yL_loss cL_loss 4 (some .int) [(0, 9, 12, 24)] 14 1 LJ (jN u v o) [aR 0, aI a1, aR 84] (okI (fun k w' => ∃ (u' : St) (o' : Nat → Int64), w' = jN u' v o' ∧ Cn l yX10_loss cX10_loss 3 (some .int) 5 LM v [aR 0, aI a1] (okI (fun r' v' => v'.1 0 0 = k ∧ (k = 0 → o' 0 = i2l r') ∧ Rel u' v')))) := by
  refine Ch.of [some (aR 0), some (aI a1), some (aR 84), none] (by decide) (Nat.le_of_ble_eq_true rfl) rfl ?_
  intro p e s m args below meth c D cA ad A Q hQ hC hr9 hk htb hnc hoks
  refine r_aload_n hC 2 dL_loss_0 rfl rfl ?_
  refine r_iconst hC dL_loss_1 ⟨by decide, by decide⟩ ?_
  refine r_aload_n hC 0 dL_loss_2 rfl rfl ?_
  refine r_iload_n hC 1 dL_loss_3 rfl rfl ?_
  refine r_callTVH hC (k := 0) [aI a1] [aI 0, aR 84] htb hnc dL_loss_4 ml_RL_79 my_X9_loss mi_X9_loss lJ_0 rfl rfl ⟨by decide, by decide⟩ ⟨by decide, by decide⟩ (by decide) rfl (Ct.liftX rfl rfl okI_nr (K_loss hl hR a1)) (fun x w' hx => ?_) (fun r w' hok hq => ?_)
  · obtain ⟨u', ⟨k, hk9, hCn⟩, rfl⟩ := hx
    rcases List.mem_cons.mp hk9 with e9 | hk9
    · cases e9
      refine ⟨12, ⟨[], [], 0, 9, 24, rfl, (fun z hz => by cases hz), by decide, by decide, kl_24, kc_1⟩, ?_⟩
      exact hnd_n 3 hC hQ ⟨by decide, by decide⟩ hk hr9 rfl (by decide) ⟨by decide, by decide⟩ dL_loss_12 dL_loss_13 dL_loss_14 ⟨1, rfl, u', o, rfl, hCn.mono fun r2 w2 h2 => by obtain ⟨z2, e2, h3, h4⟩ := h2; exact ⟨w2, rfl, z2, e2, h3, fun e8 => absurd e8 (by decide), h4⟩⟩
    cases hk9
  · obtain ⟨u', ⟨z, rfl, hCn⟩, rfl⟩ := hq
    refine r_i2l hC dL_loss_7 ?_
    refine r_last hC dL_loss_8 (n := 1) lJ_84 (by decide) (by decide) ?_
    refine r_pj jN_st ?_
    refine r_goto hC (tgt := 15) dL_loss_9 (by decide) ?_
    refine r_iconst hC dL_loss_15 ⟨by decide, by decide⟩ ?_
    exact r_tri (kd := 0) hC hQ ⟨by decide, by decide⟩ dL_loss_16 hr9 hk (by decide) (.inl rfl) ⟨u', _, rfl, hCn.mono fun r2 w2 h2 => by obtain ⟨z2, e2, h3, h4, h5⟩ := h2; exact ⟨w2, rfl, z2, e2, h3, fun _ => by rw [h4]; rfl, h5⟩⟩
theorem H_quote {l : Launch} (hl : l.stackTraces = false) {u v : St} {o : Nat → Int64} (hR : Rel u v) (a1 : Int) : Ch l yL_quote cL_quote 4 (some .int) [(0, 9, 12, 13)] 10 1 LJ (jN u v o) [aR 0, aI a1, aR 84] (okI (fun k w' => ∃ (u' : St) (o' : Nat → Int64), w' = jN u' v o' ∧ Cn l yX10_quote cX10_quote 6 (some .int) 7 LM v [aR 0, aI a1] (okI (fun r' v' => v'.1 0 0 = k ∧ (k = 0 → o' 0 = i2l r') ∧ Rel u' v')))) := by
  refine Ch.of [some (aR 0), some (aI a1), some (aR 84), none] (by decide) (Nat.le_of_ble_eq_true rfl) rfl ?_
  intro p e s m args below meth c D cA ad A Q hQ hC hr9 hk htb hnc hoks
  refine r_aload_n hC 2 dL_quote_0 rfl rfl ?_
  refine r_iconst hC dL_quote_1 ⟨by decide, by decide⟩ ?_
  refine r_aload_n hC 0 dL_quote_2 rfl rfl ?_
  refine r_iload_n hC 1 dL_quote_3 rfl rfl ?_
  refine r_callTVH hC (k := 0) [aI a1] [aI 0, aR 84] htb hnc dL_quote_4 ml_RL_82 my_X9_quote mi_X9_quote lJ_0 rfl rfl ⟨by decide, by decide⟩ ⟨by decide, by decide⟩ (by decide) rfl (Ct.liftX rfl rfl okI_nr (K_quote hl hR a1)) (fun x w' hx => ?_) (fun r w' hok hq => ?_)
  · obtain ⟨u', ⟨k, hk9, hCn⟩, rfl⟩ := hx
    rcases List.mem_cons.mp hk9 with e9 | hk9
    · cases e9
      refine ⟨12, ⟨[], [], 0, 9, 13, rfl, (fun z hz => by cases hz), by decide, by decide, kl_13, kc_3⟩, ?_⟩
      exact hnd_n 3 hC hQ ⟨by decide, by decide⟩ hk hr9 rfl (by decide) ⟨by decide, by decide⟩ dL_quote_12 dL_quote_13 dL_quote_14 ⟨1, rfl, u', o, rfl, hCn.mono fun r2 w2 h2 => by obtain ⟨z2, e2, h3, h4⟩ := h2; exact ⟨w2, rfl, z2, e2, h3, fun e8 => absurd e8 (by decide), h4⟩⟩
    cases hk9
  · obtain ⟨u', ⟨z, rfl, hCn⟩, rfl⟩ := hq
    refine r_i2l hC dL_quote_7 ?_
    refine r_last hC dL_quote_8 (n := 1) lJ_84 (by decide) (by decide) ?_
    refine r_pj jN_st ?_
    refine r_goto hC (tgt := 15) dL_quote_9 (by decide) ?_
    refine r_iconst hC dL_quote_15 ⟨by decide, by decide⟩ ?_
    exact r_tri (kd := 0) hC hQ ⟨by decide, by decide⟩ dL_quote_16 hr9 hk (by decide) (.inl rfl) ⟨u', _, rfl, hCn.mono fun r2 w2 h2 => by obtain ⟨z2, e2, h3, h4, h5⟩ := h2; exact ⟨w2, rfl, z2, e2, h3, fun _ => by rw [h4]; rfl, h5⟩⟩
theorem H_write {l : Launch} (hl : l.stackTraces = false) {u v : St} {o : Nat → Int64} (hR : Rel u v) (a1 : Int) : Ch l yL_write cL_write 4 (some .int) [(0, 9, 12, 13)] 10 1 LJ (jN u v o) [aR 0, aI a1, aR 84] (okI (fun k w' => ∃ (u' : St) (o' : Nat → Int64), w' = jN u' v o' ∧ Cn l yX10_write cX10_write 9 (some .int) 7 LM v [aR 0, aI a1] (okI (fun r' v' => v'.1 0 0 = k ∧ (k = 0 → o' 0 = i2l r') ∧ Rel u' v')))) := by
  refine Ch.of [some (aR 0), some (aI a1), some (aR 84), none] (by decide) (Nat.le_of_ble_eq_true rfl) rfl ?_
  intro p e s m args below meth c D cA ad A Q hQ hC hr9 hk htb hnc hoks
  refine r_aload_n hC 2 dL_write_0 rfl rfl ?_
  refine r_iconst hC dL_write_1 ⟨by decide, by decide⟩ ?_
  refine r_aload_n hC 0 dL_write_2 rfl rfl ?_
  refine r_iload_n hC 1 dL_write_3 rfl rfl ?_
  refine r_callTVH hC (k := 0) [aI a1] [aI 0, aR 84] htb hnc dL_write_4 ml_RL_85 my_X9_write mi_X9_write lJ_0 rfl rfl ⟨by decide, by decide⟩ ⟨by decide, by decide⟩ (by decide) rfl (Ct.liftX rfl rfl okI_nr (K_write hl hR a1)) (fun x w' hx => ?_) (fun r w' hok hq => ?_)
  · obtain ⟨u', ⟨k, hk9, hCn⟩, rfl⟩ := hx
    rcases List.mem_cons.mp hk9 with e9 | hk9
    · cases e9
      refine ⟨12, ⟨[], [], 0, 9, 13, rfl, (fun z hz => by cases hz), by decide, by decide, kl_13, kc_3⟩, ?_⟩
      exact hnd_n 3 hC hQ ⟨by decide, by decide⟩ hk hr9 rfl (by decide) ⟨by decide, by decide⟩ dL_write_12 dL_write_13 dL_write_14 ⟨1, rfl, u', o, rfl, hCn.mono fun r2 w2 h2 => by obtain ⟨z2, e2, h3, h4⟩ := h2; exact ⟨w2, rfl, z2, e2, h3, fun e8 => absurd e8 (by decide), h4⟩⟩
    cases hk9
  · obtain ⟨u', ⟨z, rfl, hCn⟩, rfl⟩ := hq
    refine r_i2l hC dL_write_7 ?_
    refine r_last hC dL_write_8 (n := 1) lJ_84 (by decide) (by decide) ?_
    refine r_pj jN_st ?_
    refine r_goto hC (tgt := 15) dL_write_9 (by decide) ?_
    refine r_iconst hC dL_write_15 ⟨by decide, by decide⟩ ?_
    exact r_tri (kd := 0) hC hQ ⟨by decide, by decide⟩ dL_write_16 hr9 hk (by decide) (.inl rfl) ⟨u', _, rfl, hCn.mono fun r2 w2 h2 => by obtain ⟨z2, e2, h3, h4, h5⟩ := h2; exact ⟨w2, rfl, z2, e2, h3, fun _ => by rw [h4]; rfl, h5⟩⟩
