/-! M2: from the law's entry to its loop -/
theorem law_in {p : Program} {l : Launch} {e : Env} {s : State} {m : MethodId} {args : Array Value} {below : List Frame} {meth : Method} {c : Code} {Q : State → Prop} {D : va_G} {cA : Nat → ClassId} {ad : Nat → Nat} {A : Nat → Prop} {L0 : Nat} {xs : Nat → Int32} (hl : l.stackTraces = false) (hC : Cx p s m args c code 7 RL D cA ad A []) (hA : ∀ q, s.heap.size ≤ q → A q) (hX : SCR s A ad L0 xs) (hnc : NcX s) (hL : L0 ≤ 3072) (kend : ∀ (ad' : Nat → Nat) (w : St) (j : Nat) (ls : List (Option AV)), j ≤ 512 → Cx p s m args c code 7 RL D cA ad' A LJ → Wd p l e room_1 s m args below meth c Q (100 + 3 * j) (70000 + 18 * j) 7 D cA ad' A LJ w 1994 ls []) : Wd p l e room_1 s m args below meth c Q 0 0 7 D cA ad A [] zSt 0 [some (aR 8500), none, none, none, none, none, none] [] := by
  refine r_newO (pc := 0) hC dL_law_0 ck_RL_8 hA (by decide +kernel) (Nat.le_of_ble_eq_true rfl) rfl rfl (fun _ => rfl) ⟨Nat.le_of_ble_eq_true rfl, Nat.le_of_ble_eq_true rfl⟩ (fun q0 hC => ?_)
  refine r_dup (pc := 3) hC dL_law_3 rfl ?_
  refine r_callC (pc := 4) (k := 0) hC [] [aR 0] dL_law_4 ml_RL_88 my_X9_init mt_X9_init rfl rfl ⟨Nat.le_of_ble_eq_true rfl, Nat.le_of_ble_eq_true rfl⟩ ⟨Nat.le_of_ble_eq_true rfl, Nat.le_of_ble_eq_true rfl⟩ (Nat.le_of_ble_eq_true rfl) rfl hA rfl rfl (s_Picker_init l) (fun ad1 hE1 hC => ?_)
  refine r_astore_n (pc := 7) hC 1 dL_law_7 rfl (by decide) rfl rfl ?_
  refine r_newO (pc := 8) hC dL_law_8 ck_RL_89 hA (by decide +kernel) (Nat.le_of_ble_eq_true rfl) rfl rfl (fun _ => rfl) ⟨Nat.le_of_ble_eq_true rfl, Nat.le_of_ble_eq_true rfl⟩ (fun q44 hC => ?_)
  refine r_dup (pc := 11) hC dL_law_11 rfl ?_
  refine r_callC (pc := 12) (k := 44) hC [] [aR 44] dL_law_12 ml_RL_91 my_X10_init mt_X10_init rfl rfl ⟨Nat.le_of_ble_eq_true rfl, Nat.le_of_ble_eq_true rfl⟩ ⟨Nat.le_of_ble_eq_true rfl, Nat.le_of_ble_eq_true rfl⟩ (Nat.le_of_ble_eq_true rfl) rfl hA rfl rfl (s_M_init l) (fun ad2 hE2 hC => ?_)
  refine r_astore_n (pc := 15) hC 2 dL_law_15 rfl (by decide) rfl rfl ?_
  refine r_iconst (pc := 16) hC dL_law_16 ⟨by decide, by decide⟩ ?_
  refine r_newA (pc := 17) (kd := 3) (n := 1) (atype := .long) hC rfl dL_law_17 ka_long hA (by decide +kernel) (Nat.le_of_ble_eq_true rfl) rfl rfl (by decide) (by decide) (fun _ => rfl) (fun _ => rfl) ⟨Nat.le_of_ble_eq_true rfl, Nat.le_of_ble_eq_true rfl⟩ (fun q84 hC => ?_)
  refine r_astore_n (pc := 19) hC 3 dL_law_19 rfl (by decide) rfl rfl ?_
  refine r_iconst (pc := 20) hC dL_law_20 ⟨by decide, by decide⟩ ?_
  refine r_istore (pc := 21) hC dL_law_21 (by decide) rfl rfl ?_
  have hC3 : Cx p s m args c code 7 RL D cA (adU ad2 84 q84) A LJ := hC
  have e85 : adU ad2 84 q84 8500 = ad 8500 := by
    have h2 : ad2 8500 = adU ad1 44 q44 8500 := hE2 8500 (.inr (by decide))
    have h1 : ad1 8500 = adU ad 0 q0 8500 := hE1 8500 (.inr (by decide))
    rw [adU_ne (by decide), h2, adU_ne (by decide), h1, adU_ne (by decide)]
  have hX3 : SCR s A (adU ad2 84 q84) L0 xs := by
    unfold SCR at *
    rw [e85]
    exact hX
  refine r_widen (k := 100 + 3 * 0) (n := 70000 + 18 * 0) (Nat.le_of_ble_eq_true rfl) (Nat.le_of_ble_eq_true rfl) ?_
  exact r_pj (L := LJ) (w := wF) jN0 (law_loop hl hC3 hX3 hnc hL (fun w j ls hj => kend _ w j ls hj hC3) 513 0 rfl (by omega) _ _ _ rel0)
