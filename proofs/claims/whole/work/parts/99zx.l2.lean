/-! L2: the law's loop -/
theorem law_loop {p : Program} {l : Launch} {e : Env} {s : State} {m : MethodId} {args : Array Value} {below : List Frame} {meth : Method} {c : Code} {Q : State → Prop} {D : va_G} {cA : Nat → ClassId} {ad : Nat → Nat} {A : Nat → Prop} {L0 : Nat} {xs : Nat → Int32} (hl : l.stackTraces = false) (hC : Cx p s m args c code 7 RL D cA ad A LJ) (hX : SCR s A ad L0 xs) (hnc : NcX s) (hL : L0 ≤ 3072) (kend : ∀ (w : St) (j : Nat) (ls : List (Option AV)), j ≤ 512 → Wd p l e room_1 s m args below meth c Q (100 + 3 * j) (70000 + 18 * j) 7 D cA ad A LJ w 1994 ls []) : ∀ (n j : Nat), j + n = 513 → 6 * j ≤ 3072 → ∀ (u v : St) (o : Nat → Int64), Rel u v → Wd p l e room_1 s m args below meth c Q (100 + 3 * j) (70000 + 18 * j) 7 D cA ad A LJ (jN u v o) 23 (lsL (6 * j)) []
  | 0, j, h1, h2, _, _, _, _ => by omega
  | n + 1, j, h1, h2, u, v, o, hR => by
    refine r_iload hC dL_law_23 rfl ?_
    refine r_aload_n hC 0 dL_law_25 rfl rfl ?_
    refine r_xlen hC hX dL_law_26 hL ?_
    refine r_bipush hC dL_law_27 ⟨by decide, by decide, by decide⟩ ?_
    refine r_isub hC dL_law_29 ⟨by omega, by omega⟩ ?_
    refine r_ic_gt hC (tgt := 1994) dL_law_30 (by decide) (fun g => kend _ j _ (by omega)) (fun g => ?_)
    have hi : 6 * j + 6 ≤ L0 := by omega
    refine r_aload_n hC 0 dL_law_33 rfl rfl ?_
    refine r_iload hC dL_law_34 rfl ?_
    refine r_xldz (i := 6 * j) hC hX dL_law_36 rfl (by omega) ?_
    refine r_bipush hC dL_law_37 ⟨by decide, by decide, by decide⟩ ?_
    refine r_iand hC dL_law_39 ?_
    have cont : ∀ (u' v' : St) (o' : Nat → Int64), Rel u' v' → Wd p l e room_1 s m args below meth c Q (100 + 3 * j + 3) (70000 + 18 * j + 18) 7 D cA ad A LJ (jN u' v' o') 1988 (lsL (6 * j)) [] := fun u' v' o' hR2 => by
      refine r_iinc hC dL_law_1988 (x := ((6 * j : Nat) : Int)) rfl (by decide) rfl ⟨by omega, by omega⟩ rfl ?_
      refine r_goto hC (tgt := 23) dL_law_1991 (by decide) ?_
      have e9 := law_loop hl hC hX hnc hL kend n (j + 1) (by omega) (by omega) u' v' o' hR2
      rw [show 100 + 3 * (j + 1) = 100 + 3 * j + 3 by omega, show 70000 + 18 * (j + 1) = 70000 + 18 * j + 18 by omega] at e9
      unfold lsL at e9
      rw [show ((6 * (j + 1) : Nat) : Int) = ((6 * j : Nat) : Int) + 6 by omega] at e9
      exact e9
    have hcs : 100 + 3 * j + 3 ≤ 601024 ∧ 70000 + 18 * j + 18 ≤ 7293034 := ⟨by omega, by omega⟩
    generalize iAnd (xs (6 * j)).toInt 63 = z
    by_cases h0_ : z = 0
    · subst h0_
      exact r_tblIn hC (off := 156) (tgt := 196) dL_law_40 (by decide) (by decide) rfl (by decide) (case_0 hl hC hX hnc hL hi hR hcs cont)
    by_cases h1_ : z = 1
    · subst h1_
      exact r_tblIn hC (off := 229) (tgt := 269) dL_law_40 (by decide) (by decide) rfl (by decide) (case_1 hl hC hX hnc hL hi hR hcs cont)
    by_cases h2_ : z = 2
    · subst h2_
      exact r_tblIn hC (off := 254) (tgt := 294) dL_law_40 (by decide) (by decide) rfl (by decide) (case_2 hl hC hX hnc hL hi hR hcs cont)
    by_cases h3_ : z = 3
    · subst h3_
      exact r_tblIn hC (off := 267) (tgt := 307) dL_law_40 (by decide) (by decide) rfl (by decide) (case_3 hl hC hX hnc hL hi hR hcs cont)
    by_cases h4_ : z = 4
    · subst h4_
      exact r_tblIn hC (off := 311) (tgt := 351) dL_law_40 (by decide) (by decide) rfl (by decide) (case_4 hl hC hX hnc hL hi hR hcs cont)
    by_cases h5_ : z = 5
    · subst h5_
      exact r_tblIn hC (off := 324) (tgt := 364) dL_law_40 (by decide) (by decide) rfl (by decide) (case_5 hl hC hX hnc hL hi hR hcs cont)
    by_cases h6_ : z = 6
    · subst h6_
      exact r_tblIn hC (off := 392) (tgt := 432) dL_law_40 (by decide) (by decide) rfl (by decide) (case_6 hl hC hX hnc hL hi hR hcs cont)
    by_cases h7_ : z = 7
    · subst h7_
      exact r_tblIn hC (off := 417) (tgt := 457) dL_law_40 (by decide) (by decide) rfl (by decide) (case_7 hl hC hX hnc hL hi hR hcs cont)
    by_cases h8_ : z = 8
    · subst h8_
      exact r_tblIn hC (off := 442) (tgt := 482) dL_law_40 (by decide) (by decide) rfl (by decide) (case_8 hl hC hX hnc hL hi hR hcs cont)
    by_cases h9_ : z = 9
    · subst h9_
      exact r_tblIn hC (off := 510) (tgt := 550) dL_law_40 (by decide) (by decide) rfl (by decide) (case_9 hl hC hX hnc hL hi hR hcs cont)
    by_cases h10_ : z = 10
    · subst h10_
      exact r_tblIn hC (off := 578) (tgt := 618) dL_law_40 (by decide) (by decide) rfl (by decide) (case_10 hl hC hX hnc hL hi hR hcs cont)
    by_cases h11_ : z = 11
    · subst h11_
      exact r_tblIn hC (off := 646) (tgt := 686) dL_law_40 (by decide) (by decide) rfl (by decide) (case_11 hl hC hX hnc hL hi hR hcs cont)
    by_cases h12_ : z = 12
    · subst h12_
      exact r_tblIn hC (off := 733) (tgt := 773) dL_law_40 (by decide) (by decide) rfl (by decide) (case_12 hl hC hX hnc hL hi hR hcs cont)
    by_cases h13_ : z = 13
    · subst h13_
      exact r_tblIn hC (off := 801) (tgt := 841) dL_law_40 (by decide) (by decide) rfl (by decide) (case_13 hl hC hX hnc hL hi hR hcs cont)
    by_cases h14_ : z = 14
    · subst h14_
      exact r_tblIn hC (off := 881) (tgt := 921) dL_law_40 (by decide) (by decide) rfl (by decide) (case_14 hl hC hX hnc hL hi hR hcs cont)
    by_cases h15_ : z = 15
    · subst h15_
      exact r_tblIn hC (off := 949) (tgt := 989) dL_law_40 (by decide) (by decide) rfl (by decide) (case_15 hl hC hX hnc hL hi hR hcs cont)
    by_cases h16_ : z = 16
    · subst h16_
      exact r_tblIn hC (off := 1005) (tgt := 1045) dL_law_40 (by decide) (by decide) rfl (by decide) (case_16 hl hC hX hnc hL hi hR hcs cont)
    by_cases h17_ : z = 17
    · subst h17_
      exact r_tblIn hC (off := 1073) (tgt := 1113) dL_law_40 (by decide) (by decide) rfl (by decide) (case_17 hl hC hX hnc hL hi hR hcs cont)
    by_cases h18_ : z = 18
    · subst h18_
      exact r_tblIn hC (off := 1153) (tgt := 1193) dL_law_40 (by decide) (by decide) rfl (by decide) (case_18 hl hC hX hnc hL hi hR hcs cont)
    by_cases h19_ : z = 19
    · subst h19_
      exact r_tblIn hC (off := 1221) (tgt := 1261) dL_law_40 (by decide) (by decide) rfl (by decide) (case_19 hl hC hX hnc hL hi hR hcs cont)
    by_cases h20_ : z = 20
    · subst h20_
      exact r_tblIn hC (off := 1289) (tgt := 1329) dL_law_40 (by decide) (by decide) rfl (by decide) (case_20 hl hC hX hnc hL hi hR hcs cont)
    by_cases h21_ : z = 21
    · subst h21_
      exact r_tblIn hC (off := 1314) (tgt := 1354) dL_law_40 (by decide) (by decide) rfl (by decide) (case_21 hl hC hX hnc hL hi hR hcs cont)
    by_cases h22_ : z = 22
    · subst h22_
      exact r_tblIn hC (off := 1355) (tgt := 1395) dL_law_40 (by decide) (by decide) rfl (by decide) (case_22 hl hC hX hnc hL hi hR hcs cont)
    by_cases h23_ : z = 23
    · subst h23_
      exact r_tblIn hC (off := 1396) (tgt := 1436) dL_law_40 (by decide) (by decide) rfl (by decide) (case_23 hl hC hX hnc hL hi hR hcs cont)
    by_cases h24_ : z = 24
    · subst h24_
      exact r_tblIn hC (off := 1452) (tgt := 1492) dL_law_40 (by decide) (by decide) rfl (by decide) (case_24 hl hC hX hnc hL hi hR hcs cont)
    by_cases h25_ : z = 25
    · subst h25_
      exact r_tblIn hC (off := 1508) (tgt := 1548) dL_law_40 (by decide) (by decide) rfl (by decide) (case_25 hl hC hX hnc hL hi hR hcs cont)
    by_cases h26_ : z = 26
    · subst h26_
      exact r_tblIn hC (off := 1564) (tgt := 1604) dL_law_40 (by decide) (by decide) rfl (by decide) (case_26 hl hC hX hnc hL hi hR hcs cont)
    by_cases h27_ : z = 27
    · subst h27_
      exact r_tblIn hC (off := 1608) (tgt := 1648) dL_law_40 (by decide) (by decide) rfl (by decide) (case_27 hl hC hX hnc hL hi hR hcs cont)
    by_cases h28_ : z = 28
    · subst h28_
      exact r_tblIn hC (off := 1633) (tgt := 1673) dL_law_40 (by decide) (by decide) rfl (by decide) (case_28 hl hC hX hnc hL hi hR hcs cont)
    by_cases h29_ : z = 29
    · subst h29_
      exact r_tblIn hC (off := 1689) (tgt := 1729) dL_law_40 (by decide) (by decide) rfl (by decide) (case_29 hl hC hX hnc hL hi hR hcs cont)
    by_cases h30_ : z = 30
    · subst h30_
      exact r_tblIn hC (off := 1745) (tgt := 1785) dL_law_40 (by decide) (by decide) rfl (by decide) (case_30 hl hC hX hnc hL hi hR hcs cont)
    by_cases h31_ : z = 31
    · subst h31_
      exact r_tblIn hC (off := 1801) (tgt := 1841) dL_law_40 (by decide) (by decide) rfl (by decide) (case_31 hl hC hX hnc hL hi hR hcs cont)
    by_cases h32_ : z = 32
    · subst h32_
      exact r_tblIn hC (off := 1857) (tgt := 1897) dL_law_40 (by decide) (by decide) rfl (by decide) (case_32 hl hC hX hnc hL hi hR hcs cont)
    by_cases h33_ : z = 33
    · subst h33_
      exact r_tblIn hC (off := 1882) (tgt := 1922) dL_law_40 (by decide) (by decide) rfl (by decide) (case_33 hl hC hX hnc hL hi hR hcs cont)
    by_cases h34_ : z = 34
    · subst h34_
      exact r_tblIn hC (off := 1923) (tgt := 1963) dL_law_40 (by decide) (by decide) rfl (by decide) (case_34 hl hC hX hnc hL hi hR hcs cont)
    exact r_tblOut hC (tgt := 1988) dL_law_40 (tb_out_34 h0_ h1_ h2_ h3_ h4_ h5_ h6_ h7_ h8_ h9_ h10_ h11_ h12_ h13_ h14_ h15_ h16_ h17_ h18_ h19_ h20_ h21_ h22_ h23_ h24_ h25_ h26_ h27_ h28_ h29_ h30_ h31_ h32_ h33_ h34_) (by decide) (r_widen (by omega) (by omega) (cont u v o hR))
