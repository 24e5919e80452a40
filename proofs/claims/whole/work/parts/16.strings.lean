def sLen (i : Nat) : Int := ((sBy i).length : Int)
def sAt (i : Nat) (j : Int) : Int := (sBy i).getD j.toNat 0
theorem sBy_ok : ∀ k, k < 37 → ((sBy k).all (fun z => decide (0 ≤ z) && decide (z < 128)) && decide ((sBy k).length < 100)) = true := by decide +kernel
theorem sLen_ok {k : Nat} (h : k < 37) : 0 ≤ sLen k ∧ sLen k < 100 := by
  have e := sBy_ok k h
  simp only [Bool.and_eq_true, decide_eq_true_eq] at e
  unfold sLen
  omega
theorem sAt_ok {k : Nat} (h : k < 37) {i : Int} (h0 : 0 ≤ i) (h1 : i < sLen k) : 0 ≤ sAt k i ∧ sAt k i < 128 := by
  have e := sBy_ok k h
  simp only [Bool.and_eq_true] at e
  unfold sLen at h1
  have hi : i.toNat < (sBy k).length := by omega
  have e2 := List.all_eq_true.mp e.1 ((sBy k)[i.toNat]) (List.getElem_mem hi)
  simp only [Bool.and_eq_true, decide_eq_true_eq] at e2
  unfold sAt
  rw [List.getD_eq_getElem?_getD, List.getElem?_eq_getElem hi]
  exact e2
theorem ksv : Cond.fieldLink RJ0 9 "java/lang/String" "value" "[B" ∈ gw := in_g9 162 (by decide +kernel) rfl
theorem ksc : Cond.fieldLink RJ0 15 "java/lang/String" "coder" "B" ∈ gw := in_g9 163 (by decide +kernel) rfl
theorem ksg : Cond.fieldLink RJ0 38 "java/lang/String" "COMPACT_STRINGS" "Z" ∈ gw := in_g4 101 (by decide +kernel) rfl
theorem kss : Cond.fieldLink RJ0 1053 "jdk/internal/util/Preconditions" "SIOOBE_FORMATTER" "Ljava/util/function/BiFunction;" ∈ gw := in_g4 122 (by decide +kernel) rfl
theorem ksl_RJ0_335 : Cond.methodLink RJ0 335 yJ0_coder_7d493 ∈ gw := in_g4 97 (by decide +kernel) rfl
theorem ksl_RJ0_492 : Cond.methodLink RJ0 492 yJ0_isLatin1_aae02 ∈ gw := in_g4 112 (by decide +kernel) rfl
theorem ksl_RJ0_495 : Cond.methodLink RJ0 495 yJ1_charAt_3b067 ∈ gw := in_g4 116 (by decide +kernel) rfl
theorem ksl_RJ0_1059 : Cond.methodLink RJ0 1059 yJ3_checkIndex_8e157 ∈ gw := in_g4 124 (by decide +kernel) rfl
theorem ksl_RJ1_9 : Cond.methodLink RJ1 9 yJ0_checkIndex_df160 ∈ gw := in_g4 119 (by decide +kernel) rfl
theorem my_J0_length_8abf5 : MY yJ0_length_8abf5 cJ0_length_8abf5 1 (some .int) 0 := ⟨in_g1 14 (by decide +kernel) rfl, in_g4 96 (by decide +kernel) rfl, by decide, by decide, by decide +kernel, by decide⟩
theorem mi_J0_length_8abf5 : MI yJ0_length_8abf5 := ⟨in_g4 94 (by decide +kernel) rfl, in_g4 95 (by decide +kernel) rfl⟩
theorem dJ0_length_8abf5_0 : decode cJ0_length_8abf5 0 = .ok (.aload_n 0, 1) := by decide +kernel
theorem dJ0_length_8abf5_1 : decode cJ0_length_8abf5 1 = .ok (.getfield 9, 3) := by decide +kernel
theorem dJ0_length_8abf5_4 : decode cJ0_length_8abf5 4 = .ok (.arraylength, 1) := by decide +kernel
theorem dJ0_length_8abf5_5 : decode cJ0_length_8abf5 5 = .ok (.aload_n 0, 1) := by decide +kernel
theorem dJ0_length_8abf5_6 : decode cJ0_length_8abf5 6 = .ok (.invokevirtual 335, 3) := by decide +kernel
theorem dJ0_length_8abf5_9 : decode cJ0_length_8abf5 9 = .ok (.ishr, 1) := by decide +kernel
theorem dJ0_length_8abf5_10 : decode cJ0_length_8abf5 10 = .ok (.ireturn, 1) := by decide +kernel
theorem my_J0_charAt_5068e : MY yJ0_charAt_5068e cJ0_charAt_5068e 2 (some .char) 1 := ⟨in_g1 14 (by decide +kernel) rfl, in_g4 111 (by decide +kernel) rfl, by decide, by decide, by decide +kernel, by decide⟩
theorem mi_J0_charAt_5068e : MI yJ0_charAt_5068e := ⟨in_g4 109 (by decide +kernel) rfl, in_g4 110 (by decide +kernel) rfl⟩
theorem dJ0_charAt_5068e_0 : decode cJ0_charAt_5068e 0 = .ok (.aload_n 0, 1) := by decide +kernel
theorem dJ0_charAt_5068e_1 : decode cJ0_charAt_5068e 1 = .ok (.invokevirtual 492, 3) := by decide +kernel
theorem dJ0_charAt_5068e_4 : decode cJ0_charAt_5068e 4 = .ok (.ifCond .eq 12, 3) := by decide +kernel
theorem dJ0_charAt_5068e_7 : decode cJ0_charAt_5068e 7 = .ok (.aload_n 0, 1) := by decide +kernel
theorem dJ0_charAt_5068e_8 : decode cJ0_charAt_5068e 8 = .ok (.getfield 9, 3) := by decide +kernel
theorem dJ0_charAt_5068e_11 : decode cJ0_charAt_5068e 11 = .ok (.iload_n 1, 1) := by decide +kernel
theorem dJ0_charAt_5068e_12 : decode cJ0_charAt_5068e 12 = .ok (.invokestatic 495, 3) := by decide +kernel
theorem dJ0_charAt_5068e_15 : decode cJ0_charAt_5068e 15 = .ok (.ireturn, 1) := by decide +kernel
theorem dJ0_charAt_5068e_16 : decode cJ0_charAt_5068e 16 = .ok (.aload_n 0, 1) := by decide +kernel
theorem dJ0_charAt_5068e_17 : decode cJ0_charAt_5068e 17 = .ok (.getfield 9, 3) := by decide +kernel
theorem dJ0_charAt_5068e_20 : decode cJ0_charAt_5068e 20 = .ok (.iload_n 1, 1) := by decide +kernel
theorem dJ0_charAt_5068e_21 : decode cJ0_charAt_5068e 21 = .ok (.invokestatic 498, 3) := by decide +kernel
theorem dJ0_charAt_5068e_24 : decode cJ0_charAt_5068e 24 = .ok (.ireturn, 1) := by decide +kernel
theorem my_J0_coder_7d493 : MY yJ0_coder_7d493 cJ0_coder_7d493 1 (some .byte) 0 := ⟨in_g1 14 (by decide +kernel) rfl, in_g4 100 (by decide +kernel) rfl, by decide, by decide, by decide +kernel, by decide⟩
theorem mi_J0_coder_7d493 : MI yJ0_coder_7d493 := ⟨in_g4 98 (by decide +kernel) rfl, in_g4 99 (by decide +kernel) rfl⟩
theorem dJ0_coder_7d493_0 : decode cJ0_coder_7d493 0 = .ok (.getstatic 38, 3) := by decide +kernel
theorem dJ0_coder_7d493_3 : decode cJ0_coder_7d493 3 = .ok (.ifCond .eq 10, 3) := by decide +kernel
theorem dJ0_coder_7d493_6 : decode cJ0_coder_7d493 6 = .ok (.aload_n 0, 1) := by decide +kernel
theorem dJ0_coder_7d493_7 : decode cJ0_coder_7d493 7 = .ok (.getfield 15, 3) := by decide +kernel
theorem dJ0_coder_7d493_10 : decode cJ0_coder_7d493 10 = .ok (.goto 4, 3) := by decide +kernel
theorem dJ0_coder_7d493_13 : decode cJ0_coder_7d493 13 = .ok (.iconst 1, 1) := by decide +kernel
theorem dJ0_coder_7d493_14 : decode cJ0_coder_7d493 14 = .ok (.ireturn, 1) := by decide +kernel
theorem my_J0_isLatin1_aae02 : MY yJ0_isLatin1_aae02 cJ0_isLatin1_aae02 1 (some .boolean) 0 := ⟨in_g1 14 (by decide +kernel) rfl, in_g4 115 (by decide +kernel) rfl, by decide, by decide, by decide +kernel, by decide⟩
theorem mi_J0_isLatin1_aae02 : MI yJ0_isLatin1_aae02 := ⟨in_g4 113 (by decide +kernel) rfl, in_g4 114 (by decide +kernel) rfl⟩
theorem dJ0_isLatin1_aae02_0 : decode cJ0_isLatin1_aae02 0 = .ok (.getstatic 38, 3) := by decide +kernel
theorem dJ0_isLatin1_aae02_3 : decode cJ0_isLatin1_aae02 3 = .ok (.ifCond .eq 14, 3) := by decide +kernel
theorem dJ0_isLatin1_aae02_6 : decode cJ0_isLatin1_aae02 6 = .ok (.aload_n 0, 1) := by decide +kernel
theorem dJ0_isLatin1_aae02_7 : decode cJ0_isLatin1_aae02 7 = .ok (.getfield 15, 3) := by decide +kernel
theorem dJ0_isLatin1_aae02_10 : decode cJ0_isLatin1_aae02 10 = .ok (.ifCond .ne 7, 3) := by decide +kernel
theorem dJ0_isLatin1_aae02_13 : decode cJ0_isLatin1_aae02 13 = .ok (.iconst 1, 1) := by decide +kernel
theorem dJ0_isLatin1_aae02_14 : decode cJ0_isLatin1_aae02 14 = .ok (.goto 4, 3) := by decide +kernel
theorem dJ0_isLatin1_aae02_17 : decode cJ0_isLatin1_aae02 17 = .ok (.iconst 0, 1) := by decide +kernel
theorem dJ0_isLatin1_aae02_18 : decode cJ0_isLatin1_aae02 18 = .ok (.ireturn, 1) := by decide +kernel
theorem my_J0_checkIndex_df160 : MY yJ0_checkIndex_df160 cJ0_checkIndex_df160 2 none 2 := ⟨in_g1 14 (by decide +kernel) rfl, in_g4 121 (by decide +kernel) rfl, by decide, by decide, by decide +kernel, by decide⟩
theorem ms_J0_checkIndex_df160 : Cond.static yJ0_checkIndex_df160 ∈ gw := in_g4 120 (by decide +kernel) rfl
theorem dJ0_checkIndex_df160_0 : decode cJ0_checkIndex_df160 0 = .ok (.iload_n 0, 1) := by decide +kernel
theorem dJ0_checkIndex_df160_1 : decode cJ0_checkIndex_df160 1 = .ok (.iload_n 1, 1) := by decide +kernel
theorem dJ0_checkIndex_df160_2 : decode cJ0_checkIndex_df160 2 = .ok (.getstatic 1053, 3) := by decide +kernel
theorem dJ0_checkIndex_df160_5 : decode cJ0_checkIndex_df160 5 = .ok (.invokestatic 1059, 3) := by decide +kernel
theorem dJ0_checkIndex_df160_8 : decode cJ0_checkIndex_df160 8 = .ok (.pop, 1) := by decide +kernel
theorem dJ0_checkIndex_df160_9 : decode cJ0_checkIndex_df160 9 = .ok (.return_, 1) := by decide +kernel
theorem my_J1_charAt_3b067 : MY yJ1_charAt_3b067 cJ1_charAt_3b067 2 (some .char) 2 := ⟨in_g1 15 (by decide +kernel) rfl, in_g4 118 (by decide +kernel) rfl, by decide, by decide, by decide +kernel, by decide⟩
theorem ms_J1_charAt_3b067 : Cond.static yJ1_charAt_3b067 ∈ gw := in_g4 117 (by decide +kernel) rfl
theorem dJ1_charAt_3b067_0 : decode cJ1_charAt_3b067 0 = .ok (.iload_n 1, 1) := by decide +kernel
theorem dJ1_charAt_3b067_1 : decode cJ1_charAt_3b067 1 = .ok (.aload_n 0, 1) := by decide +kernel
theorem dJ1_charAt_3b067_2 : decode cJ1_charAt_3b067 2 = .ok (.arraylength, 1) := by decide +kernel
theorem dJ1_charAt_3b067_3 : decode cJ1_charAt_3b067 3 = .ok (.invokestatic 9, 3) := by decide +kernel
theorem dJ1_charAt_3b067_6 : decode cJ1_charAt_3b067 6 = .ok (.aload_n 0, 1) := by decide +kernel
theorem dJ1_charAt_3b067_7 : decode cJ1_charAt_3b067 7 = .ok (.iload_n 1, 1) := by decide +kernel
theorem dJ1_charAt_3b067_8 : decode cJ1_charAt_3b067 8 = .ok (.baload, 1) := by decide +kernel
theorem dJ1_charAt_3b067_9 : decode cJ1_charAt_3b067 9 = .ok (.sipush 255, 3) := by decide +kernel
theorem dJ1_charAt_3b067_12 : decode cJ1_charAt_3b067 12 = .ok (.iand, 1) := by decide +kernel
theorem dJ1_charAt_3b067_13 : decode cJ1_charAt_3b067 13 = .ok (.i2c, 1) := by decide +kernel
theorem dJ1_charAt_3b067_14 : decode cJ1_charAt_3b067 14 = .ok (.ireturn, 1) := by decide +kernel
theorem my_J3_checkIndex_8e157 : MY yJ3_checkIndex_8e157 cJ3_checkIndex_8e157 3 (some .int) 3 := ⟨in_g1 16 (by decide +kernel) rfl, in_g4 126 (by decide +kernel) rfl, by decide, by decide, by decide +kernel, by decide⟩
theorem ms_J3_checkIndex_8e157 : Cond.static yJ3_checkIndex_8e157 ∈ gw := in_g4 125 (by decide +kernel) rfl
theorem dJ3_checkIndex_8e157_0 : decode cJ3_checkIndex_8e157 0 = .ok (.iload_n 0, 1) := by decide +kernel
theorem dJ3_checkIndex_8e157_1 : decode cJ3_checkIndex_8e157 1 = .ok (.ifCond .lt 8, 3) := by decide +kernel
theorem dJ3_checkIndex_8e157_4 : decode cJ3_checkIndex_8e157 4 = .ok (.iload_n 0, 1) := by decide +kernel
theorem dJ3_checkIndex_8e157_5 : decode cJ3_checkIndex_8e157 5 = .ok (.iload_n 1, 1) := by decide +kernel
theorem dJ3_checkIndex_8e157_6 : decode cJ3_checkIndex_8e157 6 = .ok (.if_icmp .lt 10, 3) := by decide +kernel
theorem dJ3_checkIndex_8e157_9 : decode cJ3_checkIndex_8e157 9 = .ok (.aload_n 2, 1) := by decide +kernel
theorem dJ3_checkIndex_8e157_10 : decode cJ3_checkIndex_8e157 10 = .ok (.iload_n 0, 1) := by decide +kernel
theorem dJ3_checkIndex_8e157_11 : decode cJ3_checkIndex_8e157 11 = .ok (.iload_n 1, 1) := by decide +kernel
theorem dJ3_checkIndex_8e157_12 : decode cJ3_checkIndex_8e157 12 = .ok (.invokestatic 95, 3) := by decide +kernel
theorem dJ3_checkIndex_8e157_15 : decode cJ3_checkIndex_8e157 15 = .ok (.athrow, 1) := by decide +kernel
theorem dJ3_checkIndex_8e157_16 : decode cJ3_checkIndex_8e157 16 = .ok (.iload_n 0, 1) := by decide +kernel
theorem dJ3_checkIndex_8e157_17 : decode cJ3_checkIndex_8e157 17 = .ok (.ireturn, 1) := by decide +kernel
section RS
variable {p : Program} {l : Launch} {e : Env} {R : Room} {s : State} {m : MethodId} {args : Array Value} {below : List Frame} {meth : Method} {c : Code} {Q : State → Prop} {cells slots nL : Nat} {D : va_G} {cA : Nat → ClassId} {ad : Nat → Nat} {A : Nat → Prop} {L : List LC} {w : St} {pc : Nat} {ls : List (Option AV)} {st : List AV} {cc : ByteArray} {own : String}

theorem r_sval (hC : Cx p s m args c cc nL own D cA ad A L) {k : Nat} (hk : k < 37) (ho : own = RJ0) (hd : decode cc pc = .ok (.getfield 9, 3)) (kk : Wd p l e R s m args below meth c Q cells slots nL D cA ad A L w (pc + 3) (ls) (aR (20000 + k) :: st)) : Wd p l e R s m args below meth c Q cells slots nL D cA ad A L w (pc) (ls) (aR (10000 + k) :: st) := by
  intro H locs la o1 o2 o3 hP hS hl
  subst ho
  refine vk_getf hC.1 hC.2.1 (hC.2.2.2.2.2.2.2.2.2.2.1 k hk).2.2.1 hS hC.2.2.2.1 (hC.2.2.2.2.1 _ ksv) q_same hd ?_
  exact kk H locs la o1 o2 (okS_c trivial (okS_t o3)) hP hS hl
theorem r_scod (hC : Cx p s m args c cc nL own D cA ad A L) {k : Nat} (hk : k < 37) (ho : own = RJ0) (hd : decode cc pc = .ok (.getfield 15, 3)) (kk : Wd p l e R s m args below meth c Q cells slots nL D cA ad A L w (pc + 3) (ls) (aI 0 :: st)) : Wd p l e R s m args below meth c Q cells slots nL D cA ad A L w (pc) (ls) (aR (10000 + k) :: st) := by
  intro H locs la o1 o2 o3 hP hS hl
  subst ho
  refine vk_getf hC.1 hC.2.1 (hC.2.2.2.2.2.2.2.2.2.2.1 k hk).2.1 hS hC.2.2.2.1 (hC.2.2.2.2.1 _ ksc) q_same hd ?_
  exact kk H locs la o1 o2 (okS_c rng_0 (okS_t o3)) hP hS hl
theorem r_scs (hC : Cx p s m args c cc nL own D cA ad A L) (ho : own = RJ0) (hd : decode cc pc = .ok (.getstatic 38, 3)) (kk : Wd p l e R s m args below meth c Q cells slots nL D cA ad A L w (pc + 3) (ls) (aI 1 :: st)) : Wd p l e R s m args below meth c Q cells slots nL D cA ad A L w (pc) (ls) (st) := by
  intro H locs la o1 o2 o3 hP hS hl
  subst ho
  refine va_gets hC.1 hC.2.1 hC.2.2.2.2.2.2.2.2.2.2.2.1 hS hC.2.2.2.1 (hC.2.2.2.2.1 _ ksg) q_same hd ?_
  exact kk H locs la o1 o2 (okS_c (rng_lit rfl) o3) hP hS hl
theorem r_sln (hC : Cx p s m args c cc nL own D cA ad A L) {k : Nat} (hk : k < 37) (hd : decode cc pc = .ok (.arraylength, 1)) (kk : Wd p l e R s m args below meth c Q cells slots nL D cA ad A L w (pc + 1) (ls) (aI (sLen k) :: st)) : Wd p l e R s m args below meth c Q cells slots nL D cA ad A L w (pc) (ls) (aR (20000 + k) :: st) := by
  intro H locs la o1 o2 o3 hP hS hl
  obtain ⟨cell, g1, g2, g3, g4, g5, g6, g7⟩ := va_T.kept (hC.2.2.2.2.2.2.2.2.2.2.1 k hk).2.2.2 hS.2.1
  refine W.alen (n := Int32.ofInt (sLen k)) hC.1 hC.2.1 g1 g2 (by rw [g5]; exact (Int32.ofInt_eq_ofNat (n := (sBy k).length)).symm) rfl rfl hd ?_
  exact kk H locs la o1 o2 (okS_c (by have := sLen_ok hk; show rng _; unfold rng; omega) (okS_t o3)) hP hS hl
theorem r_sld (hC : Cx p s m args c cc nL own D cA ad A L) {k : Nat} {i : Int} (hk : k < 37) (h0 : 0 ≤ i) (h1 : i < sLen k) (hd : decode cc pc = .ok (.baload, 1)) (kk : Wd p l e R s m args below meth c Q cells slots nL D cA ad A L w (pc + 1) (ls) (aI (sAt k i) :: st)) : Wd p l e R s m args below meth c Q cells slots nL D cA ad A L w (pc) (ls) (aI i :: aR (20000 + k) :: st) := by
  intro H locs la o1 o2 o3 hP hS hl
  have hi : rng i := okS_h o3
  obtain ⟨cell, g1, g2, g3, g4, g5, g6, g7⟩ := va_T.kept (hC.2.2.2.2.2.2.2.2.2.2.1 k hk).2.2.2 hS.2.1
  have hn : i.toNat < (sBy k).length := by unfold sLen at h1; omega
  refine W.bald hC.1 hC.2.1 (v := .int (Int32.ofInt (sAt k i))) g1 g2 g3 ?_ ?_ rfl rfl hd ?_
  · rw [rng_clamp hi h0]
    intro q
    rcases q with q | q
    · exact absurd ((rng_lt hi rng_0).mp q) (by omega)
    · omega
  · rw [rng_clamp hi h0]
    exact g6 _ hn
  · exact kk H locs la o1 o2 (okS_c (by have := sAt_ok hk h0 h1; show rng _; unfold rng; omega) (okS_t (okS_t o3))) hP hS hl
theorem ch_of {z : Int} (h0 : 0 ≤ z) (h1 : z < 65536) : ((Int32.ofInt z).toUInt32 % 65536).toInt32 = Int32.ofInt z := by
  have e : Int32.ofInt z = nI z.toNat := by
    obtain ⟨n, rfl⟩ : ∃ n : Nat, z = n := ⟨z.toNat, by omega⟩
    exact (Int32.ofInt_eq_ofNat (n := n))
  rw [e, pk_char, pk_tn (by omega), Nat.mod_eq_of_lt (by omega)]
theorem and255 {z : Int} (h0 : 0 ≤ z) (h1 : z < 256) : iAnd z 255 = z := by
  have e : Int32.ofInt z = nI z.toNat := by
    obtain ⟨n, rfl⟩ : ∃ n : Nat, z = n := ⟨z.toNat, by omega⟩
    exact (Int32.ofInt_eq_ofNat (n := n))
  unfold iAnd
  rw [e, show Int32.ofInt 255 = (255 : Int32) from rfl, pk_andN (by omega) 8 (by decide), nI_toInt (by omega), Nat.mod_eq_of_lt (by omega)]
  omega
theorem ishr0 {z : Int} (hz : rng z) : iShr z 0 = z := by
  unfold iShr
  rw [show Int32.ofInt 0 = (0 : Int32) from rfl, sb_shr0, rng_toInt hz]
theorem r_i2c (hC : Cx p s m args c cc nL own D cA ad A L) {z : Int} (h0 : 0 ≤ z) (h1 : z < 65536) (hd : decode cc pc = .ok (.i2c, 1)) (kk : Wd p l e R s m args below meth c Q cells slots nL D cA ad A L w (pc + 1) (ls) (aI z :: st)) : Wd p l e R s m args below meth c Q cells slots nL D cA ad A L w (pc) (ls) (aI z :: st) := by
  intro H locs la o1 o2 o3 hP hS hl
  refine lv_i2c hC.1 hC.2.1 hd (v := Int32.ofInt z) (ch_of h0 h1) ?_
  exact kk H locs la o1 o2 o3 hP hS hl

theorem r_retc {P : Int → St → Prop} {z : Int} (hC : Cx p s m args c cc nL own D cA ad A L) (hQ : Q = MQ below (QcW D cA ad A L (okI P)) args s 0 0 A) (h0 : 0 ≤ z) (h1 : z < 65536) (hd : decode cc pc = .ok (.ireturn, 1)) (hr : meth.sig.returnType = some .char) (hlocks : meth.locks = false) (hq : P z w) : Wd p l e R s m args below meth c Q 0 0 nL D cA ad A L w pc ls [aI z] := by
  subst hQ
  intro H locs la o1 o2 o3 hP hS hl
  have e := pk_nc (Int32.ofInt z)
  rw [ch_of h0 h1] at e
  exact W.zret (v := Int32.ofInt z) hC.1 hC.2.1 hr e (fun t ht hW => ⟨some (aI z), w, rfl, fun v hv => by cases hv; exact okS_h o3, ⟨z, rfl, hq⟩, World.pre hC o1 hP hS ht hW, hS.F ht⟩) hS.2.2 hd hlocks
/-- checkIndex of Preconditions, in range -/
theorem c_pci (l : Launch) (i n : Int32) (F : Value) (hF : F.category = 1) (h0 : ¬ i < 0) (h1 : i < n) : Met l yJ3_checkIndex_8e157 (Cond.code yJ3_checkIndex_8e157 cJ3_checkIndex_8e157 3 (some .int) :: gw) (rmD 0) (fun v U => v = [.int i, .int n, F].toArray) (fun _ st o t => o = .returned (some (.int i)) ∧ t.heap = st.heap) 0 0 (fun _ => False) := by
  refine Met.ofW (cc := cJ3_checkIndex_8e157) (maxL := 3) (ret := some .int) (by decide) rfl ?_
  intro p e s m args below meth c s₁ B hml hv
  subst hv
  have hx := B.exec
  have hb := B.bytes
  have hr := B.returns
  have hk := B.notSynchronized
  have hsz : (lg_sl ([.int i, .int n, F] : List Value)).length = 3 := by
    show ([Slot.val (.int i)] ++ ([Slot.val (.int n)] ++ ((if F.category = 2 then [Slot.val F, .second] else [Slot.val F]) ++ []))).length = 3
    rw [if_neg (by omega)]; rfl
  have hl := lv_entry ([.int i, .int n, F]) (n := 3) (by omega)
  rw [lg_entry_eq]
  generalize (lg_sl ([.int i, .int n, F]) ++ List.replicate (3 - (lg_sl ([.int i, .int n, F])).length) Slot.unset).toArray = la at hl ⊢
  have l0 : la[0]? = some (.val (.int i)) := hl.2.2 (0, .int i) (by simp [lv_args])
  have l1 : la[1]? = some (.val (.int n)) := hl.2.2 (1, .int n) (by simp [lv_args, Value.category])
  refine lv_iload_n (i := 0) hx hb dJ3_checkIndex_8e157_0 rfl l0 ?_
  refine lv_if_lt (tgt := 9) hx hb dJ3_checkIndex_8e157_1 rfl (fun h => absurd h h0) (fun _ => ?_)
  refine lv_iload_n (i := 0) hx hb dJ3_checkIndex_8e157_4 rfl l0 ?_
  refine lv_iload_n (i := 1) hx hb dJ3_checkIndex_8e157_5 rfl l1 ?_
  refine lv_icmp_lt (tgt := 16) hx hb dJ3_checkIndex_8e157_6 rfl (fun _ => ?_) (fun h => absurd h1 h)
  refine lv_iload_n (i := 0) hx hb dJ3_checkIndex_8e157_16 rfl l0 ?_
  exact W.iret (v := i) hx hb hr (fun t ht hW => ⟨rfl, ht⟩) (fun q hq => by cases hq) dJ3_checkIndex_8e157_17 hk
theorem rm_le : (0 : Nat) + 0 ≤ 0 := Nat.le_refl _
theorem c_chk (l : Launch) (i n : Int32) (A : Nat → Prop) (h0 : ¬ i < 0) (h1 : i < n) : Met l yJ0_checkIndex_df160 (Cond.code yJ0_checkIndex_df160 cJ0_checkIndex_df160 2 none :: gw) (rmD 1) (fun v U => v = [.int i, .int n].toArray ∧ va_Zq "jdk/internal/util/Preconditions" "SIOOBE_FORMATTER" "Ljava/util/function/BiFunction;" A U U.heap) (fun _ st o t => o = .returned none ∧ t.heap = st.heap) 0 0 (fun _ => False) := by
  refine Met.ofW (cc := cJ0_checkIndex_df160) (maxL := 2) (ret := none) (by decide) rfl ?_
  intro p e s m args below meth c s₁ B hml hv
  obtain ⟨rfl, hZ⟩ := hv
  have hx := B.exec
  have hb := B.bytes
  have hr := B.returns
  have hk := B.notSynchronized
  have hts0 := atoms_spec (ws := Cond.code yJ0_checkIndex_df160 cJ0_checkIndex_df160 2 none :: gw) B.pre
  have hts : ∀ w ∈ gw, w.before _ s = true := fun w9 h9 => hts0 w9 (List.mem_cons_of_mem _ h9)
  have hown : s.vm.findClass RJ0 = some m.cls := findClass_of_methodNamed B.named
  have hl := lv_entry ([.int i, .int n]) (n := 2) (Nat.le_of_ble_eq_true rfl)
  rw [lg_entry_eq]
  generalize (lg_sl ([.int i, .int n]) ++ List.replicate (2 - (lg_sl ([.int i, .int n])).length) Slot.unset).toArray = la at hl ⊢
  have l0 : la[0]? = some (.val (.int i)) := hl.2.2 (0, .int i) (by simp [lv_args])
  have l1 : la[1]? = some (.val (.int n)) := hl.2.2 (1, .int n) (by simp [lv_args, Value.category])
  refine lv_iload_n (i := 0) hx hb dJ0_checkIndex_df160_0 rfl l0 ?_
  refine lv_iload_n (i := 1) hx hb dJ0_checkIndex_df160_1 rfl l1 ?_
  have go : ∀ F : Value, F.category = 1 → W p l e (rmD 1) s m [Value.int i, .int n].toArray below meth c s.heap [] 0 0 (MQ below (fun _ st o t => o = .returned none ∧ t.heap = st.heap) [Value.int i, .int n].toArray s 0 0 (fun _ => False)) (F0 m 5 la [F, .int n, .int i]) := by
    intro F hF T hT X
    have hR := va_runS (As := [.int i, .int n, F]) (rest := []) (g := F0 m 5 la [F, .int n, .int i]) (H := s.heap) (locs := []) (cells := 0) (slots := 0) (below := below) (e := e) (R := rmD 1) (meth := meth) ⟨hx, hb, hml, hown, hts⟩ (c_pci l i n F hF h0 h1) (va_cwS 3 hts (gw_S ksl_RJ0_1059 ms_J3_checkIndex_8e157 my_J3_checkIndex_8e157.1 my_J3_checkIndex_8e157.2.1) rfl rfl rfl ⟨my_J3_checkIndex_8e157.2.2.1, my_J3_checkIndex_8e157.2.2.2.1, my_J3_checkIndex_8e157.2.2.2.2.1⟩ ⟨Nat.le_of_ble_eq_true rfl, Nat.le_of_ble_eq_true rfl⟩) ⟨fun a U g mk q => q, fun U hU hW => rfl⟩ rfl rfl hl.1 rfl (lv_room (Nat.le_of_ble_eq_true rfl)) dJ0_checkIndex_df160_5 ⟨Nat.le_of_ble_eq_true rfl, Nat.le_of_ble_eq_true rfl⟩
    obtain ⟨v, st₀, t, T', L9, g0, X', hL, e1, e2, ⟨hv, hh⟩, st⟩ := hR T hT X
    cases hv
    have hL0 : L9 = [] := by
      cases L9 with
      | nil => rfl
      | cons a b => exact (hL a List.mem_cons_self).elim
    subst hL0
    have hT' : T'.heap = s.heap := e1.trans (hh.trans g0)
    obtain ⟨t2, a1, b1⟩ := (lv_pop (va := .int i) hx hb dJ0_checkIndex_df160_8 rfl (W.vret (ls := la) hx hb hr (fun t ht hW => ⟨rfl, ht⟩) (fun q hq => by cases hq) dJ0_checkIndex_df160_9 hk) : W p l e (rmD 1) s m [Value.int i, .int n].toArray below meth c s.heap [] 0 0 (MQ below (fun _ st o t => o = .returned none ∧ t.heap = st.heap) [Value.int i, .int n].toArray s 0 0 (fun _ => False)) (F0 m 8 la [.int i])) T' hT' X'
    exact ⟨t2, st t2 a1, b1⟩
  rcases hZ with hZ | ⟨q, hZ⟩
  · exact va_gets hx hb hZ va_S.rf hown (hts _ kss) q_same dJ0_checkIndex_df160_2 (go .null rfl)
  · exact va_gets hx hb hZ va_S.rf hown (hts _ kss) q_same dJ0_checkIndex_df160_2 (go (.ref q) rfl)

theorem r_chk (hC : Cx p s m args c cc nL own D cA ad A L) {i n : Int} (hlk : Cond.methodLink own 9 yJ0_checkIndex_df160 ∈ gw) (h0 : 0 ≤ i) (h1 : i < n) (hd : decode cc pc = .ok (.invokestatic 9, 3)) (hR : 2 ≤ R.frames ∧ 80 ≤ R.locals) (hcs : cells + 0 ≤ R.cells ∧ slots + 0 ≤ R.slots) (h8 : rsum st ≤ 8) (kk : Wd p l e R s m args below meth c Q cells slots nL D cA ad A L w (pc + 3) (ls) (st)) : Wd p l e R s m args below meth c Q cells slots nL D cA ad A L w (pc) (ls) (aI n :: aI i :: st) := by
  intro H locs la o1 o2 o3 hP hS hl
  have hn : rng n := okS_h o3
  have hi : rng i := okS_h (okS_t o3)
  intro T hT X
  have hR := va_runS (As := [.int (Int32.ofInt i), .int (Int32.ofInt n)]) (rest := st.map (cv ad)) (g := F0 m pc la ((aI n :: aI i :: st).map (cv ad))) (H := H) (locs := locs) (cells := cells) (slots := slots) (below := below) (e := e) (R := R) (meth := meth) ⟨hC.1, hC.2.1, hC.2.2.1, hC.2.2.2.1, hC.2.2.2.2.1⟩ (c_chk l (Int32.ofInt i) (Int32.ofInt n) A (fun q => absurd ((rng_lt hi rng_0).mp q) (by omega)) ((rng_lt hi hn).mpr h1)) (va_cwS 2 hC.2.2.2.2.1 (gw_S hlk ms_J0_checkIndex_df160 my_J0_checkIndex_df160.1 my_J0_checkIndex_df160.2.1) rfl rfl rfl ⟨my_J0_checkIndex_df160.2.2.1, my_J0_checkIndex_df160.2.2.2.1, my_J0_checkIndex_df160.2.2.2.2.1⟩ ⟨hR.1, by show 8 + (2 + 11) + 40 * 1 ≤ _; omega⟩) ⟨fun a U g mk q => ⟨q.1, va_Zq.moved (u := U) (U := U.calling g mk a) (Vm.Alike.refl U.vm) q.2⟩, fun U hU hW => ⟨rfl, by rw [hU]; exact va_Zq.moved hW.alike (va_Zq.kept hC.2.2.2.2.2.2.2.2.2.2.2.2.2.2 hS.2.1)⟩⟩ rfl rfl hl.1 rfl (lv_room (by rw [rsum_cat]; exact h8)) hd hcs
  obtain ⟨v, st₀, t, T', L9, g0, X', hL, e1, e2, ⟨hv, hh⟩, stp⟩ := hR T hT X
  cases hv
  have hL0 : L9 = [] := by
    cases L9 with
    | nil => rfl
    | cons a b => exact (hL a List.mem_cons_self).elim
  subst hL0
  rw [List.append_nil] at X'
  have hT' : T'.heap = H := e1.trans (hh.trans g0)
  obtain ⟨t2, a1, b1⟩ := kk H locs la o1 o2 (okS_t (okS_t o3)) hP hS hl T' hT' X'
  exact ⟨t2, stp t2 a1, b1⟩
theorem r_callSV (hC : Cx p s m args c cc nL own D cA ad A L) {y : MethodName} {cc2 : ByteArray} {nL2 d n idx k : Nat} {ret : Option FieldType} (as st2 : List AV) {P : Int → St → Prop} (hk : k < 37) (hd : decode cc pc = .ok (.invokevirtual idx, 3)) (hlk : Cond.methodLink own idx y ∈ gw) (hm : MY y cc2 nL2 ret n) (hi : MI y) (hyc : y.cls = "java/lang/String") (hn : as.length = n) (hR : d + 1 ≤ R.frames ∧ 8 + (nL2 + 11) + 40 * d ≤ R.locals) (hcs : cells + 0 ≤ R.cells ∧ slots + 0 ≤ R.slots) (h8 : rsum st2 ≤ 8) (hst : st = as.reverse ++ (aR (10000 + k) :: st2)) (hM : Cn l y cc2 nL2 ret d L w (aR (10000 + k) :: as) (okI P)) (kk : ∀ (r : Int) (w' : St), P r w' → Wd p l e R s m args below meth c Q cells slots nL D cA ad A L w' (pc + 3) (ls) (aI r :: st2)) : Wd p l e R s m args below meth c Q cells slots nL D cA ad A L w (pc) (ls) (st) := by
  intro H locs la o1 o2 o3 hP hS hl
  have ha : okS (aR (10000 + k) :: as) := okS_c trivial (fun v hv => o3 v (by rw [hst]; exact List.mem_append_left _ (List.mem_reverse.mpr hv)))
  have hrc : ∃ cell : Cell, H[ad (10000 + k)]? = some cell ∧ cell.vm.isStatics = false ∧ s.vm.findClass y.cls = some cell.cls := by
    obtain ⟨cell, h1, h2, h3, -⟩ := (hC.2.2.2.2.2.2.2.2.2.2.1 k hk).1.kept hS.2.1
    exact ⟨cell, h1, h2, by rw [hyc]; exact h3⟩
  refine q_run (va_runV (C := y.cls) (b := ad (10000 + k)) (As := as.map (cv ad)) (rest := st2.map (cv ad)) ⟨hC.1, hC.2.1, hC.2.2.1, hC.2.2.2.1, hC.2.2.2.2.1⟩ (hM D cA ad A ha) (cwV (C := y.cls) n hC.2.2.2.2.1 (gw_V hlk hi.1 hi.2 hm.1 hm.2.1) rfl rfl rfl ⟨rfl, hm.2.2.1, hm.2.2.2.1, hm.2.2.2.2.1⟩ hR)
    ⟨fun a U g mk q => ⟨q.1, World.blind g mk a q.2⟩, hrc, fun U hU hW => ⟨rfl, World.pre hC o1 hP hS hU hW⟩⟩ rfl (by rw [List.length_map]; exact hn) hl.1 (by rw [hst, List.map_append, List.map_reverse]; rfl) (lv_room (by rw [rsum_cat]; exact h8)) hd hcs) hS (fun r w' t H1 locs1 ht hok hq hw hS1 => ?_)
  obtain ⟨z, rfl, hq⟩ := hq
  exact kk z w' hq H1 locs1 la hw.1 o2 (okS_c (hok _ rfl) (fun v hv => o3 v (by rw [hst]; exact List.mem_append_right _ (List.mem_cons_of_mem _ hv)))) (by rw [← ht]; exact hw.2.1) hS1 hl
theorem s_coder (l : Launch) (L : List LC) (w : St) {k : Nat} (hk : k < 37) : Cn l yJ0_coder_7d493 cJ0_coder_7d493 1 (some .byte) 0 L w [aR (10000 + k)] (okI (fun r w1 => w1 = w ∧ r = 0)) := by
  refine Cn.of2 [some (aR (10000 + k))] (by decide) (Nat.le_of_ble_eq_true rfl) rfl (fun p e s m args below meth c D cA ad A Q hQ hC hr hk2 => ?_)
  refine r_scs (pc := 0) hC rfl dJ0_coder_7d493_0 ?_
  refine r_if_eq (pc := 3) (tgt := 13) hC dJ0_coder_7d493_3 rfl (fun h => absurd h (by decide)) (fun _ => ?_)
  refine r_aload_n (pc := 6) hC 0 dJ0_coder_7d493_6 rfl rfl ?_
  refine r_scod (pc := 7) hC hk rfl dJ0_coder_7d493_7 ?_
  refine r_goto (pc := 10) (tgt := 14) hC dJ0_coder_7d493_10 rfl ?_
  exact r_reti (pc := 14) (kd := 2) hC hQ dJ0_coder_7d493_14 hr hk2 (by decide) (Or.inr ⟨by omega, by omega⟩) ⟨rfl, rfl⟩
theorem s_isLatin1 (l : Launch) (L : List LC) (w : St) {k : Nat} (hk : k < 37) : Cn l yJ0_isLatin1_aae02 cJ0_isLatin1_aae02 1 (some .boolean) 0 L w [aR (10000 + k)] (okI (fun r w1 => w1 = w ∧ r = 1)) := by
  refine Cn.of2 [some (aR (10000 + k))] (by decide) (Nat.le_of_ble_eq_true rfl) rfl (fun p e s m args below meth c D cA ad A Q hQ hC hr hk2 => ?_)
  refine r_scs (pc := 0) hC rfl dJ0_isLatin1_aae02_0 ?_
  refine r_if_eq (pc := 3) (tgt := 17) hC dJ0_isLatin1_aae02_3 rfl (fun h => absurd h (by decide)) (fun _ => ?_)
  refine r_aload_n (pc := 6) hC 0 dJ0_isLatin1_aae02_6 rfl rfl ?_
  refine r_scod (pc := 7) hC hk rfl dJ0_isLatin1_aae02_7 ?_
  refine r_if_ne (pc := 10) (tgt := 17) hC dJ0_isLatin1_aae02_10 rfl (fun h => absurd rfl h) (fun _ => ?_)
  refine r_iconst (pc := 13) hC dJ0_isLatin1_aae02_13 (rng_lit rfl) ?_
  refine r_goto (pc := 14) (tgt := 18) hC dJ0_isLatin1_aae02_14 rfl ?_
  exact r_reti (pc := 18) (kd := 1) hC hQ dJ0_isLatin1_aae02_18 hr hk2 (by decide) (Or.inr okK1_1) ⟨rfl, rfl⟩
theorem s_strlen (l : Launch) (L : List LC) (w : St) {k : Nat} (hk : k < 37) : Cn l yJ0_length_8abf5 cJ0_length_8abf5 1 (some .int) 1 L w [aR (10000 + k)] (okI (fun r w1 => w1 = w ∧ r = sLen k)) := by
  refine Cn.of2 [some (aR (10000 + k))] (by decide) (Nat.le_of_ble_eq_true rfl) rfl (fun p e s m args below meth c D cA ad A Q hQ hC hr hk2 => ?_)
  refine r_aload_n (pc := 0) hC 0 dJ0_length_8abf5_0 rfl rfl ?_
  refine r_sval (pc := 1) hC hk rfl dJ0_length_8abf5_1 ?_
  refine r_sln (pc := 4) hC hk dJ0_length_8abf5_4 ?_
  refine r_aload_n (pc := 5) hC 0 dJ0_length_8abf5_5 rfl rfl ?_
  refine r_callSV (pc := 6) hC [] [aI (sLen k)] hk dJ0_length_8abf5_6 ksl_RJ0_335 my_J0_coder_7d493 mi_J0_coder_7d493 rfl rfl ⟨Nat.le_of_ble_eq_true rfl, Nat.le_of_ble_eq_true rfl⟩ ⟨Nat.le_of_ble_eq_true rfl, Nat.le_of_ble_eq_true rfl⟩ (Nat.le_of_ble_eq_true rfl) rfl (s_coder l L w hk) (fun r w1 hq => ?_)
  obtain ⟨e9, e8⟩ := hq
  rw [e9, e8]
  refine r_ishr (pc := 9) hC dJ0_length_8abf5_9 ?_
  have e7 : iShr (sLen k) 0 = sLen k := ishr0 (by have := sLen_ok hk; unfold rng; omega)
  rw [e7]
  exact r_reti (pc := 10) (kd := 0) hC hQ dJ0_length_8abf5_10 hr hk2 (by decide) (Or.inl rfl) ⟨rfl, rfl⟩
theorem s_lat (l : Launch) (L : List LC) (w : St) {k : Nat} {i : Int} (hk : k < 37) (h0 : 0 ≤ i) (h1 : i < sLen k) : Cn l yJ1_charAt_3b067 cJ1_charAt_3b067 2 (some .char) 2 L w [aR (20000 + k), aI i] (okI (fun r w1 => w1 = w ∧ r = sAt k i)) := by
  refine Cn.of2 [some (aR (20000 + k)), some (aI i)] (by decide) (Nat.le_of_ble_eq_true rfl) rfl (fun p e s m args below meth c D cA ad A Q hQ hC hr hk2 => ?_)
  have hb := sAt_ok hk h0 h1
  refine r_iload_n (pc := 0) hC 1 dJ1_charAt_3b067_0 rfl rfl ?_
  refine r_aload_n (pc := 1) hC 0 dJ1_charAt_3b067_1 rfl rfl ?_
  refine r_sln (pc := 2) hC hk dJ1_charAt_3b067_2 ?_
  refine r_chk (pc := 3) hC ksl_RJ1_9 h0 h1 dJ1_charAt_3b067_3 ⟨Nat.le_of_ble_eq_true rfl, Nat.le_of_ble_eq_true rfl⟩ ⟨Nat.le_of_ble_eq_true rfl, Nat.le_of_ble_eq_true rfl⟩ (Nat.le_of_ble_eq_true rfl) ?_
  refine r_aload_n (pc := 6) hC 0 dJ1_charAt_3b067_6 rfl rfl ?_
  refine r_iload_n (pc := 7) hC 1 dJ1_charAt_3b067_7 rfl rfl ?_
  refine r_sld (pc := 8) hC hk h0 h1 dJ1_charAt_3b067_8 ?_
  refine r_sipush (pc := 9) hC dJ1_charAt_3b067_9 ⟨rfl, rng_lit rfl⟩ ?_
  refine r_iand (pc := 12) hC dJ1_charAt_3b067_12 ?_
  rw [and255 hb.1 (by omega)]
  refine r_i2c (pc := 13) hC hb.1 (by omega) dJ1_charAt_3b067_13 ?_
  exact r_retc (pc := 14) hC hQ hb.1 (by omega) dJ1_charAt_3b067_14 hr hk2 ⟨rfl, rfl⟩
theorem s_strat (l : Launch) (L : List LC) (w : St) {k : Nat} {i : Int} (hk : k < 37) (h0 : 0 ≤ i) (h1 : i < sLen k) : Cn l yJ0_charAt_5068e cJ0_charAt_5068e 2 (some .char) 3 L w [aR (10000 + k), aI i] (okI (fun r w1 => w1 = w ∧ r = sAt k i)) := by
  refine Cn.of2 [some (aR (10000 + k)), some (aI i)] (by decide) (Nat.le_of_ble_eq_true rfl) rfl (fun p e s m args below meth c D cA ad A Q hQ hC hr hk2 => ?_)
  have hb := sAt_ok hk h0 h1
  refine r_aload_n (pc := 0) hC 0 dJ0_charAt_5068e_0 rfl rfl ?_
  refine r_callSV (pc := 1) hC [] [] hk dJ0_charAt_5068e_1 ksl_RJ0_492 my_J0_isLatin1_aae02 mi_J0_isLatin1_aae02 rfl rfl ⟨Nat.le_of_ble_eq_true rfl, Nat.le_of_ble_eq_true rfl⟩ ⟨Nat.le_of_ble_eq_true rfl, Nat.le_of_ble_eq_true rfl⟩ (Nat.le_of_ble_eq_true rfl) rfl (s_isLatin1 l L w hk) (fun r w1 hq => ?_)
  obtain ⟨e9, e8⟩ := hq
  rw [e9, e8]
  refine r_if_eq (pc := 4) (tgt := 16) hC dJ0_charAt_5068e_4 rfl (fun h => absurd h (by decide)) (fun _ => ?_)
  refine r_aload_n (pc := 7) hC 0 dJ0_charAt_5068e_7 rfl rfl ?_
  refine r_sval (pc := 8) hC hk rfl dJ0_charAt_5068e_8 ?_
  refine r_iload_n (pc := 11) hC 1 dJ0_charAt_5068e_11 rfl rfl ?_
  refine r_callSi (pc := 12) hC [aR (20000 + k), aI i] [] dJ0_charAt_5068e_12 ksl_RJ0_495 my_J1_charAt_3b067 ms_J1_charAt_3b067 rfl ⟨Nat.le_of_ble_eq_true rfl, Nat.le_of_ble_eq_true rfl⟩ ⟨Nat.le_of_ble_eq_true rfl, Nat.le_of_ble_eq_true rfl⟩ (Nat.le_of_ble_eq_true rfl) rfl (s_lat l L w hk h0 h1) (fun r w1 hq => ?_)
  obtain ⟨e9, e8⟩ := hq
  rw [e9, e8]
  exact r_retc (pc := 15) hC hQ hb.1 (by omega) dJ0_charAt_5068e_15 hr hk2 ⟨rfl, rfl⟩
theorem r_slen (hC : Cx p s m args c cc nL own D cA ad A L) {k idx : Nat} (hd : decode cc pc = .ok (.invokevirtual idx, 3)) (hlk : Cond.methodLink own idx yJ0_length_8abf5 ∈ gw) (hk : k < 37) (hR : 4 ≤ R.frames ∧ 160 ≤ R.locals) (hcs : cells + 0 ≤ R.cells ∧ slots + 0 ≤ R.slots) (h8 : rsum st ≤ 8) (kk : Wd p l e R s m args below meth c Q cells slots nL D cA ad A L w (pc + 3) (ls) (aI (sLen k) :: st)) : Wd p l e R s m args below meth c Q cells slots nL D cA ad A L w (pc) (ls) (aR (10000 + k) :: st) := by
  refine r_callSV hC [] st hk hd hlk my_J0_length_8abf5 mi_J0_length_8abf5 rfl rfl ⟨by omega, by omega⟩ hcs h8 rfl (s_strlen l L w hk) (fun r w1 hq => ?_)
  obtain ⟨e9, e8⟩ := hq
  rw [e9, e8]
  exact kk
theorem r_sat (hC : Cx p s m args c cc nL own D cA ad A L) {k idx : Nat} {i : Int} (hd : decode cc pc = .ok (.invokevirtual idx, 3)) (hlk : Cond.methodLink own idx yJ0_charAt_5068e ∈ gw) (hk : k < 37) (h0 : 0 ≤ i) (h1 : i < sLen k) (hR : 4 ≤ R.frames ∧ 160 ≤ R.locals) (hcs : cells + 0 ≤ R.cells ∧ slots + 0 ≤ R.slots) (h8 : rsum st ≤ 8) (kk : Wd p l e R s m args below meth c Q cells slots nL D cA ad A L w (pc + 3) (ls) (aI (sAt k i) :: st)) : Wd p l e R s m args below meth c Q cells slots nL D cA ad A L w (pc) (ls) (aI i :: aR (10000 + k) :: st) := by
  refine r_callSV hC [aI i] st hk hd hlk my_J0_charAt_5068e mi_J0_charAt_5068e rfl rfl ⟨by omega, by omega⟩ hcs h8 rfl (s_strat l L w hk h0 h1) (fun r w1 hq => ?_)
  obtain ⟨e9, e8⟩ := hq
  rw [e9, e8]
  exact kk

end RS
