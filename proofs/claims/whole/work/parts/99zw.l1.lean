/-! L1: rows of the law -/
theorem lJ_44 : LJ[44]? = some (.inl (10, ([.inl 0, .inr (some 45), .inl 0, .inr (some 46), .inr (some 47), .inr (some 48), .inl 0, .inl 0, .inr (some 49), .inr (some 50), .inr (some 51), .inr (some 52), .inl 0, .inr (some 53), .inr (some 54), .inr (some 55), .inl 0, .inr (some 56), .inr (some 57), .inr (some 58), .inr (some 59), .inr (some 60), .inr (some 61), .inr (some 62), .inr (some 63), .inr (some 64), .inr (some 65), .inr (some 66), .inr (some 67), .inl 0, .inl 0, .inl 0, .inl 0, .inl 0, .inl 0, .inr (some 68), .inr (some 69), .inr (some 70), .inr (some 71), .inl 0, .inr (some 72), .inr (some 73), .inl 1, .inl 1, .inr (some 74), .inr (some 75), .inr (some 76), .inl 0, .inl 0, .inl 1, .inl 0, .inl 0, .inl 0, .inl 0, .inr (some 77), .inr (some 78), .inl 0, .inl 0, .inl 0, .inr (some 79), .inl 0, .inl 0, .inl 0, .inr (some 80), .inr (some 81), .inr (some 82), .inr (some 83), .inl 1, .inl 1]))) := rfl
abbrev lsL (i : Nat) : List (Option AV) := [some (aR 8500), some (aR 0), some (aR 44), some (aR 84), some (aI (i : Int)), none, none]
def bZ (a : Int) : Int := if a = 0 then 0 else 1
theorem lCmp_s (x : Int64) : lCmp x x = 0 := by
  unfold lCmp lg_cmp
  simp
section RLW
variable {p : Program} {l : Launch} {e : Env} {R : Room} {s : State} {m : MethodId} {args : Array Value} {below : List Frame} {meth : Method} {c : Code} {Q : State → Prop} {cells slots nL : Nat} {D : va_G} {cA : Nat → ClassId} {ad : Nat → Nat} {A : Nat → Prop} {L : List LC} {w : St} {pc : Nat} {ls : List (Option AV)} {st : List AV} {cc : ByteArray} {own : String}
theorem r_widen {k n : Nat} (h1 : cells ≤ k) (h2 : slots ≤ n) (kk : Wd p l e R s m args below meth c Q k n nL D cA ad A L w pc ls st) : Wd p l e R s m args below meth c Q cells slots nL D cA ad A L w pc ls st := fun H locs la o1 o2 o3 hP hS hl => W.widen h1 h2 (kk H locs la o1 o2 o3 hP hS hl)
theorem r_wid {k n : Nat} (h1 : cells ≤ k) (h2 : slots ≤ n) (kk : Wd p l e R s m args below meth c Q k n nL D cA ad A L w pc ls st) : Wd p l e R s m args below meth c Q cells slots nL D cA ad A L w pc ls st := r_widen h1 h2 kk
theorem r_drop {i : Nat} {x y : Option AV} (kk : Wd p l e R s m args below meth c Q cells slots nL D cA ad A L w pc (lsL i) st) : Wd p l e R s m args below meth c Q cells slots nL D cA ad A L w pc [some (aR 8500), some (aR 0), some (aR 44), some (aR 84), some (aI (i : Int)), x, y] st := by
  refine r_ls (fun j v h => ?_) kk
  match j, h with
  | 0, h => exact h
  | 1, h => exact h
  | 2, h => exact h
  | 3, h => exact h
  | 4, h => exact h
  | 5, h => cases h
  | 6, h => cases h
  | n + 7, h => cases h
theorem r_xldz (hC : Cx p s m args c cc nL own D cA ad A L) {L0 : Nat} {xs : Nat → Int32} (hX : SCR s A ad L0 xs) {z : Int} {i : Nat} (hd : decode cc pc = .ok (.iaload, 1)) (hz : z = (i : Int)) (hi : i < L0) (kk : Wd p l e R s m args below meth c Q cells slots nL D cA ad A L w (pc + 1) ls (aI (xs i).toInt :: st)) : Wd p l e R s m args below meth c Q cells slots nL D cA ad A L w (pc) ls (aI z :: aR 8500 :: st) := by
  subst hz
  exact r_xld hC hX hd hi kk
theorem r_arg {k L0 i : Nat} {xs : Nat → Int32} (hC : Cx p s m args c cc nL own D cA ad A L) (hX : SCR s A ad L0 xs) (hL : L0 ≤ 3072) (h0 : ls[0]? = some (some (aR 8500))) (h4 : ls[4]? = some (some (aI (i : Int)))) (hk : i + k < L0) (d0 : decode cc pc = .ok (.aload_n 0, 1)) (d1 : decode cc (pc + 1) = .ok (.iload 4, 2)) (d2 : decode cc (pc + 3) = .ok (.iconst (k : Int), 1)) (d3 : decode cc (pc + 4) = .ok (.iadd, 1)) (d4 : decode cc (pc + 5) = .ok (.iaload, 1)) (kk : Wd p l e R s m args below meth c Q cells slots nL D cA ad A L w (pc + 6) ls (aI (xs (i + k)).toInt :: st)) : Wd p l e R s m args below meth c Q cells slots nL D cA ad A L w pc ls st := by
  refine r_aload_n hC 0 d0 rfl h0 ?_
  refine r_iload hC d1 h4 ?_
  refine r_iconst hC d2 ⟨by omega, by omega⟩ ?_
  refine r_iadd hC d3 ⟨by omega, by omega⟩ ?_
  exact r_xldz (i := i + k) hC hX d4 (by omega) hk kk
theorem r_barg {k L0 i : Nat} {xs : Nat → Int32} (hC : Cx p s m args c cc nL own D cA ad A L) (hX : SCR s A ad L0 xs) (hL : L0 ≤ 3072) (h0 : ls[0]? = some (some (aR 8500))) (h4 : ls[4]? = some (some (aI (i : Int)))) (hk : i + k < L0) (d0 : decode cc pc = .ok (.aload_n 0, 1)) (d1 : decode cc (pc + 1) = .ok (.iload 4, 2)) (d2 : decode cc (pc + 3) = .ok (.iconst (k : Int), 1)) (d3 : decode cc (pc + 4) = .ok (.iadd, 1)) (d4 : decode cc (pc + 5) = .ok (.iaload, 1)) (d5 : decode cc (pc + 6) = .ok (.ifCond .eq 7, 3)) (d6 : decode cc (pc + 9) = .ok (.iconst 1, 1)) (d7 : decode cc (pc + 10) = .ok (.goto 4, 3)) (d8 : decode cc (pc + 13) = .ok (.iconst 0, 1)) (kk : Wd p l e R s m args below meth c Q cells slots nL D cA ad A L w (pc + 14) ls (aI (bZ (xs (i + k)).toInt) :: st)) : Wd p l e R s m args below meth c Q cells slots nL D cA ad A L w pc ls st := by
  refine r_arg hC hX hL h0 h4 hk d0 d1 d2 d3 d4 ?_
  refine r_if_eq hC (tgt := pc + 13) d5 (by omega) (fun g => ?_) (fun g => ?_)
  · refine r_iconst hC d8 ⟨by decide, by decide⟩ ?_
    unfold bZ at kk
    rw [if_pos g] at kk
    exact kk
  · refine r_iconst hC d6 ⟨by decide, by decide⟩ ?_
    refine r_goto hC (tgt := pc + 14) d7 (by omega) ?_
    unfold bZ at kk
    rw [if_neg g] at kk
    exact kk
end RLW
theorem case_0 {p : Program} {l : Launch} {e : Env} {s : State} {m : MethodId} {args : Array Value} {below : List Frame} {meth : Method} {c : Code} {Q : State → Prop} {cells slots : Nat} {D : va_G} {cA : Nat → ClassId} {ad : Nat → Nat} {A : Nat → Prop} {L0 i : Nat} {xs : Nat → Int32} {u v : St} {o : Nat → Int64} (hl : l.stackTraces = false) (hC : Cx p s m args c code 7 RL D cA ad A LJ) (hX : SCR s A ad L0 xs) (hnc : NcX s) (hL : L0 ≤ 3072) (hi : i + 6 ≤ L0) (hR : Rel u v) (hcs : cells + 3 ≤ 601024 ∧ slots + 18 ≤ 7293034) (kk : ∀ (u' v' : St) (o' : Nat → Int64), Rel u' v' → Wd p l e room_1 s m args below meth c Q (cells + 3) (slots + 18) 7 D cA ad A LJ (jN u' v' o') 1988 (lsL i) []) : Wd p l e room_1 s m args below meth c Q cells slots 7 D cA ad A LJ (jN u v o) 196 (lsL i) [] := by
  refine r_widen (k := cells + 3) (n := slots + 18) (by omega) (by omega) ?_
  refine r_aload_n hC 1 dL_law_196 rfl rfl ?_
  refine r_arg (k := 1) hC hX hL rfl rfl (by omega) dL_law_197 dL_law_198 dL_law_200 dL_law_201 dL_law_202 ?_
  refine r_arg (k := 2) hC hX hL rfl rfl (by omega) dL_law_203 dL_law_204 dL_law_206 dL_law_207 dL_law_208 ?_
  refine r_arg (k := 3) hC hX hL rfl rfl (by omega) dL_law_209 dL_law_210 dL_law_212 dL_law_213 dL_law_214 ?_
  refine r_arg (k := 4) hC hX hL rfl rfl (by omega) dL_law_215 dL_law_216 dL_law_218 dL_law_219 dL_law_220 ?_
  refine r_arg (k := 5) hC hX hL rfl rfl (by omega) dL_law_221 dL_law_222 dL_law_224 dL_law_225 dL_law_226 ?_
  refine r_callV (k := 0) (as := [aI ((xs (i + 1)).toInt), aI ((xs (i + 2)).toInt), aI ((xs (i + 3)).toInt), aI ((xs (i + 4)).toInt), aI ((xs (i + 5)).toInt)]) (st2 := []) hC dL_law_227 (Cn.liftX rfl rfl okI_nr (K_feed hR ((xs (i + 1)).toInt) ((xs (i + 2)).toInt) ((xs (i + 3)).toInt) ((xs (i + 4)).toInt) ((xs (i + 5)).toInt))) ml_RL_92 my_X9_feed mi_X9_feed lJ_0 rfl rfl ⟨by decide, by decide⟩ ⟨by show _ ≤ 601024; omega, by show _ ≤ 7293034; omega⟩ (Nat.le_of_ble_eq_true rfl) rfl (fun r w' hq => ?_)
  obtain ⟨u', ⟨z, rfl, hCn⟩, rfl⟩ := hq
  refine r_aload_n hC 2 dL_law_230 rfl rfl ?_
  refine r_arg (k := 1) hC hX hL rfl rfl (by omega) dL_law_231 dL_law_232 dL_law_234 dL_law_235 dL_law_236 ?_
  refine r_arg (k := 2) hC hX hL rfl rfl (by omega) dL_law_237 dL_law_238 dL_law_240 dL_law_241 dL_law_242 ?_
  refine r_arg (k := 3) hC hX hL rfl rfl (by omega) dL_law_243 dL_law_244 dL_law_246 dL_law_247 dL_law_248 ?_
  refine r_arg (k := 4) hC hX hL rfl rfl (by omega) dL_law_249 dL_law_250 dL_law_252 dL_law_253 dL_law_254 ?_
  refine r_arg (k := 5) hC hX hL rfl rfl (by omega) dL_law_255 dL_law_256 dL_law_258 dL_law_259 dL_law_260 ?_
  refine r_callV (k := 44) (as := [aI ((xs (i + 1)).toInt), aI ((xs (i + 2)).toInt), aI ((xs (i + 3)).toInt), aI ((xs (i + 4)).toInt), aI ((xs (i + 5)).toInt)]) (st2 := [aI z]) hC dL_law_261 (Cn.liftM (as := [aR 0, aI ((xs (i + 1)).toInt), aI ((xs (i + 2)).toInt), aI ((xs (i + 3)).toInt), aI ((xs (i + 4)).toInt), aI ((xs (i + 5)).toInt)]) rfl rfl okI_nr hCn) ml_RL_96 my_X10_feed mi_X10_feed lJ_44 rfl rfl ⟨by decide, by decide⟩ ⟨by show _ ≤ 601024; omega, by show _ ≤ 7293034; omega⟩ (Nat.le_of_ble_eq_true rfl) rfl (fun r w' hq => ?_)
  obtain ⟨v', ⟨z2, rfl, hz, hR2⟩, rfl⟩ := hq
  exact r_ic_eq hC (tgt := 1988) dL_law_264 (by decide) (fun _ => kk _ _ _ hR2) (fun g => absurd hz.symm g)
theorem case_1 {p : Program} {l : Launch} {e : Env} {s : State} {m : MethodId} {args : Array Value} {below : List Frame} {meth : Method} {c : Code} {Q : State → Prop} {cells slots : Nat} {D : va_G} {cA : Nat → ClassId} {ad : Nat → Nat} {A : Nat → Prop} {L0 i : Nat} {xs : Nat → Int32} {u v : St} {o : Nat → Int64} (hl : l.stackTraces = false) (hC : Cx p s m args c code 7 RL D cA ad A LJ) (hX : SCR s A ad L0 xs) (hnc : NcX s) (hL : L0 ≤ 3072) (hi : i + 6 ≤ L0) (hR : Rel u v) (hcs : cells + 3 ≤ 601024 ∧ slots + 18 ≤ 7293034) (kk : ∀ (u' v' : St) (o' : Nat → Int64), Rel u' v' → Wd p l e room_1 s m args below meth c Q (cells + 3) (slots + 18) 7 D cA ad A LJ (jN u' v' o') 1988 (lsL i) []) : Wd p l e room_1 s m args below meth c Q cells slots 7 D cA ad A LJ (jN u v o) 269 (lsL i) [] := by
  refine r_widen (k := cells + 3) (n := slots + 18) (by omega) (by omega) ?_
  refine r_aload_n hC 1 dL_law_269 rfl rfl ?_
  refine r_arg (k := 1) hC hX hL rfl rfl (by omega) dL_law_270 dL_law_271 dL_law_273 dL_law_274 dL_law_275 ?_
  refine r_callV (k := 0) (as := [aI ((xs (i + 1)).toInt)]) (st2 := []) hC dL_law_276 (Cn.liftX rfl rfl okI_nr (K_end hR ((xs (i + 1)).toInt))) ml_RL_97 my_X9_end mi_X9_end lJ_0 rfl rfl ⟨by decide, by decide⟩ ⟨by show _ ≤ 601024; omega, by show _ ≤ 7293034; omega⟩ (Nat.le_of_ble_eq_true rfl) rfl (fun r w' hq => ?_)
  obtain ⟨u', ⟨z, rfl, hCn⟩, rfl⟩ := hq
  refine r_aload_n hC 2 dL_law_279 rfl rfl ?_
  refine r_arg (k := 1) hC hX hL rfl rfl (by omega) dL_law_280 dL_law_281 dL_law_283 dL_law_284 dL_law_285 ?_
  refine r_callV (k := 44) (as := [aI ((xs (i + 1)).toInt)]) (st2 := [aI z]) hC dL_law_286 (Cn.liftM (as := [aR 0, aI ((xs (i + 1)).toInt)]) rfl rfl okI_nr hCn) ml_RL_101 my_X10_end mi_X10_end lJ_44 rfl rfl ⟨by decide, by decide⟩ ⟨by show _ ≤ 601024; omega, by show _ ≤ 7293034; omega⟩ (Nat.le_of_ble_eq_true rfl) rfl (fun r w' hq => ?_)
  obtain ⟨v', ⟨z2, rfl, hz, hR2⟩, rfl⟩ := hq
  exact r_ic_eq hC (tgt := 1988) dL_law_289 (by decide) (fun _ => kk _ _ _ hR2) (fun g => absurd hz.symm g)
theorem case_2 {p : Program} {l : Launch} {e : Env} {s : State} {m : MethodId} {args : Array Value} {below : List Frame} {meth : Method} {c : Code} {Q : State → Prop} {cells slots : Nat} {D : va_G} {cA : Nat → ClassId} {ad : Nat → Nat} {A : Nat → Prop} {L0 i : Nat} {xs : Nat → Int32} {u v : St} {o : Nat → Int64} (hl : l.stackTraces = false) (hC : Cx p s m args c code 7 RL D cA ad A LJ) (hX : SCR s A ad L0 xs) (hnc : NcX s) (hL : L0 ≤ 3072) (hi : i + 6 ≤ L0) (hR : Rel u v) (hcs : cells + 3 ≤ 601024 ∧ slots + 18 ≤ 7293034) (kk : ∀ (u' v' : St) (o' : Nat → Int64), Rel u' v' → Wd p l e room_1 s m args below meth c Q (cells + 3) (slots + 18) 7 D cA ad A LJ (jN u' v' o') 1988 (lsL i) []) : Wd p l e room_1 s m args below meth c Q cells slots 7 D cA ad A LJ (jN u v o) 294 (lsL i) [] := by
  refine r_widen (k := cells + 3) (n := slots + 18) (by omega) (by omega) ?_
  refine r_aload_n hC 1 dL_law_294 rfl rfl ?_
  refine r_callV (k := 0) (as := []) (st2 := []) hC dL_law_295 (Cn.liftX rfl rfl okI_nr (K_page hR )) ml_RL_102 my_X9_page mi_X9_page lJ_0 rfl rfl ⟨by decide, by decide⟩ ⟨by show _ ≤ 601024; omega, by show _ ≤ 7293034; omega⟩ (Nat.le_of_ble_eq_true rfl) rfl (fun r w' hq => ?_)
  obtain ⟨u', ⟨z, rfl, hCn⟩, rfl⟩ := hq
  refine r_aload_n hC 2 dL_law_298 rfl rfl ?_
  refine r_callV (k := 44) (as := []) (st2 := [aI z]) hC dL_law_299 (Cn.liftM (as := [aR 0]) rfl rfl okI_nr hCn) ml_RL_105 my_X10_page mi_X10_page lJ_44 rfl rfl ⟨by decide, by decide⟩ ⟨by show _ ≤ 601024; omega, by show _ ≤ 7293034; omega⟩ (Nat.le_of_ble_eq_true rfl) rfl (fun r w' hq => ?_)
  obtain ⟨v', ⟨z2, rfl, hz, hR2⟩, rfl⟩ := hq
  exact r_ic_eq hC (tgt := 1988) dL_law_302 (by decide) (fun _ => kk _ _ _ hR2) (fun g => absurd hz.symm g)
theorem case_3 {p : Program} {l : Launch} {e : Env} {s : State} {m : MethodId} {args : Array Value} {below : List Frame} {meth : Method} {c : Code} {Q : State → Prop} {cells slots : Nat} {D : va_G} {cA : Nat → ClassId} {ad : Nat → Nat} {A : Nat → Prop} {L0 i : Nat} {xs : Nat → Int32} {u v : St} {o : Nat → Int64} (hl : l.stackTraces = false) (hC : Cx p s m args c code 7 RL D cA ad A LJ) (hX : SCR s A ad L0 xs) (hnc : NcX s) (hL : L0 ≤ 3072) (hi : i + 6 ≤ L0) (hR : Rel u v) (hcs : cells + 3 ≤ 601024 ∧ slots + 18 ≤ 7293034) (kk : ∀ (u' v' : St) (o' : Nat → Int64), Rel u' v' → Wd p l e room_1 s m args below meth c Q (cells + 3) (slots + 18) 7 D cA ad A LJ (jN u' v' o') 1988 (lsL i) []) : Wd p l e room_1 s m args below meth c Q cells slots 7 D cA ad A LJ (jN u v o) 307 (lsL i) [] := by
  refine r_aload_n hC 1 dL_law_307 rfl rfl ?_
  refine r_aload_n hC 3 dL_law_308 rfl rfl ?_
  refine r_widen (k := cells + 2) (n := slots + 12) (by omega) (by omega) ?_
  refine r_callSH hC [aR 0, aR 84] [] hnc dL_law_309 ml_RL_106 myw_query ms_L_query rfl ⟨by decide, by decide⟩ ⟨by show _ ≤ 601024; omega, by show _ ≤ 7293034; omega⟩ (Nat.le_of_ble_eq_true rfl) rfl (H_query hl hR ) (fun r w' hok hq => ?_)
  obtain ⟨k, rfl, u', o', rfl, hCn⟩ := hq
  refine r_wid (k := cells + 3) (n := slots + 18) (by omega) (by omega) ?_
  refine r_istore hC dL_law_312 (by decide) rfl rfl ?_
  refine r_aload_n hC 2 dL_law_314 rfl rfl ?_
  refine r_callV (k := 44) (as := []) (st2 := []) hC dL_law_315 (Cn.liftM (as := [aR 0]) rfl rfl okI_nr hCn) ml_RL_111 my_X10_query mi_X10_query lJ_44 rfl rfl ⟨by decide, by decide⟩ ⟨by show _ ≤ 601024; omega, by show _ ≤ 7293034; omega⟩ (Nat.le_of_ble_eq_true rfl) rfl (fun r w' hq => ?_)
  obtain ⟨v', ⟨z2, rfl, hz, hz2, hR2⟩, rfl⟩ := hq
  refine r_istore hC dL_law_318 (by decide) rfl rfl ?_
  refine r_aload_n hC 2 dL_law_320 rfl rfl ?_
  refine r_callV (k := 44) (as := []) (st2 := []) hC dL_law_321 (Cn.liftM (as := [aR 0]) rfl rfl okI_nr (s_M_thrown l v' (fun r => r = v'.1 0 0) rfl)) ml_RL_112 my_X10_thrown mi_X10_thrown lJ_44 rfl rfl ⟨by decide, by decide⟩ ⟨by show _ ≤ 601024; omega, by show _ ≤ 7293034; omega⟩ (Nat.le_of_ble_eq_true rfl) rfl (fun r w' hq => ?_)
  obtain ⟨v9, ⟨z3, rfl, rfl, hz3⟩, rfl⟩ := hq
  refine r_iload hC dL_law_324 rfl ?_
  refine r_ic_eq hC (tgt := 331) dL_law_326 (by decide) (fun _ => ?_) (fun g => absurd (hz3.trans hz) g)
  refine r_iload hC dL_law_331 rfl ?_
  refine r_if_ne hC (tgt := 348) dL_law_333 (by decide) (fun _ => r_goto hC (tgt := 1988) dL_law_348 (by decide) (r_drop (kk _ _ _ hR2))) (fun g0 => ?_)
  refine r_aload_n hC 3 dL_law_336 rfl rfl ?_
  refine r_iconst hC dL_law_337 ⟨by decide, by decide⟩ ?_
  refine r_lald hC (n := 1) (v := o' 0) dL_law_338 lJ_84 (by decide) (by decide) rfl ?_
  refine r_iload hC dL_law_339 rfl ?_
  refine r_i2l hC dL_law_341 ?_
  refine r_lcmp hC dL_law_342 ?_
  exact r_if_eq hC (tgt := 348) dL_law_343 (by decide) (fun _ => r_goto hC (tgt := 1988) dL_law_348 (by decide) (r_drop (kk _ _ _ hR2))) (fun g => absurd (by rw [hz2 g0]; exact lCmp_s _) g)
theorem case_4 {p : Program} {l : Launch} {e : Env} {s : State} {m : MethodId} {args : Array Value} {below : List Frame} {meth : Method} {c : Code} {Q : State → Prop} {cells slots : Nat} {D : va_G} {cA : Nat → ClassId} {ad : Nat → Nat} {A : Nat → Prop} {L0 i : Nat} {xs : Nat → Int32} {u v : St} {o : Nat → Int64} (hl : l.stackTraces = false) (hC : Cx p s m args c code 7 RL D cA ad A LJ) (hX : SCR s A ad L0 xs) (hnc : NcX s) (hL : L0 ≤ 3072) (hi : i + 6 ≤ L0) (hR : Rel u v) (hcs : cells + 3 ≤ 601024 ∧ slots + 18 ≤ 7293034) (kk : ∀ (u' v' : St) (o' : Nat → Int64), Rel u' v' → Wd p l e room_1 s m args below meth c Q (cells + 3) (slots + 18) 7 D cA ad A LJ (jN u' v' o') 1988 (lsL i) []) : Wd p l e room_1 s m args below meth c Q cells slots 7 D cA ad A LJ (jN u v o) 351 (lsL i) [] := by
  refine r_widen (k := cells + 3) (n := slots + 18) (by omega) (by omega) ?_
  refine r_aload_n hC 1 dL_law_351 rfl rfl ?_
  refine r_callV (k := 0) (as := []) (st2 := []) hC dL_law_352 (Cn.liftX rfl rfl okI_nr (K_fault hR )) ml_RL_115 my_X9_fault mi_X9_fault lJ_0 rfl rfl ⟨by decide, by decide⟩ ⟨by show _ ≤ 601024; omega, by show _ ≤ 7293034; omega⟩ (Nat.le_of_ble_eq_true rfl) rfl (fun r w' hq => ?_)
  obtain ⟨u', ⟨z, rfl, hCn⟩, rfl⟩ := hq
  refine r_aload_n hC 2 dL_law_355 rfl rfl ?_
  refine r_callV (k := 44) (as := []) (st2 := [aI z]) hC dL_law_356 (Cn.liftM (as := [aR 0]) rfl rfl okI_nr hCn) ml_RL_118 my_X10_fault mi_X10_fault lJ_44 rfl rfl ⟨by decide, by decide⟩ ⟨by show _ ≤ 601024; omega, by show _ ≤ 7293034; omega⟩ (Nat.le_of_ble_eq_true rfl) rfl (fun r w' hq => ?_)
  obtain ⟨v', ⟨z2, rfl, hz, hR2⟩, rfl⟩ := hq
  exact r_ic_eq hC (tgt := 1988) dL_law_359 (by decide) (fun _ => kk _ _ _ hR2) (fun g => absurd hz.symm g)
theorem case_5 {p : Program} {l : Launch} {e : Env} {s : State} {m : MethodId} {args : Array Value} {below : List Frame} {meth : Method} {c : Code} {Q : State → Prop} {cells slots : Nat} {D : va_G} {cA : Nat → ClassId} {ad : Nat → Nat} {A : Nat → Prop} {L0 i : Nat} {xs : Nat → Int32} {u v : St} {o : Nat → Int64} (hl : l.stackTraces = false) (hC : Cx p s m args c code 7 RL D cA ad A LJ) (hX : SCR s A ad L0 xs) (hnc : NcX s) (hL : L0 ≤ 3072) (hi : i + 6 ≤ L0) (hR : Rel u v) (hcs : cells + 3 ≤ 601024 ∧ slots + 18 ≤ 7293034) (kk : ∀ (u' v' : St) (o' : Nat → Int64), Rel u' v' → Wd p l e room_1 s m args below meth c Q (cells + 3) (slots + 18) 7 D cA ad A LJ (jN u' v' o') 1988 (lsL i) []) : Wd p l e room_1 s m args below meth c Q cells slots 7 D cA ad A LJ (jN u v o) 364 (lsL i) [] := by
  refine r_aload_n hC 1 dL_law_364 rfl rfl ?_
  refine r_arg (k := 1) hC hX hL rfl rfl (by omega) dL_law_365 dL_law_366 dL_law_368 dL_law_369 dL_law_370 ?_
  refine r_arg (k := 2) hC hX hL rfl rfl (by omega) dL_law_371 dL_law_372 dL_law_374 dL_law_375 dL_law_376 ?_
  refine r_aload_n hC 3 dL_law_377 rfl rfl ?_
  refine r_widen (k := cells + 1) (n := slots + 6) (by omega) (by omega) ?_
  refine r_callSH hC [aR 0, aI ((xs (i + 1)).toInt), aI ((xs (i + 2)).toInt), aR 84] [] hnc dL_law_378 ml_RL_119 myw_tell ms_L_tell rfl ⟨by decide, by decide⟩ ⟨by show _ ≤ 601024; omega, by show _ ≤ 7293034; omega⟩ (Nat.le_of_ble_eq_true rfl) rfl (H_tell hl hR ((xs (i + 1)).toInt) ((xs (i + 2)).toInt)) (fun r w' hok hq => ?_)
  obtain ⟨k, rfl, u', o', rfl, hCn⟩ := hq
  refine r_wid (k := cells + 3) (n := slots + 18) (by omega) (by omega) ?_
  refine r_istore hC dL_law_381 (by decide) rfl rfl ?_
  refine r_aload_n hC 2 dL_law_383 rfl rfl ?_
  refine r_arg (k := 1) hC hX hL rfl rfl (by omega) dL_law_384 dL_law_385 dL_law_387 dL_law_388 dL_law_389 ?_
  refine r_arg (k := 2) hC hX hL rfl rfl (by omega) dL_law_390 dL_law_391 dL_law_393 dL_law_394 dL_law_395 ?_
  refine r_callV (k := 44) (as := [aI ((xs (i + 1)).toInt), aI ((xs (i + 2)).toInt)]) (st2 := []) hC dL_law_396 (Cn.liftM (as := [aR 0, aI ((xs (i + 1)).toInt), aI ((xs (i + 2)).toInt)]) rfl rfl okI_nr hCn) ml_RL_122 my_X10_tell mi_X10_tell lJ_44 rfl rfl ⟨by decide, by decide⟩ ⟨by show _ ≤ 601024; omega, by show _ ≤ 7293034; omega⟩ (Nat.le_of_ble_eq_true rfl) rfl (fun r w' hq => ?_)
  obtain ⟨v', ⟨z2, rfl, hz, hz2, hR2⟩, rfl⟩ := hq
  refine r_istore hC dL_law_399 (by decide) rfl rfl ?_
  refine r_aload_n hC 2 dL_law_401 rfl rfl ?_
  refine r_callV (k := 44) (as := []) (st2 := []) hC dL_law_402 (Cn.liftM (as := [aR 0]) rfl rfl okI_nr (s_M_thrown l v' (fun r => r = v'.1 0 0) rfl)) ml_RL_112 my_X10_thrown mi_X10_thrown lJ_44 rfl rfl ⟨by decide, by decide⟩ ⟨by show _ ≤ 601024; omega, by show _ ≤ 7293034; omega⟩ (Nat.le_of_ble_eq_true rfl) rfl (fun r w' hq => ?_)
  obtain ⟨v9, ⟨z3, rfl, rfl, hz3⟩, rfl⟩ := hq
  refine r_iload hC dL_law_405 rfl ?_
  refine r_ic_eq hC (tgt := 412) dL_law_407 (by decide) (fun _ => ?_) (fun g => absurd (hz3.trans hz) g)
  refine r_iload hC dL_law_412 rfl ?_
  refine r_if_ne hC (tgt := 429) dL_law_414 (by decide) (fun _ => r_goto hC (tgt := 1988) dL_law_429 (by decide) (r_drop (kk _ _ _ hR2))) (fun g0 => ?_)
  refine r_aload_n hC 3 dL_law_417 rfl rfl ?_
  refine r_iconst hC dL_law_418 ⟨by decide, by decide⟩ ?_
  refine r_lald hC (n := 1) (v := o' 0) dL_law_419 lJ_84 (by decide) (by decide) rfl ?_
  refine r_iload hC dL_law_420 rfl ?_
  refine r_i2l hC dL_law_422 ?_
  refine r_lcmp hC dL_law_423 ?_
  exact r_if_eq hC (tgt := 429) dL_law_424 (by decide) (fun _ => r_goto hC (tgt := 1988) dL_law_429 (by decide) (r_drop (kk _ _ _ hR2))) (fun g => absurd (by rw [hz2 g0]; exact lCmp_s _) g)
theorem case_6 {p : Program} {l : Launch} {e : Env} {s : State} {m : MethodId} {args : Array Value} {below : List Frame} {meth : Method} {c : Code} {Q : State → Prop} {cells slots : Nat} {D : va_G} {cA : Nat → ClassId} {ad : Nat → Nat} {A : Nat → Prop} {L0 i : Nat} {xs : Nat → Int32} {u v : St} {o : Nat → Int64} (hl : l.stackTraces = false) (hC : Cx p s m args c code 7 RL D cA ad A LJ) (hX : SCR s A ad L0 xs) (hnc : NcX s) (hL : L0 ≤ 3072) (hi : i + 6 ≤ L0) (hR : Rel u v) (hcs : cells + 3 ≤ 601024 ∧ slots + 18 ≤ 7293034) (kk : ∀ (u' v' : St) (o' : Nat → Int64), Rel u' v' → Wd p l e room_1 s m args below meth c Q (cells + 3) (slots + 18) 7 D cA ad A LJ (jN u' v' o') 1988 (lsL i) []) : Wd p l e room_1 s m args below meth c Q cells slots 7 D cA ad A LJ (jN u v o) 432 (lsL i) [] := by
  refine r_widen (k := cells + 3) (n := slots + 18) (by omega) (by omega) ?_
  refine r_aload_n hC 1 dL_law_432 rfl rfl ?_
  refine r_arg (k := 1) hC hX hL rfl rfl (by omega) dL_law_433 dL_law_434 dL_law_436 dL_law_437 dL_law_438 ?_
  refine r_callV (k := 0) (as := [aI ((xs (i + 1)).toInt)]) (st2 := []) hC dL_law_439 (Cn.liftX rfl rfl okI_nr (K_sign hR ((xs (i + 1)).toInt))) ml_RL_123 my_X9_sign mi_X9_sign lJ_0 rfl rfl ⟨by decide, by decide⟩ ⟨by show _ ≤ 601024; omega, by show _ ≤ 7293034; omega⟩ (Nat.le_of_ble_eq_true rfl) rfl (fun r w' hq => ?_)
  obtain ⟨u', ⟨z, rfl, hCn⟩, rfl⟩ := hq
  refine r_aload_n hC 2 dL_law_442 rfl rfl ?_
  refine r_arg (k := 1) hC hX hL rfl rfl (by omega) dL_law_443 dL_law_444 dL_law_446 dL_law_447 dL_law_448 ?_
  refine r_callV (k := 44) (as := [aI ((xs (i + 1)).toInt)]) (st2 := [aI z]) hC dL_law_449 (Cn.liftM (as := [aR 0, aI ((xs (i + 1)).toInt)]) rfl rfl okI_nr hCn) ml_RL_126 my_X10_sign mi_X10_sign lJ_44 rfl rfl ⟨by decide, by decide⟩ ⟨by show _ ≤ 601024; omega, by show _ ≤ 7293034; omega⟩ (Nat.le_of_ble_eq_true rfl) rfl (fun r w' hq => ?_)
  obtain ⟨v', ⟨z2, rfl, hz, hR2⟩, rfl⟩ := hq
  exact r_ic_eq hC (tgt := 1988) dL_law_452 (by decide) (fun _ => kk _ _ _ hR2) (fun g => absurd hz.symm g)
theorem case_7 {p : Program} {l : Launch} {e : Env} {s : State} {m : MethodId} {args : Array Value} {below : List Frame} {meth : Method} {c : Code} {Q : State → Prop} {cells slots : Nat} {D : va_G} {cA : Nat → ClassId} {ad : Nat → Nat} {A : Nat → Prop} {L0 i : Nat} {xs : Nat → Int32} {u v : St} {o : Nat → Int64} (hl : l.stackTraces = false) (hC : Cx p s m args c code 7 RL D cA ad A LJ) (hX : SCR s A ad L0 xs) (hnc : NcX s) (hL : L0 ≤ 3072) (hi : i + 6 ≤ L0) (hR : Rel u v) (hcs : cells + 3 ≤ 601024 ∧ slots + 18 ≤ 7293034) (kk : ∀ (u' v' : St) (o' : Nat → Int64), Rel u' v' → Wd p l e room_1 s m args below meth c Q (cells + 3) (slots + 18) 7 D cA ad A LJ (jN u' v' o') 1988 (lsL i) []) : Wd p l e room_1 s m args below meth c Q cells slots 7 D cA ad A LJ (jN u v o) 457 (lsL i) [] := by
  refine r_widen (k := cells + 3) (n := slots + 18) (by omega) (by omega) ?_
  refine r_aload_n hC 1 dL_law_457 rfl rfl ?_
  refine r_arg (k := 1) hC hX hL rfl rfl (by omega) dL_law_458 dL_law_459 dL_law_461 dL_law_462 dL_law_463 ?_
  refine r_callV (k := 0) (as := [aI ((xs (i + 1)).toInt)]) (st2 := []) hC dL_law_464 (Cn.liftX rfl rfl okI_nr (K_signOf hR ((xs (i + 1)).toInt))) ml_RL_127 my_X9_signOf mi_X9_signOf lJ_0 rfl rfl ⟨by decide, by decide⟩ ⟨by show _ ≤ 601024; omega, by show _ ≤ 7293034; omega⟩ (Nat.le_of_ble_eq_true rfl) rfl (fun r w' hq => ?_)
  obtain ⟨u', ⟨z, rfl, hCn⟩, rfl⟩ := hq
  refine r_aload_n hC 2 dL_law_467 rfl rfl ?_
  refine r_arg (k := 1) hC hX hL rfl rfl (by omega) dL_law_468 dL_law_469 dL_law_471 dL_law_472 dL_law_473 ?_
  refine r_callV (k := 44) (as := [aI ((xs (i + 1)).toInt)]) (st2 := [aI z]) hC dL_law_474 (Cn.liftM (as := [aR 0, aI ((xs (i + 1)).toInt)]) rfl rfl okI_nr hCn) ml_RL_130 my_X10_signOf mi_X10_signOf lJ_44 rfl rfl ⟨by decide, by decide⟩ ⟨by show _ ≤ 601024; omega, by show _ ≤ 7293034; omega⟩ (Nat.le_of_ble_eq_true rfl) rfl (fun r w' hq => ?_)
  obtain ⟨v', ⟨z2, rfl, hz, hR2⟩, rfl⟩ := hq
  exact r_ic_eq hC (tgt := 1988) dL_law_477 (by decide) (fun _ => kk _ _ _ hR2) (fun g => absurd hz.symm g)
theorem case_8 {p : Program} {l : Launch} {e : Env} {s : State} {m : MethodId} {args : Array Value} {below : List Frame} {meth : Method} {c : Code} {Q : State → Prop} {cells slots : Nat} {D : va_G} {cA : Nat → ClassId} {ad : Nat → Nat} {A : Nat → Prop} {L0 i : Nat} {xs : Nat → Int32} {u v : St} {o : Nat → Int64} (hl : l.stackTraces = false) (hC : Cx p s m args c code 7 RL D cA ad A LJ) (hX : SCR s A ad L0 xs) (hnc : NcX s) (hL : L0 ≤ 3072) (hi : i + 6 ≤ L0) (hR : Rel u v) (hcs : cells + 3 ≤ 601024 ∧ slots + 18 ≤ 7293034) (kk : ∀ (u' v' : St) (o' : Nat → Int64), Rel u' v' → Wd p l e room_1 s m args below meth c Q (cells + 3) (slots + 18) 7 D cA ad A LJ (jN u' v' o') 1988 (lsL i) []) : Wd p l e room_1 s m args below meth c Q cells slots 7 D cA ad A LJ (jN u v o) 482 (lsL i) [] := by
  refine r_aload_n hC 1 dL_law_482 rfl rfl ?_
  refine r_arg (k := 1) hC hX hL rfl rfl (by omega) dL_law_483 dL_law_484 dL_law_486 dL_law_487 dL_law_488 ?_
  refine r_arg (k := 2) hC hX hL rfl rfl (by omega) dL_law_489 dL_law_490 dL_law_492 dL_law_493 dL_law_494 ?_
  refine r_aload_n hC 3 dL_law_495 rfl rfl ?_
  refine r_widen (k := cells + 1) (n := slots + 6) (by omega) (by omega) ?_
  refine r_callSH hC [aR 0, aI ((xs (i + 1)).toInt), aI ((xs (i + 2)).toInt), aR 84] [] hnc dL_law_496 ml_RL_131 myw_word ms_L_word rfl ⟨by decide, by decide⟩ ⟨by show _ ≤ 601024; omega, by show _ ≤ 7293034; omega⟩ (Nat.le_of_ble_eq_true rfl) rfl (H_word hl hR ((xs (i + 1)).toInt) ((xs (i + 2)).toInt)) (fun r w' hok hq => ?_)
  obtain ⟨k, rfl, u', o', rfl, hCn⟩ := hq
  refine r_wid (k := cells + 3) (n := slots + 18) (by omega) (by omega) ?_
  refine r_istore hC dL_law_499 (by decide) rfl rfl ?_
  refine r_aload_n hC 2 dL_law_501 rfl rfl ?_
  refine r_arg (k := 1) hC hX hL rfl rfl (by omega) dL_law_502 dL_law_503 dL_law_505 dL_law_506 dL_law_507 ?_
  refine r_arg (k := 2) hC hX hL rfl rfl (by omega) dL_law_508 dL_law_509 dL_law_511 dL_law_512 dL_law_513 ?_
  refine r_callV (k := 44) (as := [aI ((xs (i + 1)).toInt), aI ((xs (i + 2)).toInt)]) (st2 := []) hC dL_law_514 (Cn.liftM (as := [aR 0, aI ((xs (i + 1)).toInt), aI ((xs (i + 2)).toInt)]) rfl rfl okI_nr hCn) ml_RL_133 my_X10_word mi_X10_word lJ_44 rfl rfl ⟨by decide, by decide⟩ ⟨by show _ ≤ 601024; omega, by show _ ≤ 7293034; omega⟩ (Nat.le_of_ble_eq_true rfl) rfl (fun r w' hq => ?_)
  obtain ⟨v', ⟨z2, rfl, hz, hz2, hR2⟩, rfl⟩ := hq
  refine r_istore hC dL_law_517 (by decide) rfl rfl ?_
  refine r_aload_n hC 2 dL_law_519 rfl rfl ?_
  refine r_callV (k := 44) (as := []) (st2 := []) hC dL_law_520 (Cn.liftM (as := [aR 0]) rfl rfl okI_nr (s_M_thrown l v' (fun r => r = v'.1 0 0) rfl)) ml_RL_112 my_X10_thrown mi_X10_thrown lJ_44 rfl rfl ⟨by decide, by decide⟩ ⟨by show _ ≤ 601024; omega, by show _ ≤ 7293034; omega⟩ (Nat.le_of_ble_eq_true rfl) rfl (fun r w' hq => ?_)
  obtain ⟨v9, ⟨z3, rfl, rfl, hz3⟩, rfl⟩ := hq
  refine r_iload hC dL_law_523 rfl ?_
  refine r_ic_eq hC (tgt := 530) dL_law_525 (by decide) (fun _ => ?_) (fun g => absurd (hz3.trans hz) g)
  refine r_iload hC dL_law_530 rfl ?_
  refine r_if_ne hC (tgt := 547) dL_law_532 (by decide) (fun _ => r_goto hC (tgt := 1988) dL_law_547 (by decide) (r_drop (kk _ _ _ hR2))) (fun g0 => ?_)
  refine r_aload_n hC 3 dL_law_535 rfl rfl ?_
  refine r_iconst hC dL_law_536 ⟨by decide, by decide⟩ ?_
  refine r_lald hC (n := 1) (v := o' 0) dL_law_537 lJ_84 (by decide) (by decide) rfl ?_
  refine r_iload hC dL_law_538 rfl ?_
  refine r_i2l hC dL_law_540 ?_
  refine r_lcmp hC dL_law_541 ?_
  exact r_if_eq hC (tgt := 547) dL_law_542 (by decide) (fun _ => r_goto hC (tgt := 1988) dL_law_547 (by decide) (r_drop (kk _ _ _ hR2))) (fun g => absurd (by rw [hz2 g0]; exact lCmp_s _) g)
theorem case_9 {p : Program} {l : Launch} {e : Env} {s : State} {m : MethodId} {args : Array Value} {below : List Frame} {meth : Method} {c : Code} {Q : State → Prop} {cells slots : Nat} {D : va_G} {cA : Nat → ClassId} {ad : Nat → Nat} {A : Nat → Prop} {L0 i : Nat} {xs : Nat → Int32} {u v : St} {o : Nat → Int64} (hl : l.stackTraces = false) (hC : Cx p s m args c code 7 RL D cA ad A LJ) (hX : SCR s A ad L0 xs) (hnc : NcX s) (hL : L0 ≤ 3072) (hi : i + 6 ≤ L0) (hR : Rel u v) (hcs : cells + 3 ≤ 601024 ∧ slots + 18 ≤ 7293034) (kk : ∀ (u' v' : St) (o' : Nat → Int64), Rel u' v' → Wd p l e room_1 s m args below meth c Q (cells + 3) (slots + 18) 7 D cA ad A LJ (jN u' v' o') 1988 (lsL i) []) : Wd p l e room_1 s m args below meth c Q cells slots 7 D cA ad A LJ (jN u v o) 550 (lsL i) [] := by
  refine r_aload_n hC 1 dL_law_550 rfl rfl ?_
  refine r_arg (k := 1) hC hX hL rfl rfl (by omega) dL_law_551 dL_law_552 dL_law_554 dL_law_555 dL_law_556 ?_
  refine r_arg (k := 2) hC hX hL rfl rfl (by omega) dL_law_557 dL_law_558 dL_law_560 dL_law_561 dL_law_562 ?_
  refine r_aload_n hC 3 dL_law_563 rfl rfl ?_
  refine r_widen (k := cells + 1) (n := slots + 6) (by omega) (by omega) ?_
  refine r_callSH hC [aR 0, aI ((xs (i + 1)).toInt), aI ((xs (i + 2)).toInt), aR 84] [] hnc dL_law_564 ml_RL_134 myw_sentence ms_L_sentence rfl ⟨by decide, by decide⟩ ⟨by show _ ≤ 601024; omega, by show _ ≤ 7293034; omega⟩ (Nat.le_of_ble_eq_true rfl) rfl (H_sentence hl hR ((xs (i + 1)).toInt) ((xs (i + 2)).toInt)) (fun r w' hok hq => ?_)
  obtain ⟨k, rfl, u', o', rfl, hCn⟩ := hq
  refine r_wid (k := cells + 3) (n := slots + 18) (by omega) (by omega) ?_
  refine r_istore hC dL_law_567 (by decide) rfl rfl ?_
  refine r_aload_n hC 2 dL_law_569 rfl rfl ?_
  refine r_arg (k := 1) hC hX hL rfl rfl (by omega) dL_law_570 dL_law_571 dL_law_573 dL_law_574 dL_law_575 ?_
  refine r_arg (k := 2) hC hX hL rfl rfl (by omega) dL_law_576 dL_law_577 dL_law_579 dL_law_580 dL_law_581 ?_
  refine r_callV (k := 44) (as := [aI ((xs (i + 1)).toInt), aI ((xs (i + 2)).toInt)]) (st2 := []) hC dL_law_582 (Cn.liftM (as := [aR 0, aI ((xs (i + 1)).toInt), aI ((xs (i + 2)).toInt)]) rfl rfl okI_nr hCn) ml_RL_136 my_X10_sentence mi_X10_sentence lJ_44 rfl rfl ⟨by decide, by decide⟩ ⟨by show _ ≤ 601024; omega, by show _ ≤ 7293034; omega⟩ (Nat.le_of_ble_eq_true rfl) rfl (fun r w' hq => ?_)
  obtain ⟨v', ⟨z2, rfl, hz, hz2, hR2⟩, rfl⟩ := hq
  refine r_istore hC dL_law_585 (by decide) rfl rfl ?_
  refine r_aload_n hC 2 dL_law_587 rfl rfl ?_
  refine r_callV (k := 44) (as := []) (st2 := []) hC dL_law_588 (Cn.liftM (as := [aR 0]) rfl rfl okI_nr (s_M_thrown l v' (fun r => r = v'.1 0 0) rfl)) ml_RL_112 my_X10_thrown mi_X10_thrown lJ_44 rfl rfl ⟨by decide, by decide⟩ ⟨by show _ ≤ 601024; omega, by show _ ≤ 7293034; omega⟩ (Nat.le_of_ble_eq_true rfl) rfl (fun r w' hq => ?_)
  obtain ⟨v9, ⟨z3, rfl, rfl, hz3⟩, rfl⟩ := hq
  refine r_iload hC dL_law_591 rfl ?_
  refine r_ic_eq hC (tgt := 598) dL_law_593 (by decide) (fun _ => ?_) (fun g => absurd (hz3.trans hz) g)
  refine r_iload hC dL_law_598 rfl ?_
  refine r_if_ne hC (tgt := 615) dL_law_600 (by decide) (fun _ => r_goto hC (tgt := 1988) dL_law_615 (by decide) (r_drop (kk _ _ _ hR2))) (fun g0 => ?_)
  refine r_aload_n hC 3 dL_law_603 rfl rfl ?_
  refine r_iconst hC dL_law_604 ⟨by decide, by decide⟩ ?_
  refine r_lald hC (n := 1) (v := o' 0) dL_law_605 lJ_84 (by decide) (by decide) rfl ?_
  refine r_iload hC dL_law_606 rfl ?_
  refine r_i2l hC dL_law_608 ?_
  refine r_lcmp hC dL_law_609 ?_
  exact r_if_eq hC (tgt := 615) dL_law_610 (by decide) (fun _ => r_goto hC (tgt := 1988) dL_law_615 (by decide) (r_drop (kk _ _ _ hR2))) (fun g => absurd (by rw [hz2 g0]; exact lCmp_s _) g)
theorem case_10 {p : Program} {l : Launch} {e : Env} {s : State} {m : MethodId} {args : Array Value} {below : List Frame} {meth : Method} {c : Code} {Q : State → Prop} {cells slots : Nat} {D : va_G} {cA : Nat → ClassId} {ad : Nat → Nat} {A : Nat → Prop} {L0 i : Nat} {xs : Nat → Int32} {u v : St} {o : Nat → Int64} (hl : l.stackTraces = false) (hC : Cx p s m args c code 7 RL D cA ad A LJ) (hX : SCR s A ad L0 xs) (hnc : NcX s) (hL : L0 ≤ 3072) (hi : i + 6 ≤ L0) (hR : Rel u v) (hcs : cells + 3 ≤ 601024 ∧ slots + 18 ≤ 7293034) (kk : ∀ (u' v' : St) (o' : Nat → Int64), Rel u' v' → Wd p l e room_1 s m args below meth c Q (cells + 3) (slots + 18) 7 D cA ad A LJ (jN u' v' o') 1988 (lsL i) []) : Wd p l e room_1 s m args below meth c Q cells slots 7 D cA ad A LJ (jN u v o) 618 (lsL i) [] := by
  refine r_aload_n hC 1 dL_law_618 rfl rfl ?_
  refine r_arg (k := 1) hC hX hL rfl rfl (by omega) dL_law_619 dL_law_620 dL_law_622 dL_law_623 dL_law_624 ?_
  refine r_arg (k := 2) hC hX hL rfl rfl (by omega) dL_law_625 dL_law_626 dL_law_628 dL_law_629 dL_law_630 ?_
  refine r_aload_n hC 3 dL_law_631 rfl rfl ?_
  refine r_widen (k := cells + 1) (n := slots + 6) (by omega) (by omega) ?_
  refine r_callSH hC [aR 0, aI ((xs (i + 1)).toInt), aI ((xs (i + 2)).toInt), aR 84] [] hnc dL_law_632 ml_RL_137 myw_item ms_L_item rfl ⟨by decide, by decide⟩ ⟨by show _ ≤ 601024; omega, by show _ ≤ 7293034; omega⟩ (Nat.le_of_ble_eq_true rfl) rfl (H_item hl hR ((xs (i + 1)).toInt) ((xs (i + 2)).toInt)) (fun r w' hok hq => ?_)
  obtain ⟨k, rfl, u', o', rfl, hCn⟩ := hq
  refine r_wid (k := cells + 3) (n := slots + 18) (by omega) (by omega) ?_
  refine r_istore hC dL_law_635 (by decide) rfl rfl ?_
  refine r_aload_n hC 2 dL_law_637 rfl rfl ?_
  refine r_arg (k := 1) hC hX hL rfl rfl (by omega) dL_law_638 dL_law_639 dL_law_641 dL_law_642 dL_law_643 ?_
  refine r_arg (k := 2) hC hX hL rfl rfl (by omega) dL_law_644 dL_law_645 dL_law_647 dL_law_648 dL_law_649 ?_
  refine r_callV (k := 44) (as := [aI ((xs (i + 1)).toInt), aI ((xs (i + 2)).toInt)]) (st2 := []) hC dL_law_650 (Cn.liftM (as := [aR 0, aI ((xs (i + 1)).toInt), aI ((xs (i + 2)).toInt)]) rfl rfl okI_nr hCn) ml_RL_139 my_X10_item mi_X10_item lJ_44 rfl rfl ⟨by decide, by decide⟩ ⟨by show _ ≤ 601024; omega, by show _ ≤ 7293034; omega⟩ (Nat.le_of_ble_eq_true rfl) rfl (fun r w' hq => ?_)
  obtain ⟨v', ⟨z2, rfl, hz, hz2, hR2⟩, rfl⟩ := hq
  refine r_istore hC dL_law_653 (by decide) rfl rfl ?_
  refine r_aload_n hC 2 dL_law_655 rfl rfl ?_
  refine r_callV (k := 44) (as := []) (st2 := []) hC dL_law_656 (Cn.liftM (as := [aR 0]) rfl rfl okI_nr (s_M_thrown l v' (fun r => r = v'.1 0 0) rfl)) ml_RL_112 my_X10_thrown mi_X10_thrown lJ_44 rfl rfl ⟨by decide, by decide⟩ ⟨by show _ ≤ 601024; omega, by show _ ≤ 7293034; omega⟩ (Nat.le_of_ble_eq_true rfl) rfl (fun r w' hq => ?_)
  obtain ⟨v9, ⟨z3, rfl, rfl, hz3⟩, rfl⟩ := hq
  refine r_iload hC dL_law_659 rfl ?_
  refine r_ic_eq hC (tgt := 666) dL_law_661 (by decide) (fun _ => ?_) (fun g => absurd (hz3.trans hz) g)
  refine r_iload hC dL_law_666 rfl ?_
  refine r_if_ne hC (tgt := 683) dL_law_668 (by decide) (fun _ => r_goto hC (tgt := 1988) dL_law_683 (by decide) (r_drop (kk _ _ _ hR2))) (fun g0 => ?_)
  refine r_aload_n hC 3 dL_law_671 rfl rfl ?_
  refine r_iconst hC dL_law_672 ⟨by decide, by decide⟩ ?_
  refine r_lald hC (n := 1) (v := o' 0) dL_law_673 lJ_84 (by decide) (by decide) rfl ?_
  refine r_iload hC dL_law_674 rfl ?_
  refine r_i2l hC dL_law_676 ?_
  refine r_lcmp hC dL_law_677 ?_
  exact r_if_eq hC (tgt := 683) dL_law_678 (by decide) (fun _ => r_goto hC (tgt := 1988) dL_law_683 (by decide) (r_drop (kk _ _ _ hR2))) (fun g => absurd (by rw [hz2 g0]; exact lCmp_s _) g)
theorem case_11 {p : Program} {l : Launch} {e : Env} {s : State} {m : MethodId} {args : Array Value} {below : List Frame} {meth : Method} {c : Code} {Q : State → Prop} {cells slots : Nat} {D : va_G} {cA : Nat → ClassId} {ad : Nat → Nat} {A : Nat → Prop} {L0 i : Nat} {xs : Nat → Int32} {u v : St} {o : Nat → Int64} (hl : l.stackTraces = false) (hC : Cx p s m args c code 7 RL D cA ad A LJ) (hX : SCR s A ad L0 xs) (hnc : NcX s) (hL : L0 ≤ 3072) (hi : i + 6 ≤ L0) (hR : Rel u v) (hcs : cells + 3 ≤ 601024 ∧ slots + 18 ≤ 7293034) (kk : ∀ (u' v' : St) (o' : Nat → Int64), Rel u' v' → Wd p l e room_1 s m args below meth c Q (cells + 3) (slots + 18) 7 D cA ad A LJ (jN u' v' o') 1988 (lsL i) []) : Wd p l e room_1 s m args below meth c Q cells slots 7 D cA ad A LJ (jN u v o) 686 (lsL i) [] := by
  refine r_aload_n hC 1 dL_law_686 rfl rfl ?_
  refine r_arg (k := 1) hC hX hL rfl rfl (by omega) dL_law_687 dL_law_688 dL_law_690 dL_law_691 dL_law_692 ?_
  refine r_arg (k := 2) hC hX hL rfl rfl (by omega) dL_law_693 dL_law_694 dL_law_696 dL_law_697 dL_law_698 ?_
  refine r_arg (k := 3) hC hX hL rfl rfl (by omega) dL_law_699 dL_law_700 dL_law_702 dL_law_703 dL_law_704 ?_
  refine r_aload_n hC 3 dL_law_705 rfl rfl ?_
  refine r_widen (k := cells + 1) (n := slots + 6) (by omega) (by omega) ?_
  refine r_callSH hC [aR 0, aI ((xs (i + 1)).toInt), aI ((xs (i + 2)).toInt), aI ((xs (i + 3)).toInt), aR 84] [] hnc dL_law_706 ml_RL_140 myw_fits ms_L_fits rfl ⟨by decide, by decide⟩ ⟨by show _ ≤ 601024; omega, by show _ ≤ 7293034; omega⟩ (Nat.le_of_ble_eq_true rfl) rfl (H_fits hl hR ((xs (i + 1)).toInt) ((xs (i + 2)).toInt) ((xs (i + 3)).toInt)) (fun r w' hok hq => ?_)
  obtain ⟨k, rfl, u', o', rfl, hCn⟩ := hq
  refine r_wid (k := cells + 3) (n := slots + 18) (by omega) (by omega) ?_
  refine r_istore hC dL_law_709 (by decide) rfl rfl ?_
  refine r_aload_n hC 2 dL_law_711 rfl rfl ?_
  refine r_arg (k := 1) hC hX hL rfl rfl (by omega) dL_law_712 dL_law_713 dL_law_715 dL_law_716 dL_law_717 ?_
  refine r_arg (k := 2) hC hX hL rfl rfl (by omega) dL_law_718 dL_law_719 dL_law_721 dL_law_722 dL_law_723 ?_
  refine r_arg (k := 3) hC hX hL rfl rfl (by omega) dL_law_724 dL_law_725 dL_law_727 dL_law_728 dL_law_729 ?_
  refine r_callV (k := 44) (as := [aI ((xs (i + 1)).toInt), aI ((xs (i + 2)).toInt), aI ((xs (i + 3)).toInt)]) (st2 := []) hC dL_law_730 (Cn.liftM (as := [aR 0, aI ((xs (i + 1)).toInt), aI ((xs (i + 2)).toInt), aI ((xs (i + 3)).toInt)]) rfl rfl okI_nr hCn) ml_RL_143 my_X10_fits mi_X10_fits lJ_44 rfl rfl ⟨by decide, by decide⟩ ⟨by show _ ≤ 601024; omega, by show _ ≤ 7293034; omega⟩ (Nat.le_of_ble_eq_true rfl) rfl (fun r w' hq => ?_)
  obtain ⟨v', ⟨z2, rfl, hz, hz2, hR2⟩, rfl⟩ := hq
  refine r_istore hC dL_law_733 (by decide) rfl rfl ?_
  refine r_aload_n hC 2 dL_law_735 rfl rfl ?_
  refine r_callV (k := 44) (as := []) (st2 := []) hC dL_law_736 (Cn.liftM (as := [aR 0]) rfl rfl okI_nr (s_M_thrown l v' (fun r => r = v'.1 0 0) rfl)) ml_RL_112 my_X10_thrown mi_X10_thrown lJ_44 rfl rfl ⟨by decide, by decide⟩ ⟨by show _ ≤ 601024; omega, by show _ ≤ 7293034; omega⟩ (Nat.le_of_ble_eq_true rfl) rfl (fun r w' hq => ?_)
  obtain ⟨v9, ⟨z3, rfl, rfl, hz3⟩, rfl⟩ := hq
  refine r_iload hC dL_law_739 rfl ?_
  refine r_ic_eq hC (tgt := 746) dL_law_741 (by decide) (fun _ => ?_) (fun g => absurd (hz3.trans hz) g)
  refine r_iload hC dL_law_746 rfl ?_
  refine r_if_ne hC (tgt := 770) dL_law_748 (by decide) (fun _ => r_goto hC (tgt := 1988) dL_law_770 (by decide) (r_drop (kk _ _ _ hR2))) (fun g0 => ?_)
  refine r_aload_n hC 3 dL_law_751 rfl rfl ?_
  refine r_iconst hC dL_law_752 ⟨by decide, by decide⟩ ?_
  refine r_lald hC (n := 1) (v := o' 0) dL_law_753 lJ_84 (by decide) (by decide) rfl ?_
  refine r_iload hC dL_law_754 rfl ?_
  refine r_if_eq hC (tgt := 763) dL_law_756 (by decide) (fun g1 => ?_) (fun g1 => ?_)
  · refine r_lconst hC dL_law_763 rfl ?_
    refine r_lcmp hC dL_law_764 ?_
    exact r_if_eq hC (tgt := 770) dL_law_765 (by decide) (fun _ => r_goto hC (tgt := 1988) dL_law_770 (by decide) (r_drop (kk _ _ _ hR2))) (fun g => absurd (by rw [hz2 g0]; unfold zB; rw [if_pos g1]; exact lCmp_s _) g)
  · refine r_lconst hC dL_law_759 rfl ?_
    refine r_goto hC (tgt := 764) dL_law_760 (by decide) ?_
    refine r_lcmp hC dL_law_764 ?_
    exact r_if_eq hC (tgt := 770) dL_law_765 (by decide) (fun _ => r_goto hC (tgt := 1988) dL_law_770 (by decide) (r_drop (kk _ _ _ hR2))) (fun g => absurd (by rw [hz2 g0]; unfold zB; rw [if_neg g1]; exact lCmp_s _) g)
theorem case_12 {p : Program} {l : Launch} {e : Env} {s : State} {m : MethodId} {args : Array Value} {below : List Frame} {meth : Method} {c : Code} {Q : State → Prop} {cells slots : Nat} {D : va_G} {cA : Nat → ClassId} {ad : Nat → Nat} {A : Nat → Prop} {L0 i : Nat} {xs : Nat → Int32} {u v : St} {o : Nat → Int64} (hl : l.stackTraces = false) (hC : Cx p s m args c code 7 RL D cA ad A LJ) (hX : SCR s A ad L0 xs) (hnc : NcX s) (hL : L0 ≤ 3072) (hi : i + 6 ≤ L0) (hR : Rel u v) (hcs : cells + 3 ≤ 601024 ∧ slots + 18 ≤ 7293034) (kk : ∀ (u' v' : St) (o' : Nat → Int64), Rel u' v' → Wd p l e room_1 s m args below meth c Q (cells + 3) (slots + 18) 7 D cA ad A LJ (jN u' v' o') 1988 (lsL i) []) : Wd p l e room_1 s m args below meth c Q cells slots 7 D cA ad A LJ (jN u v o) 773 (lsL i) [] := by
  refine r_aload_n hC 1 dL_law_773 rfl rfl ?_
  refine r_arg (k := 1) hC hX hL rfl rfl (by omega) dL_law_774 dL_law_775 dL_law_777 dL_law_778 dL_law_779 ?_
  refine r_arg (k := 2) hC hX hL rfl rfl (by omega) dL_law_780 dL_law_781 dL_law_783 dL_law_784 dL_law_785 ?_
  refine r_aload_n hC 3 dL_law_786 rfl rfl ?_
  refine r_widen (k := cells + 1) (n := slots + 6) (by omega) (by omega) ?_
  refine r_callSH hC [aR 0, aI ((xs (i + 1)).toInt), aI ((xs (i + 2)).toInt), aR 84] [] hnc dL_law_787 ml_RL_144 myw_match ms_L_match rfl ⟨by decide, by decide⟩ ⟨by show _ ≤ 601024; omega, by show _ ≤ 7293034; omega⟩ (Nat.le_of_ble_eq_true rfl) rfl (H_match hl hR ((xs (i + 1)).toInt) ((xs (i + 2)).toInt)) (fun r w' hok hq => ?_)
  obtain ⟨k, rfl, u', o', rfl, hCn⟩ := hq
  refine r_wid (k := cells + 3) (n := slots + 18) (by omega) (by omega) ?_
  refine r_istore hC dL_law_790 (by decide) rfl rfl ?_
  refine r_aload_n hC 2 dL_law_792 rfl rfl ?_
  refine r_arg (k := 1) hC hX hL rfl rfl (by omega) dL_law_793 dL_law_794 dL_law_796 dL_law_797 dL_law_798 ?_
  refine r_arg (k := 2) hC hX hL rfl rfl (by omega) dL_law_799 dL_law_800 dL_law_802 dL_law_803 dL_law_804 ?_
  refine r_callV (k := 44) (as := [aI ((xs (i + 1)).toInt), aI ((xs (i + 2)).toInt)]) (st2 := []) hC dL_law_805 (Cn.liftM (as := [aR 0, aI ((xs (i + 1)).toInt), aI ((xs (i + 2)).toInt)]) rfl rfl okI_nr hCn) ml_RL_146 my_X10_match mi_X10_match lJ_44 rfl rfl ⟨by decide, by decide⟩ ⟨by show _ ≤ 601024; omega, by show _ ≤ 7293034; omega⟩ (Nat.le_of_ble_eq_true rfl) rfl (fun r w' hq => ?_)
  obtain ⟨v', ⟨z2, rfl, hz, hz2, hR2⟩, rfl⟩ := hq
  refine r_istore hC dL_law_808 (by decide) rfl rfl ?_
  refine r_aload_n hC 2 dL_law_810 rfl rfl ?_
  refine r_callV (k := 44) (as := []) (st2 := []) hC dL_law_811 (Cn.liftM (as := [aR 0]) rfl rfl okI_nr (s_M_thrown l v' (fun r => r = v'.1 0 0) rfl)) ml_RL_112 my_X10_thrown mi_X10_thrown lJ_44 rfl rfl ⟨by decide, by decide⟩ ⟨by show _ ≤ 601024; omega, by show _ ≤ 7293034; omega⟩ (Nat.le_of_ble_eq_true rfl) rfl (fun r w' hq => ?_)
  obtain ⟨v9, ⟨z3, rfl, rfl, hz3⟩, rfl⟩ := hq
  refine r_iload hC dL_law_814 rfl ?_
  refine r_ic_eq hC (tgt := 821) dL_law_816 (by decide) (fun _ => ?_) (fun g => absurd (hz3.trans hz) g)
  refine r_iload hC dL_law_821 rfl ?_
  refine r_if_ne hC (tgt := 838) dL_law_823 (by decide) (fun _ => r_goto hC (tgt := 1988) dL_law_838 (by decide) (r_drop (kk _ _ _ hR2))) (fun g0 => ?_)
  refine r_aload_n hC 3 dL_law_826 rfl rfl ?_
  refine r_iconst hC dL_law_827 ⟨by decide, by decide⟩ ?_
  refine r_lald hC (n := 1) (v := o' 0) dL_law_828 lJ_84 (by decide) (by decide) rfl ?_
  refine r_iload hC dL_law_829 rfl ?_
  refine r_i2l hC dL_law_831 ?_
  refine r_lcmp hC dL_law_832 ?_
  exact r_if_eq hC (tgt := 838) dL_law_833 (by decide) (fun _ => r_goto hC (tgt := 1988) dL_law_838 (by decide) (r_drop (kk _ _ _ hR2))) (fun g => absurd (by rw [hz2 g0]; exact lCmp_s _) g)
theorem case_13 {p : Program} {l : Launch} {e : Env} {s : State} {m : MethodId} {args : Array Value} {below : List Frame} {meth : Method} {c : Code} {Q : State → Prop} {cells slots : Nat} {D : va_G} {cA : Nat → ClassId} {ad : Nat → Nat} {A : Nat → Prop} {L0 i : Nat} {xs : Nat → Int32} {u v : St} {o : Nat → Int64} (hl : l.stackTraces = false) (hC : Cx p s m args c code 7 RL D cA ad A LJ) (hX : SCR s A ad L0 xs) (hnc : NcX s) (hL : L0 ≤ 3072) (hi : i + 6 ≤ L0) (hR : Rel u v) (hcs : cells + 3 ≤ 601024 ∧ slots + 18 ≤ 7293034) (kk : ∀ (u' v' : St) (o' : Nat → Int64), Rel u' v' → Wd p l e room_1 s m args below meth c Q (cells + 3) (slots + 18) 7 D cA ad A LJ (jN u' v' o') 1988 (lsL i) []) : Wd p l e room_1 s m args below meth c Q cells slots 7 D cA ad A LJ (jN u v o) 841 (lsL i) [] := by
  refine r_aload_n hC 1 dL_law_841 rfl rfl ?_
  refine r_arg (k := 1) hC hX hL rfl rfl (by omega) dL_law_842 dL_law_843 dL_law_845 dL_law_846 dL_law_847 ?_
  refine r_arg (k := 2) hC hX hL rfl rfl (by omega) dL_law_848 dL_law_849 dL_law_851 dL_law_852 dL_law_853 ?_
  refine r_arg (k := 3) hC hX hL rfl rfl (by omega) dL_law_854 dL_law_855 dL_law_857 dL_law_858 dL_law_859 ?_
  refine r_aload_n hC 3 dL_law_860 rfl rfl ?_
  refine r_widen (k := cells + 1) (n := slots + 6) (by omega) (by omega) ?_
  refine r_callSH hC [aR 0, aI ((xs (i + 1)).toInt), aI ((xs (i + 2)).toInt), aI ((xs (i + 3)).toInt), aR 84] [] hnc dL_law_861 ml_RL_147 myw_window ms_L_window rfl ⟨by decide, by decide⟩ ⟨by show _ ≤ 601024; omega, by show _ ≤ 7293034; omega⟩ (Nat.le_of_ble_eq_true rfl) rfl (H_window hl hR ((xs (i + 1)).toInt) ((xs (i + 2)).toInt) ((xs (i + 3)).toInt) (rng_of _)) (fun r w' hok hq => ?_)
  obtain ⟨k, rfl, u', o', rfl, hCn⟩ := hq
  refine r_wid (k := cells + 3) (n := slots + 18) (by omega) (by omega) ?_
  refine r_istore hC dL_law_864 (by decide) rfl rfl ?_
  refine r_aload_n hC 2 dL_law_866 rfl rfl ?_
  refine r_arg (k := 1) hC hX hL rfl rfl (by omega) dL_law_867 dL_law_868 dL_law_870 dL_law_871 dL_law_872 ?_
  refine r_arg (k := 2) hC hX hL rfl rfl (by omega) dL_law_873 dL_law_874 dL_law_876 dL_law_877 dL_law_878 ?_
  refine r_arg (k := 3) hC hX hL rfl rfl (by omega) dL_law_879 dL_law_880 dL_law_882 dL_law_883 dL_law_884 ?_
  refine r_callV (k := 44) (as := [aI ((xs (i + 1)).toInt), aI ((xs (i + 2)).toInt), aI ((xs (i + 3)).toInt)]) (st2 := []) hC dL_law_885 (Cn.liftM (as := [aR 0, aI ((xs (i + 1)).toInt), aI ((xs (i + 2)).toInt), aI ((xs (i + 3)).toInt)]) rfl rfl okI_nr hCn) ml_RL_149 my_X10_window mi_X10_window lJ_44 rfl rfl ⟨by decide, by decide⟩ ⟨by show _ ≤ 601024; omega, by show _ ≤ 7293034; omega⟩ (Nat.le_of_ble_eq_true rfl) rfl (fun r w' hq => ?_)
  obtain ⟨v', ⟨z2, rfl, hz, hz2, hR2⟩, rfl⟩ := hq
  refine r_istore hC dL_law_888 (by decide) rfl rfl ?_
  refine r_aload_n hC 2 dL_law_890 rfl rfl ?_
  refine r_callV (k := 44) (as := []) (st2 := []) hC dL_law_891 (Cn.liftM (as := [aR 0]) rfl rfl okI_nr (s_M_thrown l v' (fun r => r = v'.1 0 0) rfl)) ml_RL_112 my_X10_thrown mi_X10_thrown lJ_44 rfl rfl ⟨by decide, by decide⟩ ⟨by show _ ≤ 601024; omega, by show _ ≤ 7293034; omega⟩ (Nat.le_of_ble_eq_true rfl) rfl (fun r w' hq => ?_)
  obtain ⟨v9, ⟨z3, rfl, rfl, hz3⟩, rfl⟩ := hq
  refine r_iload hC dL_law_894 rfl ?_
  refine r_ic_eq hC (tgt := 901) dL_law_896 (by decide) (fun _ => ?_) (fun g => absurd (hz3.trans hz) g)
  refine r_iload hC dL_law_901 rfl ?_
  refine r_if_ne hC (tgt := 918) dL_law_903 (by decide) (fun _ => r_goto hC (tgt := 1988) dL_law_918 (by decide) (r_drop (kk _ _ _ hR2))) (fun g0 => ?_)
  refine r_aload_n hC 3 dL_law_906 rfl rfl ?_
  refine r_iconst hC dL_law_907 ⟨by decide, by decide⟩ ?_
  refine r_lald hC (n := 1) (v := o' 0) dL_law_908 lJ_84 (by decide) (by decide) rfl ?_
  refine r_iload hC dL_law_909 rfl ?_
  refine r_i2l hC dL_law_911 ?_
  refine r_lcmp hC dL_law_912 ?_
  exact r_if_eq hC (tgt := 918) dL_law_913 (by decide) (fun _ => r_goto hC (tgt := 1988) dL_law_918 (by decide) (r_drop (kk _ _ _ hR2))) (fun g => absurd (by rw [hz2 g0]; exact lCmp_s _) g)
theorem case_14 {p : Program} {l : Launch} {e : Env} {s : State} {m : MethodId} {args : Array Value} {below : List Frame} {meth : Method} {c : Code} {Q : State → Prop} {cells slots : Nat} {D : va_G} {cA : Nat → ClassId} {ad : Nat → Nat} {A : Nat → Prop} {L0 i : Nat} {xs : Nat → Int32} {u v : St} {o : Nat → Int64} (hl : l.stackTraces = false) (hC : Cx p s m args c code 7 RL D cA ad A LJ) (hX : SCR s A ad L0 xs) (hnc : NcX s) (hL : L0 ≤ 3072) (hi : i + 6 ≤ L0) (hR : Rel u v) (hcs : cells + 3 ≤ 601024 ∧ slots + 18 ≤ 7293034) (kk : ∀ (u' v' : St) (o' : Nat → Int64), Rel u' v' → Wd p l e room_1 s m args below meth c Q (cells + 3) (slots + 18) 7 D cA ad A LJ (jN u' v' o') 1988 (lsL i) []) : Wd p l e room_1 s m args below meth c Q cells slots 7 D cA ad A LJ (jN u v o) 921 (lsL i) [] := by
  refine r_aload_n hC 1 dL_law_921 rfl rfl ?_
  refine r_arg (k := 1) hC hX hL rfl rfl (by omega) dL_law_922 dL_law_923 dL_law_925 dL_law_926 dL_law_927 ?_
  refine r_arg (k := 2) hC hX hL rfl rfl (by omega) dL_law_928 dL_law_929 dL_law_931 dL_law_932 dL_law_933 ?_
  refine r_aload_n hC 3 dL_law_934 rfl rfl ?_
  refine r_widen (k := cells + 1) (n := slots + 6) (by omega) (by omega) ?_
  refine r_callSH hC [aR 0, aI ((xs (i + 1)).toInt), aI ((xs (i + 2)).toInt), aR 84] [] hnc dL_law_935 ml_RL_150 myw_least ms_L_least rfl ⟨by decide, by decide⟩ ⟨by show _ ≤ 601024; omega, by show _ ≤ 7293034; omega⟩ (Nat.le_of_ble_eq_true rfl) rfl (H_least hl hR ((xs (i + 1)).toInt) ((xs (i + 2)).toInt) (rng_of _)) (fun r w' hok hq => ?_)
  obtain ⟨k, rfl, u', o', rfl, hCn⟩ := hq
  refine r_wid (k := cells + 3) (n := slots + 18) (by omega) (by omega) ?_
  refine r_istore hC dL_law_938 (by decide) rfl rfl ?_
  refine r_aload_n hC 2 dL_law_940 rfl rfl ?_
  refine r_arg (k := 1) hC hX hL rfl rfl (by omega) dL_law_941 dL_law_942 dL_law_944 dL_law_945 dL_law_946 ?_
  refine r_arg (k := 2) hC hX hL rfl rfl (by omega) dL_law_947 dL_law_948 dL_law_950 dL_law_951 dL_law_952 ?_
  refine r_callV (k := 44) (as := [aI ((xs (i + 1)).toInt), aI ((xs (i + 2)).toInt)]) (st2 := []) hC dL_law_953 (Cn.liftM (as := [aR 0, aI ((xs (i + 1)).toInt), aI ((xs (i + 2)).toInt)]) rfl rfl okI_nr hCn) ml_RL_152 my_X10_least mi_X10_least lJ_44 rfl rfl ⟨by decide, by decide⟩ ⟨by show _ ≤ 601024; omega, by show _ ≤ 7293034; omega⟩ (Nat.le_of_ble_eq_true rfl) rfl (fun r w' hq => ?_)
  obtain ⟨v', ⟨z2, rfl, hz, hz2, hR2⟩, rfl⟩ := hq
  refine r_istore hC dL_law_956 (by decide) rfl rfl ?_
  refine r_aload_n hC 2 dL_law_958 rfl rfl ?_
  refine r_callV (k := 44) (as := []) (st2 := []) hC dL_law_959 (Cn.liftM (as := [aR 0]) rfl rfl okI_nr (s_M_thrown l v' (fun r => r = v'.1 0 0) rfl)) ml_RL_112 my_X10_thrown mi_X10_thrown lJ_44 rfl rfl ⟨by decide, by decide⟩ ⟨by show _ ≤ 601024; omega, by show _ ≤ 7293034; omega⟩ (Nat.le_of_ble_eq_true rfl) rfl (fun r w' hq => ?_)
  obtain ⟨v9, ⟨z3, rfl, rfl, hz3⟩, rfl⟩ := hq
  refine r_iload hC dL_law_962 rfl ?_
  refine r_ic_eq hC (tgt := 969) dL_law_964 (by decide) (fun _ => ?_) (fun g => absurd (hz3.trans hz) g)
  refine r_iload hC dL_law_969 rfl ?_
  refine r_if_ne hC (tgt := 986) dL_law_971 (by decide) (fun _ => r_goto hC (tgt := 1988) dL_law_986 (by decide) (r_drop (kk _ _ _ hR2))) (fun g0 => ?_)
  refine r_aload_n hC 3 dL_law_974 rfl rfl ?_
  refine r_iconst hC dL_law_975 ⟨by decide, by decide⟩ ?_
  refine r_lald hC (n := 1) (v := o' 0) dL_law_976 lJ_84 (by decide) (by decide) rfl ?_
  refine r_iload hC dL_law_977 rfl ?_
  refine r_i2l hC dL_law_979 ?_
  refine r_lcmp hC dL_law_980 ?_
  exact r_if_eq hC (tgt := 986) dL_law_981 (by decide) (fun _ => r_goto hC (tgt := 1988) dL_law_986 (by decide) (r_drop (kk _ _ _ hR2))) (fun g => absurd (by rw [hz2 g0]; exact lCmp_s _) g)
theorem case_15 {p : Program} {l : Launch} {e : Env} {s : State} {m : MethodId} {args : Array Value} {below : List Frame} {meth : Method} {c : Code} {Q : State → Prop} {cells slots : Nat} {D : va_G} {cA : Nat → ClassId} {ad : Nat → Nat} {A : Nat → Prop} {L0 i : Nat} {xs : Nat → Int32} {u v : St} {o : Nat → Int64} (hl : l.stackTraces = false) (hC : Cx p s m args c code 7 RL D cA ad A LJ) (hX : SCR s A ad L0 xs) (hnc : NcX s) (hL : L0 ≤ 3072) (hi : i + 6 ≤ L0) (hR : Rel u v) (hcs : cells + 3 ≤ 601024 ∧ slots + 18 ≤ 7293034) (kk : ∀ (u' v' : St) (o' : Nat → Int64), Rel u' v' → Wd p l e room_1 s m args below meth c Q (cells + 3) (slots + 18) 7 D cA ad A LJ (jN u' v' o') 1988 (lsL i) []) : Wd p l e room_1 s m args below meth c Q cells slots 7 D cA ad A LJ (jN u v o) 989 (lsL i) [] := by
  refine r_aload_n hC 1 dL_law_989 rfl rfl ?_
  refine r_arg (k := 1) hC hX hL rfl rfl (by omega) dL_law_990 dL_law_991 dL_law_993 dL_law_994 dL_law_995 ?_
  refine r_aload_n hC 3 dL_law_996 rfl rfl ?_
  refine r_widen (k := cells + 2) (n := slots + 12) (by omega) (by omega) ?_
  refine r_callSH hC [aR 0, aI ((xs (i + 1)).toInt), aR 84] [] hnc dL_law_997 ml_RL_153 myw_most ms_L_most rfl ⟨by decide, by decide⟩ ⟨by show _ ≤ 601024; omega, by show _ ≤ 7293034; omega⟩ (Nat.le_of_ble_eq_true rfl) rfl (H_most hl hR ((xs (i + 1)).toInt)) (fun r w' hok hq => ?_)
  obtain ⟨k, rfl, u', o', rfl, hCn⟩ := hq
  refine r_wid (k := cells + 3) (n := slots + 18) (by omega) (by omega) ?_
  refine r_istore hC dL_law_1000 (by decide) rfl rfl ?_
  refine r_aload_n hC 2 dL_law_1002 rfl rfl ?_
  refine r_arg (k := 1) hC hX hL rfl rfl (by omega) dL_law_1003 dL_law_1004 dL_law_1006 dL_law_1007 dL_law_1008 ?_
  refine r_callV (k := 44) (as := [aI ((xs (i + 1)).toInt)]) (st2 := []) hC dL_law_1009 (Cn.liftM (as := [aR 0, aI ((xs (i + 1)).toInt)]) rfl rfl okI_nr hCn) ml_RL_156 my_X10_most mi_X10_most lJ_44 rfl rfl ⟨by decide, by decide⟩ ⟨by show _ ≤ 601024; omega, by show _ ≤ 7293034; omega⟩ (Nat.le_of_ble_eq_true rfl) rfl (fun r w' hq => ?_)
  obtain ⟨v', ⟨z2, rfl, hz, hz2, hR2⟩, rfl⟩ := hq
  refine r_istore hC dL_law_1012 (by decide) rfl rfl ?_
  refine r_aload_n hC 2 dL_law_1014 rfl rfl ?_
  refine r_callV (k := 44) (as := []) (st2 := []) hC dL_law_1015 (Cn.liftM (as := [aR 0]) rfl rfl okI_nr (s_M_thrown l v' (fun r => r = v'.1 0 0) rfl)) ml_RL_112 my_X10_thrown mi_X10_thrown lJ_44 rfl rfl ⟨by decide, by decide⟩ ⟨by show _ ≤ 601024; omega, by show _ ≤ 7293034; omega⟩ (Nat.le_of_ble_eq_true rfl) rfl (fun r w' hq => ?_)
  obtain ⟨v9, ⟨z3, rfl, rfl, hz3⟩, rfl⟩ := hq
  refine r_iload hC dL_law_1018 rfl ?_
  refine r_ic_eq hC (tgt := 1025) dL_law_1020 (by decide) (fun _ => ?_) (fun g => absurd (hz3.trans hz) g)
  refine r_iload hC dL_law_1025 rfl ?_
  refine r_if_ne hC (tgt := 1042) dL_law_1027 (by decide) (fun _ => r_goto hC (tgt := 1988) dL_law_1042 (by decide) (r_drop (kk _ _ _ hR2))) (fun g0 => ?_)
  refine r_aload_n hC 3 dL_law_1030 rfl rfl ?_
  refine r_iconst hC dL_law_1031 ⟨by decide, by decide⟩ ?_
  refine r_lald hC (n := 1) (v := o' 0) dL_law_1032 lJ_84 (by decide) (by decide) rfl ?_
  refine r_iload hC dL_law_1033 rfl ?_
  refine r_i2l hC dL_law_1035 ?_
  refine r_lcmp hC dL_law_1036 ?_
  exact r_if_eq hC (tgt := 1042) dL_law_1037 (by decide) (fun _ => r_goto hC (tgt := 1988) dL_law_1042 (by decide) (r_drop (kk _ _ _ hR2))) (fun g => absurd (by rw [hz2 g0]; exact lCmp_s _) g)
theorem case_16 {p : Program} {l : Launch} {e : Env} {s : State} {m : MethodId} {args : Array Value} {below : List Frame} {meth : Method} {c : Code} {Q : State → Prop} {cells slots : Nat} {D : va_G} {cA : Nat → ClassId} {ad : Nat → Nat} {A : Nat → Prop} {L0 i : Nat} {xs : Nat → Int32} {u v : St} {o : Nat → Int64} (hl : l.stackTraces = false) (hC : Cx p s m args c code 7 RL D cA ad A LJ) (hX : SCR s A ad L0 xs) (hnc : NcX s) (hL : L0 ≤ 3072) (hi : i + 6 ≤ L0) (hR : Rel u v) (hcs : cells + 3 ≤ 601024 ∧ slots + 18 ≤ 7293034) (kk : ∀ (u' v' : St) (o' : Nat → Int64), Rel u' v' → Wd p l e room_1 s m args below meth c Q (cells + 3) (slots + 18) 7 D cA ad A LJ (jN u' v' o') 1988 (lsL i) []) : Wd p l e room_1 s m args below meth c Q cells slots 7 D cA ad A LJ (jN u v o) 1045 (lsL i) [] := by
  refine r_aload_n hC 1 dL_law_1045 rfl rfl ?_
  refine r_arg (k := 1) hC hX hL rfl rfl (by omega) dL_law_1046 dL_law_1047 dL_law_1049 dL_law_1050 dL_law_1051 ?_
  refine r_arg (k := 2) hC hX hL rfl rfl (by omega) dL_law_1052 dL_law_1053 dL_law_1055 dL_law_1056 dL_law_1057 ?_
  refine r_aload_n hC 3 dL_law_1058 rfl rfl ?_
  refine r_widen (k := cells + 1) (n := slots + 6) (by omega) (by omega) ?_
  refine r_callSH hC [aR 0, aI ((xs (i + 1)).toInt), aI ((xs (i + 2)).toInt), aR 84] [] hnc dL_law_1059 ml_RL_157 myw_widest ms_L_widest rfl ⟨by decide, by decide⟩ ⟨by show _ ≤ 601024; omega, by show _ ≤ 7293034; omega⟩ (Nat.le_of_ble_eq_true rfl) rfl (H_widest hl hR ((xs (i + 1)).toInt) ((xs (i + 2)).toInt)) (fun r w' hok hq => ?_)
  obtain ⟨k, rfl, u', o', rfl, hCn⟩ := hq
  refine r_wid (k := cells + 3) (n := slots + 18) (by omega) (by omega) ?_
  refine r_istore hC dL_law_1062 (by decide) rfl rfl ?_
  refine r_aload_n hC 2 dL_law_1064 rfl rfl ?_
  refine r_arg (k := 1) hC hX hL rfl rfl (by omega) dL_law_1065 dL_law_1066 dL_law_1068 dL_law_1069 dL_law_1070 ?_
  refine r_arg (k := 2) hC hX hL rfl rfl (by omega) dL_law_1071 dL_law_1072 dL_law_1074 dL_law_1075 dL_law_1076 ?_
  refine r_callV (k := 44) (as := [aI ((xs (i + 1)).toInt), aI ((xs (i + 2)).toInt)]) (st2 := []) hC dL_law_1077 (Cn.liftM (as := [aR 0, aI ((xs (i + 1)).toInt), aI ((xs (i + 2)).toInt)]) rfl rfl okI_nr hCn) ml_RL_159 my_X10_widest mi_X10_widest lJ_44 rfl rfl ⟨by decide, by decide⟩ ⟨by show _ ≤ 601024; omega, by show _ ≤ 7293034; omega⟩ (Nat.le_of_ble_eq_true rfl) rfl (fun r w' hq => ?_)
  obtain ⟨v', ⟨z2, rfl, hz, hz2, hR2⟩, rfl⟩ := hq
  refine r_istore hC dL_law_1080 (by decide) rfl rfl ?_
  refine r_aload_n hC 2 dL_law_1082 rfl rfl ?_
  refine r_callV (k := 44) (as := []) (st2 := []) hC dL_law_1083 (Cn.liftM (as := [aR 0]) rfl rfl okI_nr (s_M_thrown l v' (fun r => r = v'.1 0 0) rfl)) ml_RL_112 my_X10_thrown mi_X10_thrown lJ_44 rfl rfl ⟨by decide, by decide⟩ ⟨by show _ ≤ 601024; omega, by show _ ≤ 7293034; omega⟩ (Nat.le_of_ble_eq_true rfl) rfl (fun r w' hq => ?_)
  obtain ⟨v9, ⟨z3, rfl, rfl, hz3⟩, rfl⟩ := hq
  refine r_iload hC dL_law_1086 rfl ?_
  refine r_ic_eq hC (tgt := 1093) dL_law_1088 (by decide) (fun _ => ?_) (fun g => absurd (hz3.trans hz) g)
  refine r_iload hC dL_law_1093 rfl ?_
  refine r_if_ne hC (tgt := 1110) dL_law_1095 (by decide) (fun _ => r_goto hC (tgt := 1988) dL_law_1110 (by decide) (r_drop (kk _ _ _ hR2))) (fun g0 => ?_)
  refine r_aload_n hC 3 dL_law_1098 rfl rfl ?_
  refine r_iconst hC dL_law_1099 ⟨by decide, by decide⟩ ?_
  refine r_lald hC (n := 1) (v := o' 0) dL_law_1100 lJ_84 (by decide) (by decide) rfl ?_
  refine r_iload hC dL_law_1101 rfl ?_
  refine r_i2l hC dL_law_1103 ?_
  refine r_lcmp hC dL_law_1104 ?_
  exact r_if_eq hC (tgt := 1110) dL_law_1105 (by decide) (fun _ => r_goto hC (tgt := 1988) dL_law_1110 (by decide) (r_drop (kk _ _ _ hR2))) (fun g => absurd (by rw [hz2 g0]; exact lCmp_s _) g)
theorem case_17 {p : Program} {l : Launch} {e : Env} {s : State} {m : MethodId} {args : Array Value} {below : List Frame} {meth : Method} {c : Code} {Q : State → Prop} {cells slots : Nat} {D : va_G} {cA : Nat → ClassId} {ad : Nat → Nat} {A : Nat → Prop} {L0 i : Nat} {xs : Nat → Int32} {u v : St} {o : Nat → Int64} (hl : l.stackTraces = false) (hC : Cx p s m args c code 7 RL D cA ad A LJ) (hX : SCR s A ad L0 xs) (hnc : NcX s) (hL : L0 ≤ 3072) (hi : i + 6 ≤ L0) (hR : Rel u v) (hcs : cells + 3 ≤ 601024 ∧ slots + 18 ≤ 7293034) (kk : ∀ (u' v' : St) (o' : Nat → Int64), Rel u' v' → Wd p l e room_1 s m args below meth c Q (cells + 3) (slots + 18) 7 D cA ad A LJ (jN u' v' o') 1988 (lsL i) []) : Wd p l e room_1 s m args below meth c Q cells slots 7 D cA ad A LJ (jN u v o) 1113 (lsL i) [] := by
  refine r_aload_n hC 1 dL_law_1113 rfl rfl ?_
  refine r_arg (k := 1) hC hX hL rfl rfl (by omega) dL_law_1114 dL_law_1115 dL_law_1117 dL_law_1118 dL_law_1119 ?_
  refine r_arg (k := 2) hC hX hL rfl rfl (by omega) dL_law_1120 dL_law_1121 dL_law_1123 dL_law_1124 dL_law_1125 ?_
  refine r_arg (k := 3) hC hX hL rfl rfl (by omega) dL_law_1126 dL_law_1127 dL_law_1129 dL_law_1130 dL_law_1131 ?_
  refine r_aload_n hC 3 dL_law_1132 rfl rfl ?_
  refine r_widen (k := cells + 0) (n := slots + 0) (by omega) (by omega) ?_
  refine r_callSH hC [aR 0, aI ((xs (i + 1)).toInt), aI ((xs (i + 2)).toInt), aI ((xs (i + 3)).toInt), aR 84] [] hnc dL_law_1133 ml_RL_160 myw_cut ms_L_cut rfl ⟨by decide, by decide⟩ ⟨by show _ ≤ 601024; omega, by show _ ≤ 7293034; omega⟩ (Nat.le_of_ble_eq_true rfl) rfl (H_cut hl hR ((xs (i + 1)).toInt) ((xs (i + 2)).toInt) ((xs (i + 3)).toInt)) (fun r w' hok hq => ?_)
  obtain ⟨k, rfl, u', o', rfl, hCn⟩ := hq
  refine r_wid (k := cells + 3) (n := slots + 18) (by omega) (by omega) ?_
  refine r_istore hC dL_law_1136 (by decide) rfl rfl ?_
  refine r_aload_n hC 2 dL_law_1138 rfl rfl ?_
  refine r_arg (k := 1) hC hX hL rfl rfl (by omega) dL_law_1139 dL_law_1140 dL_law_1142 dL_law_1143 dL_law_1144 ?_
  refine r_arg (k := 2) hC hX hL rfl rfl (by omega) dL_law_1145 dL_law_1146 dL_law_1148 dL_law_1149 dL_law_1150 ?_
  refine r_arg (k := 3) hC hX hL rfl rfl (by omega) dL_law_1151 dL_law_1152 dL_law_1154 dL_law_1155 dL_law_1156 ?_
  refine r_callV (k := 44) (as := [aI ((xs (i + 1)).toInt), aI ((xs (i + 2)).toInt), aI ((xs (i + 3)).toInt)]) (st2 := []) hC dL_law_1157 (Cn.liftM (as := [aR 0, aI ((xs (i + 1)).toInt), aI ((xs (i + 2)).toInt), aI ((xs (i + 3)).toInt)]) rfl rfl okI_nr hCn) ml_RL_162 my_X10_cut mi_X10_cut lJ_44 rfl rfl ⟨by decide, by decide⟩ ⟨by show _ ≤ 601024; omega, by show _ ≤ 7293034; omega⟩ (Nat.le_of_ble_eq_true rfl) rfl (fun r w' hq => ?_)
  obtain ⟨v', ⟨z2, rfl, hz, hz2, hR2⟩, rfl⟩ := hq
  refine r_istore hC dL_law_1160 (by decide) rfl rfl ?_
  refine r_aload_n hC 2 dL_law_1162 rfl rfl ?_
  refine r_callV (k := 44) (as := []) (st2 := []) hC dL_law_1163 (Cn.liftM (as := [aR 0]) rfl rfl okI_nr (s_M_thrown l v' (fun r => r = v'.1 0 0) rfl)) ml_RL_112 my_X10_thrown mi_X10_thrown lJ_44 rfl rfl ⟨by decide, by decide⟩ ⟨by show _ ≤ 601024; omega, by show _ ≤ 7293034; omega⟩ (Nat.le_of_ble_eq_true rfl) rfl (fun r w' hq => ?_)
  obtain ⟨v9, ⟨z3, rfl, rfl, hz3⟩, rfl⟩ := hq
  refine r_iload hC dL_law_1166 rfl ?_
  refine r_ic_eq hC (tgt := 1173) dL_law_1168 (by decide) (fun _ => ?_) (fun g => absurd (hz3.trans hz) g)
  refine r_iload hC dL_law_1173 rfl ?_
  refine r_if_ne hC (tgt := 1190) dL_law_1175 (by decide) (fun _ => r_goto hC (tgt := 1988) dL_law_1190 (by decide) (r_drop (kk _ _ _ hR2))) (fun g0 => ?_)
  refine r_aload_n hC 3 dL_law_1178 rfl rfl ?_
  refine r_iconst hC dL_law_1179 ⟨by decide, by decide⟩ ?_
  refine r_lald hC (n := 1) (v := o' 0) dL_law_1180 lJ_84 (by decide) (by decide) rfl ?_
  refine r_iload hC dL_law_1181 rfl ?_
  refine r_i2l hC dL_law_1183 ?_
  refine r_lcmp hC dL_law_1184 ?_
  exact r_if_eq hC (tgt := 1190) dL_law_1185 (by decide) (fun _ => r_goto hC (tgt := 1988) dL_law_1190 (by decide) (r_drop (kk _ _ _ hR2))) (fun g => absurd (by rw [hz2 g0]; exact lCmp_s _) g)
theorem case_18 {p : Program} {l : Launch} {e : Env} {s : State} {m : MethodId} {args : Array Value} {below : List Frame} {meth : Method} {c : Code} {Q : State → Prop} {cells slots : Nat} {D : va_G} {cA : Nat → ClassId} {ad : Nat → Nat} {A : Nat → Prop} {L0 i : Nat} {xs : Nat → Int32} {u v : St} {o : Nat → Int64} (hl : l.stackTraces = false) (hC : Cx p s m args c code 7 RL D cA ad A LJ) (hX : SCR s A ad L0 xs) (hnc : NcX s) (hL : L0 ≤ 3072) (hi : i + 6 ≤ L0) (hR : Rel u v) (hcs : cells + 3 ≤ 601024 ∧ slots + 18 ≤ 7293034) (kk : ∀ (u' v' : St) (o' : Nat → Int64), Rel u' v' → Wd p l e room_1 s m args below meth c Q (cells + 3) (slots + 18) 7 D cA ad A LJ (jN u' v' o') 1988 (lsL i) []) : Wd p l e room_1 s m args below meth c Q cells slots 7 D cA ad A LJ (jN u v o) 1193 (lsL i) [] := by
  refine r_aload_n hC 1 dL_law_1193 rfl rfl ?_
  refine r_arg (k := 1) hC hX hL rfl rfl (by omega) dL_law_1194 dL_law_1195 dL_law_1197 dL_law_1198 dL_law_1199 ?_
  refine r_arg (k := 2) hC hX hL rfl rfl (by omega) dL_law_1200 dL_law_1201 dL_law_1203 dL_law_1204 dL_law_1205 ?_
  refine r_aload_n hC 3 dL_law_1206 rfl rfl ?_
  refine r_widen (k := cells + 1) (n := slots + 6) (by omega) (by omega) ?_
  refine r_callSH hC [aR 0, aI ((xs (i + 1)).toInt), aI ((xs (i + 2)).toInt), aR 84] [] hnc dL_law_1207 ml_RL_163 myw_set ms_L_set rfl ⟨by decide, by decide⟩ ⟨by show _ ≤ 601024; omega, by show _ ≤ 7293034; omega⟩ (Nat.le_of_ble_eq_true rfl) rfl (H_set hl hR ((xs (i + 1)).toInt) ((xs (i + 2)).toInt) (rng_of _)) (fun r w' hok hq => ?_)
  obtain ⟨k, rfl, u', o', rfl, hCn⟩ := hq
  refine r_wid (k := cells + 3) (n := slots + 18) (by omega) (by omega) ?_
  refine r_istore hC dL_law_1210 (by decide) rfl rfl ?_
  refine r_aload_n hC 2 dL_law_1212 rfl rfl ?_
  refine r_arg (k := 1) hC hX hL rfl rfl (by omega) dL_law_1213 dL_law_1214 dL_law_1216 dL_law_1217 dL_law_1218 ?_
  refine r_arg (k := 2) hC hX hL rfl rfl (by omega) dL_law_1219 dL_law_1220 dL_law_1222 dL_law_1223 dL_law_1224 ?_
  refine r_callV (k := 44) (as := [aI ((xs (i + 1)).toInt), aI ((xs (i + 2)).toInt)]) (st2 := []) hC dL_law_1225 (Cn.liftM (as := [aR 0, aI ((xs (i + 1)).toInt), aI ((xs (i + 2)).toInt)]) rfl rfl okI_nr hCn) ml_RL_165 my_X10_set mi_X10_set lJ_44 rfl rfl ⟨by decide, by decide⟩ ⟨by show _ ≤ 601024; omega, by show _ ≤ 7293034; omega⟩ (Nat.le_of_ble_eq_true rfl) rfl (fun r w' hq => ?_)
  obtain ⟨v', ⟨z2, rfl, hz, hz2, hR2⟩, rfl⟩ := hq
  refine r_istore hC dL_law_1228 (by decide) rfl rfl ?_
  refine r_aload_n hC 2 dL_law_1230 rfl rfl ?_
  refine r_callV (k := 44) (as := []) (st2 := []) hC dL_law_1231 (Cn.liftM (as := [aR 0]) rfl rfl okI_nr (s_M_thrown l v' (fun r => r = v'.1 0 0) rfl)) ml_RL_112 my_X10_thrown mi_X10_thrown lJ_44 rfl rfl ⟨by decide, by decide⟩ ⟨by show _ ≤ 601024; omega, by show _ ≤ 7293034; omega⟩ (Nat.le_of_ble_eq_true rfl) rfl (fun r w' hq => ?_)
  obtain ⟨v9, ⟨z3, rfl, rfl, hz3⟩, rfl⟩ := hq
  refine r_iload hC dL_law_1234 rfl ?_
  refine r_ic_eq hC (tgt := 1241) dL_law_1236 (by decide) (fun _ => ?_) (fun g => absurd (hz3.trans hz) g)
  refine r_iload hC dL_law_1241 rfl ?_
  refine r_if_ne hC (tgt := 1258) dL_law_1243 (by decide) (fun _ => r_goto hC (tgt := 1988) dL_law_1258 (by decide) (r_drop (kk _ _ _ hR2))) (fun g0 => ?_)
  refine r_aload_n hC 3 dL_law_1246 rfl rfl ?_
  refine r_iconst hC dL_law_1247 ⟨by decide, by decide⟩ ?_
  refine r_lald hC (n := 1) (v := o' 0) dL_law_1248 lJ_84 (by decide) (by decide) rfl ?_
  refine r_iload hC dL_law_1249 rfl ?_
  refine r_i2l hC dL_law_1251 ?_
  refine r_lcmp hC dL_law_1252 ?_
  exact r_if_eq hC (tgt := 1258) dL_law_1253 (by decide) (fun _ => r_goto hC (tgt := 1988) dL_law_1258 (by decide) (r_drop (kk _ _ _ hR2))) (fun g => absurd (by rw [hz2 g0]; exact lCmp_s _) g)
theorem case_19 {p : Program} {l : Launch} {e : Env} {s : State} {m : MethodId} {args : Array Value} {below : List Frame} {meth : Method} {c : Code} {Q : State → Prop} {cells slots : Nat} {D : va_G} {cA : Nat → ClassId} {ad : Nat → Nat} {A : Nat → Prop} {L0 i : Nat} {xs : Nat → Int32} {u v : St} {o : Nat → Int64} (hl : l.stackTraces = false) (hC : Cx p s m args c code 7 RL D cA ad A LJ) (hX : SCR s A ad L0 xs) (hnc : NcX s) (hL : L0 ≤ 3072) (hi : i + 6 ≤ L0) (hR : Rel u v) (hcs : cells + 3 ≤ 601024 ∧ slots + 18 ≤ 7293034) (kk : ∀ (u' v' : St) (o' : Nat → Int64), Rel u' v' → Wd p l e room_1 s m args below meth c Q (cells + 3) (slots + 18) 7 D cA ad A LJ (jN u' v' o') 1988 (lsL i) []) : Wd p l e room_1 s m args below meth c Q cells slots 7 D cA ad A LJ (jN u v o) 1261 (lsL i) [] := by
  refine r_aload_n hC 1 dL_law_1261 rfl rfl ?_
  refine r_arg (k := 1) hC hX hL rfl rfl (by omega) dL_law_1262 dL_law_1263 dL_law_1265 dL_law_1266 dL_law_1267 ?_
  refine r_arg (k := 2) hC hX hL rfl rfl (by omega) dL_law_1268 dL_law_1269 dL_law_1271 dL_law_1272 dL_law_1273 ?_
  refine r_aload_n hC 3 dL_law_1274 rfl rfl ?_
  refine r_widen (k := cells + 1) (n := slots + 6) (by omega) (by omega) ?_
  refine r_callSH hC [aR 0, aI ((xs (i + 1)).toInt), aI ((xs (i + 2)).toInt), aR 84] [] hnc dL_law_1275 ml_RL_166 myw_common ms_L_common rfl ⟨by decide, by decide⟩ ⟨by show _ ≤ 601024; omega, by show _ ≤ 7293034; omega⟩ (Nat.le_of_ble_eq_true rfl) rfl (H_common hl hR ((xs (i + 1)).toInt) ((xs (i + 2)).toInt)) (fun r w' hok hq => ?_)
  obtain ⟨k, rfl, u', o', rfl, hCn⟩ := hq
  refine r_wid (k := cells + 3) (n := slots + 18) (by omega) (by omega) ?_
  refine r_istore hC dL_law_1278 (by decide) rfl rfl ?_
  refine r_aload_n hC 2 dL_law_1280 rfl rfl ?_
  refine r_arg (k := 1) hC hX hL rfl rfl (by omega) dL_law_1281 dL_law_1282 dL_law_1284 dL_law_1285 dL_law_1286 ?_
  refine r_arg (k := 2) hC hX hL rfl rfl (by omega) dL_law_1287 dL_law_1288 dL_law_1290 dL_law_1291 dL_law_1292 ?_
  refine r_callV (k := 44) (as := [aI ((xs (i + 1)).toInt), aI ((xs (i + 2)).toInt)]) (st2 := []) hC dL_law_1293 (Cn.liftM (as := [aR 0, aI ((xs (i + 1)).toInt), aI ((xs (i + 2)).toInt)]) rfl rfl okI_nr hCn) ml_RL_168 my_X10_common mi_X10_common lJ_44 rfl rfl ⟨by decide, by decide⟩ ⟨by show _ ≤ 601024; omega, by show _ ≤ 7293034; omega⟩ (Nat.le_of_ble_eq_true rfl) rfl (fun r w' hq => ?_)
  obtain ⟨v', ⟨z2, rfl, hz, hz2, hR2⟩, rfl⟩ := hq
  refine r_istore hC dL_law_1296 (by decide) rfl rfl ?_
  refine r_aload_n hC 2 dL_law_1298 rfl rfl ?_
  refine r_callV (k := 44) (as := []) (st2 := []) hC dL_law_1299 (Cn.liftM (as := [aR 0]) rfl rfl okI_nr (s_M_thrown l v' (fun r => r = v'.1 0 0) rfl)) ml_RL_112 my_X10_thrown mi_X10_thrown lJ_44 rfl rfl ⟨by decide, by decide⟩ ⟨by show _ ≤ 601024; omega, by show _ ≤ 7293034; omega⟩ (Nat.le_of_ble_eq_true rfl) rfl (fun r w' hq => ?_)
  obtain ⟨v9, ⟨z3, rfl, rfl, hz3⟩, rfl⟩ := hq
  refine r_iload hC dL_law_1302 rfl ?_
  refine r_ic_eq hC (tgt := 1309) dL_law_1304 (by decide) (fun _ => ?_) (fun g => absurd (hz3.trans hz) g)
  refine r_iload hC dL_law_1309 rfl ?_
  refine r_if_ne hC (tgt := 1326) dL_law_1311 (by decide) (fun _ => r_goto hC (tgt := 1988) dL_law_1326 (by decide) (r_drop (kk _ _ _ hR2))) (fun g0 => ?_)
  refine r_aload_n hC 3 dL_law_1314 rfl rfl ?_
  refine r_iconst hC dL_law_1315 ⟨by decide, by decide⟩ ?_
  refine r_lald hC (n := 1) (v := o' 0) dL_law_1316 lJ_84 (by decide) (by decide) rfl ?_
  refine r_iload hC dL_law_1317 rfl ?_
  refine r_i2l hC dL_law_1319 ?_
  refine r_lcmp hC dL_law_1320 ?_
  exact r_if_eq hC (tgt := 1326) dL_law_1321 (by decide) (fun _ => r_goto hC (tgt := 1988) dL_law_1326 (by decide) (r_drop (kk _ _ _ hR2))) (fun g => absurd (by rw [hz2 g0]; exact lCmp_s _) g)
theorem case_20 {p : Program} {l : Launch} {e : Env} {s : State} {m : MethodId} {args : Array Value} {below : List Frame} {meth : Method} {c : Code} {Q : State → Prop} {cells slots : Nat} {D : va_G} {cA : Nat → ClassId} {ad : Nat → Nat} {A : Nat → Prop} {L0 i : Nat} {xs : Nat → Int32} {u v : St} {o : Nat → Int64} (hl : l.stackTraces = false) (hC : Cx p s m args c code 7 RL D cA ad A LJ) (hX : SCR s A ad L0 xs) (hnc : NcX s) (hL : L0 ≤ 3072) (hi : i + 6 ≤ L0) (hR : Rel u v) (hcs : cells + 3 ≤ 601024 ∧ slots + 18 ≤ 7293034) (kk : ∀ (u' v' : St) (o' : Nat → Int64), Rel u' v' → Wd p l e room_1 s m args below meth c Q (cells + 3) (slots + 18) 7 D cA ad A LJ (jN u' v' o') 1988 (lsL i) []) : Wd p l e room_1 s m args below meth c Q cells slots 7 D cA ad A LJ (jN u v o) 1329 (lsL i) [] := by
  refine r_widen (k := cells + 3) (n := slots + 18) (by omega) (by omega) ?_
  refine r_aload_n hC 1 dL_law_1329 rfl rfl ?_
  refine r_arg (k := 1) hC hX hL rfl rfl (by omega) dL_law_1330 dL_law_1331 dL_law_1333 dL_law_1334 dL_law_1335 ?_
  refine r_callV (k := 0) (as := [aI ((xs (i + 1)).toInt)]) (st2 := []) hC dL_law_1336 (Cn.liftX rfl rfl okI_nr (K_step hR ((xs (i + 1)).toInt))) ml_RL_169 my_X9_step mi_X9_step lJ_0 rfl rfl ⟨by decide, by decide⟩ ⟨by show _ ≤ 601024; omega, by show _ ≤ 7293034; omega⟩ (Nat.le_of_ble_eq_true rfl) rfl (fun r w' hq => ?_)
  obtain ⟨u', ⟨z, rfl, hCn⟩, rfl⟩ := hq
  refine r_aload_n hC 2 dL_law_1339 rfl rfl ?_
  refine r_arg (k := 1) hC hX hL rfl rfl (by omega) dL_law_1340 dL_law_1341 dL_law_1343 dL_law_1344 dL_law_1345 ?_
  refine r_callV (k := 44) (as := [aI ((xs (i + 1)).toInt)]) (st2 := [aI z]) hC dL_law_1346 (Cn.liftM (as := [aR 0, aI ((xs (i + 1)).toInt)]) rfl rfl okI_nr hCn) ml_RL_172 my_X10_step mi_X10_step lJ_44 rfl rfl ⟨by decide, by decide⟩ ⟨by show _ ≤ 601024; omega, by show _ ≤ 7293034; omega⟩ (Nat.le_of_ble_eq_true rfl) rfl (fun r w' hq => ?_)
  obtain ⟨v', ⟨z2, rfl, hz, hR2⟩, rfl⟩ := hq
  exact r_ic_eq hC (tgt := 1988) dL_law_1349 (by decide) (fun _ => kk _ _ _ hR2) (fun g => absurd hz.symm g)
theorem case_21 {p : Program} {l : Launch} {e : Env} {s : State} {m : MethodId} {args : Array Value} {below : List Frame} {meth : Method} {c : Code} {Q : State → Prop} {cells slots : Nat} {D : va_G} {cA : Nat → ClassId} {ad : Nat → Nat} {A : Nat → Prop} {L0 i : Nat} {xs : Nat → Int32} {u v : St} {o : Nat → Int64} (hl : l.stackTraces = false) (hC : Cx p s m args c code 7 RL D cA ad A LJ) (hX : SCR s A ad L0 xs) (hnc : NcX s) (hL : L0 ≤ 3072) (hi : i + 6 ≤ L0) (hR : Rel u v) (hcs : cells + 3 ≤ 601024 ∧ slots + 18 ≤ 7293034) (kk : ∀ (u' v' : St) (o' : Nat → Int64), Rel u' v' → Wd p l e room_1 s m args below meth c Q (cells + 3) (slots + 18) 7 D cA ad A LJ (jN u' v' o') 1988 (lsL i) []) : Wd p l e room_1 s m args below meth c Q cells slots 7 D cA ad A LJ (jN u v o) 1354 (lsL i) [] := by
  refine r_widen (k := cells + 3) (n := slots + 18) (by omega) (by omega) ?_
  refine r_aload_n hC 1 dL_law_1354 rfl rfl ?_
  refine r_barg (k := 1) hC hX hL rfl rfl (by omega) dL_law_1355 dL_law_1356 dL_law_1358 dL_law_1359 dL_law_1360 dL_law_1361 dL_law_1364 dL_law_1365 dL_law_1368 ?_
  refine r_callV (k := 0) (as := [aI (bZ (xs (i + 1)).toInt)]) (st2 := []) hC dL_law_1369 (Cn.liftX rfl rfl okI_nr (K_choice hR (bZ (xs (i + 1)).toInt))) ml_RL_173 my_X9_choice mi_X9_choice lJ_0 rfl rfl ⟨by decide, by decide⟩ ⟨by show _ ≤ 601024; omega, by show _ ≤ 7293034; omega⟩ (Nat.le_of_ble_eq_true rfl) rfl (fun r w' hq => ?_)
  obtain ⟨u', ⟨z, rfl, hCn⟩, rfl⟩ := hq
  refine r_aload_n hC 2 dL_law_1372 rfl rfl ?_
  refine r_barg (k := 1) hC hX hL rfl rfl (by omega) dL_law_1373 dL_law_1374 dL_law_1376 dL_law_1377 dL_law_1378 dL_law_1379 dL_law_1382 dL_law_1383 dL_law_1386 ?_
  refine r_callV (k := 44) (as := [aI (bZ (xs (i + 1)).toInt)]) (st2 := [aI z]) hC dL_law_1387 (Cn.liftM (as := [aR 0, aI (bZ (xs (i + 1)).toInt)]) rfl rfl okI_nr hCn) ml_RL_177 my_X10_choice mi_X10_choice lJ_44 rfl rfl ⟨by decide, by decide⟩ ⟨by show _ ≤ 601024; omega, by show _ ≤ 7293034; omega⟩ (Nat.le_of_ble_eq_true rfl) rfl (fun r w' hq => ?_)
  obtain ⟨v', ⟨z2, rfl, hz, hR2⟩, rfl⟩ := hq
  exact r_ic_eq hC (tgt := 1988) dL_law_1390 (by decide) (fun _ => kk _ _ _ hR2) (fun g => absurd hz.symm g)
theorem case_22 {p : Program} {l : Launch} {e : Env} {s : State} {m : MethodId} {args : Array Value} {below : List Frame} {meth : Method} {c : Code} {Q : State → Prop} {cells slots : Nat} {D : va_G} {cA : Nat → ClassId} {ad : Nat → Nat} {A : Nat → Prop} {L0 i : Nat} {xs : Nat → Int32} {u v : St} {o : Nat → Int64} (hl : l.stackTraces = false) (hC : Cx p s m args c code 7 RL D cA ad A LJ) (hX : SCR s A ad L0 xs) (hnc : NcX s) (hL : L0 ≤ 3072) (hi : i + 6 ≤ L0) (hR : Rel u v) (hcs : cells + 3 ≤ 601024 ∧ slots + 18 ≤ 7293034) (kk : ∀ (u' v' : St) (o' : Nat → Int64), Rel u' v' → Wd p l e room_1 s m args below meth c Q (cells + 3) (slots + 18) 7 D cA ad A LJ (jN u' v' o') 1988 (lsL i) []) : Wd p l e room_1 s m args below meth c Q cells slots 7 D cA ad A LJ (jN u v o) 1395 (lsL i) [] := by
  refine r_widen (k := cells + 3) (n := slots + 18) (by omega) (by omega) ?_
  refine r_aload_n hC 1 dL_law_1395 rfl rfl ?_
  refine r_barg (k := 1) hC hX hL rfl rfl (by omega) dL_law_1396 dL_law_1397 dL_law_1399 dL_law_1400 dL_law_1401 dL_law_1402 dL_law_1405 dL_law_1406 dL_law_1409 ?_
  refine r_callV (k := 0) (as := [aI (bZ (xs (i + 1)).toInt)]) (st2 := []) hC dL_law_1410 (Cn.liftX rfl rfl okI_nr (K_take hR (bZ (xs (i + 1)).toInt))) ml_RL_178 my_X9_take mi_X9_take lJ_0 rfl rfl ⟨by decide, by decide⟩ ⟨by show _ ≤ 601024; omega, by show _ ≤ 7293034; omega⟩ (Nat.le_of_ble_eq_true rfl) rfl (fun r w' hq => ?_)
  obtain ⟨u', ⟨z, rfl, hCn⟩, rfl⟩ := hq
  refine r_aload_n hC 2 dL_law_1413 rfl rfl ?_
  refine r_barg (k := 1) hC hX hL rfl rfl (by omega) dL_law_1414 dL_law_1415 dL_law_1417 dL_law_1418 dL_law_1419 dL_law_1420 dL_law_1423 dL_law_1424 dL_law_1427 ?_
  refine r_callV (k := 44) (as := [aI (bZ (xs (i + 1)).toInt)]) (st2 := [aI z]) hC dL_law_1428 (Cn.liftM (as := [aR 0, aI (bZ (xs (i + 1)).toInt)]) rfl rfl okI_nr hCn) ml_RL_181 my_X10_take mi_X10_take lJ_44 rfl rfl ⟨by decide, by decide⟩ ⟨by show _ ≤ 601024; omega, by show _ ≤ 7293034; omega⟩ (Nat.le_of_ble_eq_true rfl) rfl (fun r w' hq => ?_)
  obtain ⟨v', ⟨z2, rfl, hz, hR2⟩, rfl⟩ := hq
  exact r_ic_eq hC (tgt := 1988) dL_law_1431 (by decide) (fun _ => kk _ _ _ hR2) (fun g => absurd hz.symm g)
theorem case_23 {p : Program} {l : Launch} {e : Env} {s : State} {m : MethodId} {args : Array Value} {below : List Frame} {meth : Method} {c : Code} {Q : State → Prop} {cells slots : Nat} {D : va_G} {cA : Nat → ClassId} {ad : Nat → Nat} {A : Nat → Prop} {L0 i : Nat} {xs : Nat → Int32} {u v : St} {o : Nat → Int64} (hl : l.stackTraces = false) (hC : Cx p s m args c code 7 RL D cA ad A LJ) (hX : SCR s A ad L0 xs) (hnc : NcX s) (hL : L0 ≤ 3072) (hi : i + 6 ≤ L0) (hR : Rel u v) (hcs : cells + 3 ≤ 601024 ∧ slots + 18 ≤ 7293034) (kk : ∀ (u' v' : St) (o' : Nat → Int64), Rel u' v' → Wd p l e room_1 s m args below meth c Q (cells + 3) (slots + 18) 7 D cA ad A LJ (jN u' v' o') 1988 (lsL i) []) : Wd p l e room_1 s m args below meth c Q cells slots 7 D cA ad A LJ (jN u v o) 1436 (lsL i) [] := by
  refine r_aload_n hC 1 dL_law_1436 rfl rfl ?_
  refine r_arg (k := 1) hC hX hL rfl rfl (by omega) dL_law_1437 dL_law_1438 dL_law_1440 dL_law_1441 dL_law_1442 ?_
  refine r_aload_n hC 3 dL_law_1443 rfl rfl ?_
  refine r_widen (k := cells + 1) (n := slots + 6) (by omega) (by omega) ?_
  refine r_callSH hC [aR 0, aI ((xs (i + 1)).toInt), aR 84] [] hnc dL_law_1444 ml_RL_182 myw_choose ms_L_choose rfl ⟨by decide, by decide⟩ ⟨by show _ ≤ 601024; omega, by show _ ≤ 7293034; omega⟩ (Nat.le_of_ble_eq_true rfl) rfl (H_choose hl hR ((xs (i + 1)).toInt)) (fun r w' hok hq => ?_)
  obtain ⟨k, rfl, u', o', rfl, hCn⟩ := hq
  refine r_wid (k := cells + 3) (n := slots + 18) (by omega) (by omega) ?_
  refine r_istore hC dL_law_1447 (by decide) rfl rfl ?_
  refine r_aload_n hC 2 dL_law_1449 rfl rfl ?_
  refine r_arg (k := 1) hC hX hL rfl rfl (by omega) dL_law_1450 dL_law_1451 dL_law_1453 dL_law_1454 dL_law_1455 ?_
  refine r_callV (k := 44) (as := [aI ((xs (i + 1)).toInt)]) (st2 := []) hC dL_law_1456 (Cn.liftM (as := [aR 0, aI ((xs (i + 1)).toInt)]) rfl rfl okI_nr hCn) ml_RL_184 my_X10_choose mi_X10_choose lJ_44 rfl rfl ⟨by decide, by decide⟩ ⟨by show _ ≤ 601024; omega, by show _ ≤ 7293034; omega⟩ (Nat.le_of_ble_eq_true rfl) rfl (fun r w' hq => ?_)
  obtain ⟨v', ⟨z2, rfl, hz, hz2, hR2⟩, rfl⟩ := hq
  refine r_istore hC dL_law_1459 (by decide) rfl rfl ?_
  refine r_aload_n hC 2 dL_law_1461 rfl rfl ?_
  refine r_callV (k := 44) (as := []) (st2 := []) hC dL_law_1462 (Cn.liftM (as := [aR 0]) rfl rfl okI_nr (s_M_thrown l v' (fun r => r = v'.1 0 0) rfl)) ml_RL_112 my_X10_thrown mi_X10_thrown lJ_44 rfl rfl ⟨by decide, by decide⟩ ⟨by show _ ≤ 601024; omega, by show _ ≤ 7293034; omega⟩ (Nat.le_of_ble_eq_true rfl) rfl (fun r w' hq => ?_)
  obtain ⟨v9, ⟨z3, rfl, rfl, hz3⟩, rfl⟩ := hq
  refine r_iload hC dL_law_1465 rfl ?_
  refine r_ic_eq hC (tgt := 1472) dL_law_1467 (by decide) (fun _ => ?_) (fun g => absurd (hz3.trans hz) g)
  refine r_iload hC dL_law_1472 rfl ?_
  refine r_if_ne hC (tgt := 1489) dL_law_1474 (by decide) (fun _ => r_goto hC (tgt := 1988) dL_law_1489 (by decide) (r_drop (kk _ _ _ hR2))) (fun g0 => ?_)
  refine r_aload_n hC 3 dL_law_1477 rfl rfl ?_
  refine r_iconst hC dL_law_1478 ⟨by decide, by decide⟩ ?_
  refine r_lald hC (n := 1) (v := o' 0) dL_law_1479 lJ_84 (by decide) (by decide) rfl ?_
  refine r_iload hC dL_law_1480 rfl ?_
  refine r_i2l hC dL_law_1482 ?_
  refine r_lcmp hC dL_law_1483 ?_
  exact r_if_eq hC (tgt := 1489) dL_law_1484 (by decide) (fun _ => r_goto hC (tgt := 1988) dL_law_1489 (by decide) (r_drop (kk _ _ _ hR2))) (fun g => absurd (by rw [hz2 g0]; exact lCmp_s _) g)
theorem case_24 {p : Program} {l : Launch} {e : Env} {s : State} {m : MethodId} {args : Array Value} {below : List Frame} {meth : Method} {c : Code} {Q : State → Prop} {cells slots : Nat} {D : va_G} {cA : Nat → ClassId} {ad : Nat → Nat} {A : Nat → Prop} {L0 i : Nat} {xs : Nat → Int32} {u v : St} {o : Nat → Int64} (hl : l.stackTraces = false) (hC : Cx p s m args c code 7 RL D cA ad A LJ) (hX : SCR s A ad L0 xs) (hnc : NcX s) (hL : L0 ≤ 3072) (hi : i + 6 ≤ L0) (hR : Rel u v) (hcs : cells + 3 ≤ 601024 ∧ slots + 18 ≤ 7293034) (kk : ∀ (u' v' : St) (o' : Nat → Int64), Rel u' v' → Wd p l e room_1 s m args below meth c Q (cells + 3) (slots + 18) 7 D cA ad A LJ (jN u' v' o') 1988 (lsL i) []) : Wd p l e room_1 s m args below meth c Q cells slots 7 D cA ad A LJ (jN u v o) 1492 (lsL i) [] := by
  refine r_aload_n hC 1 dL_law_1492 rfl rfl ?_
  refine r_arg (k := 1) hC hX hL rfl rfl (by omega) dL_law_1493 dL_law_1494 dL_law_1496 dL_law_1497 dL_law_1498 ?_
  refine r_aload_n hC 3 dL_law_1499 rfl rfl ?_
  refine r_widen (k := cells + 1) (n := slots + 6) (by omega) (by omega) ?_
  refine r_callSH hC [aR 0, aI ((xs (i + 1)).toInt), aR 84] [] hnc dL_law_1500 ml_RL_185 myw_drop ms_L_drop rfl ⟨by decide, by decide⟩ ⟨by show _ ≤ 601024; omega, by show _ ≤ 7293034; omega⟩ (Nat.le_of_ble_eq_true rfl) rfl (H_drop hl hR ((xs (i + 1)).toInt)) (fun r w' hok hq => ?_)
  obtain ⟨k, rfl, u', o', rfl, hCn⟩ := hq
  refine r_wid (k := cells + 3) (n := slots + 18) (by omega) (by omega) ?_
  refine r_istore hC dL_law_1503 (by decide) rfl rfl ?_
  refine r_aload_n hC 2 dL_law_1505 rfl rfl ?_
  refine r_arg (k := 1) hC hX hL rfl rfl (by omega) dL_law_1506 dL_law_1507 dL_law_1509 dL_law_1510 dL_law_1511 ?_
  refine r_callV (k := 44) (as := [aI ((xs (i + 1)).toInt)]) (st2 := []) hC dL_law_1512 (Cn.liftM (as := [aR 0, aI ((xs (i + 1)).toInt)]) rfl rfl okI_nr hCn) ml_RL_187 my_X10_drop mi_X10_drop lJ_44 rfl rfl ⟨by decide, by decide⟩ ⟨by show _ ≤ 601024; omega, by show _ ≤ 7293034; omega⟩ (Nat.le_of_ble_eq_true rfl) rfl (fun r w' hq => ?_)
  obtain ⟨v', ⟨z2, rfl, hz, hz2, hR2⟩, rfl⟩ := hq
  refine r_istore hC dL_law_1515 (by decide) rfl rfl ?_
  refine r_aload_n hC 2 dL_law_1517 rfl rfl ?_
  refine r_callV (k := 44) (as := []) (st2 := []) hC dL_law_1518 (Cn.liftM (as := [aR 0]) rfl rfl okI_nr (s_M_thrown l v' (fun r => r = v'.1 0 0) rfl)) ml_RL_112 my_X10_thrown mi_X10_thrown lJ_44 rfl rfl ⟨by decide, by decide⟩ ⟨by show _ ≤ 601024; omega, by show _ ≤ 7293034; omega⟩ (Nat.le_of_ble_eq_true rfl) rfl (fun r w' hq => ?_)
  obtain ⟨v9, ⟨z3, rfl, rfl, hz3⟩, rfl⟩ := hq
  refine r_iload hC dL_law_1521 rfl ?_
  refine r_ic_eq hC (tgt := 1528) dL_law_1523 (by decide) (fun _ => ?_) (fun g => absurd (hz3.trans hz) g)
  refine r_iload hC dL_law_1528 rfl ?_
  refine r_if_ne hC (tgt := 1545) dL_law_1530 (by decide) (fun _ => r_goto hC (tgt := 1988) dL_law_1545 (by decide) (r_drop (kk _ _ _ hR2))) (fun g0 => ?_)
  refine r_aload_n hC 3 dL_law_1533 rfl rfl ?_
  refine r_iconst hC dL_law_1534 ⟨by decide, by decide⟩ ?_
  refine r_lald hC (n := 1) (v := o' 0) dL_law_1535 lJ_84 (by decide) (by decide) rfl ?_
  refine r_iload hC dL_law_1536 rfl ?_
  refine r_i2l hC dL_law_1538 ?_
  refine r_lcmp hC dL_law_1539 ?_
  exact r_if_eq hC (tgt := 1545) dL_law_1540 (by decide) (fun _ => r_goto hC (tgt := 1988) dL_law_1545 (by decide) (r_drop (kk _ _ _ hR2))) (fun g => absurd (by rw [hz2 g0]; exact lCmp_s _) g)
theorem case_25 {p : Program} {l : Launch} {e : Env} {s : State} {m : MethodId} {args : Array Value} {below : List Frame} {meth : Method} {c : Code} {Q : State → Prop} {cells slots : Nat} {D : va_G} {cA : Nat → ClassId} {ad : Nat → Nat} {A : Nat → Prop} {L0 i : Nat} {xs : Nat → Int32} {u v : St} {o : Nat → Int64} (hl : l.stackTraces = false) (hC : Cx p s m args c code 7 RL D cA ad A LJ) (hX : SCR s A ad L0 xs) (hnc : NcX s) (hL : L0 ≤ 3072) (hi : i + 6 ≤ L0) (hR : Rel u v) (hcs : cells + 3 ≤ 601024 ∧ slots + 18 ≤ 7293034) (kk : ∀ (u' v' : St) (o' : Nat → Int64), Rel u' v' → Wd p l e room_1 s m args below meth c Q (cells + 3) (slots + 18) 7 D cA ad A LJ (jN u' v' o') 1988 (lsL i) []) : Wd p l e room_1 s m args below meth c Q cells slots 7 D cA ad A LJ (jN u v o) 1548 (lsL i) [] := by
  refine r_aload_n hC 1 dL_law_1548 rfl rfl ?_
  refine r_arg (k := 1) hC hX hL rfl rfl (by omega) dL_law_1549 dL_law_1550 dL_law_1552 dL_law_1553 dL_law_1554 ?_
  refine r_aload_n hC 3 dL_law_1555 rfl rfl ?_
  refine r_widen (k := cells + 2) (n := slots + 12) (by omega) (by omega) ?_
  refine r_callSH hC [aR 0, aI ((xs (i + 1)).toInt), aR 84] [] hnc dL_law_1556 ml_RL_188 myw_exchange ms_L_exchange rfl ⟨by decide, by decide⟩ ⟨by show _ ≤ 601024; omega, by show _ ≤ 7293034; omega⟩ (Nat.le_of_ble_eq_true rfl) rfl (H_exchange hl hR ((xs (i + 1)).toInt)) (fun r w' hok hq => ?_)
  obtain ⟨k, rfl, u', o', rfl, hCn⟩ := hq
  refine r_wid (k := cells + 3) (n := slots + 18) (by omega) (by omega) ?_
  refine r_istore hC dL_law_1559 (by decide) rfl rfl ?_
  refine r_aload_n hC 2 dL_law_1561 rfl rfl ?_
  refine r_arg (k := 1) hC hX hL rfl rfl (by omega) dL_law_1562 dL_law_1563 dL_law_1565 dL_law_1566 dL_law_1567 ?_
  refine r_callV (k := 44) (as := [aI ((xs (i + 1)).toInt)]) (st2 := []) hC dL_law_1568 (Cn.liftM (as := [aR 0, aI ((xs (i + 1)).toInt)]) rfl rfl okI_nr hCn) ml_RL_190 my_X10_exchange mi_X10_exchange lJ_44 rfl rfl ⟨by decide, by decide⟩ ⟨by show _ ≤ 601024; omega, by show _ ≤ 7293034; omega⟩ (Nat.le_of_ble_eq_true rfl) rfl (fun r w' hq => ?_)
  obtain ⟨v', ⟨z2, rfl, hz, hz2, hR2⟩, rfl⟩ := hq
  refine r_istore hC dL_law_1571 (by decide) rfl rfl ?_
  refine r_aload_n hC 2 dL_law_1573 rfl rfl ?_
  refine r_callV (k := 44) (as := []) (st2 := []) hC dL_law_1574 (Cn.liftM (as := [aR 0]) rfl rfl okI_nr (s_M_thrown l v' (fun r => r = v'.1 0 0) rfl)) ml_RL_112 my_X10_thrown mi_X10_thrown lJ_44 rfl rfl ⟨by decide, by decide⟩ ⟨by show _ ≤ 601024; omega, by show _ ≤ 7293034; omega⟩ (Nat.le_of_ble_eq_true rfl) rfl (fun r w' hq => ?_)
  obtain ⟨v9, ⟨z3, rfl, rfl, hz3⟩, rfl⟩ := hq
  refine r_iload hC dL_law_1577 rfl ?_
  refine r_ic_eq hC (tgt := 1584) dL_law_1579 (by decide) (fun _ => ?_) (fun g => absurd (hz3.trans hz) g)
  refine r_iload hC dL_law_1584 rfl ?_
  refine r_if_ne hC (tgt := 1601) dL_law_1586 (by decide) (fun _ => r_goto hC (tgt := 1988) dL_law_1601 (by decide) (r_drop (kk _ _ _ hR2))) (fun g0 => ?_)
  refine r_aload_n hC 3 dL_law_1589 rfl rfl ?_
  refine r_iconst hC dL_law_1590 ⟨by decide, by decide⟩ ?_
  refine r_lald hC (n := 1) (v := o' 0) dL_law_1591 lJ_84 (by decide) (by decide) rfl ?_
  refine r_iload hC dL_law_1592 rfl ?_
  refine r_i2l hC dL_law_1594 ?_
  refine r_lcmp hC dL_law_1595 ?_
  exact r_if_eq hC (tgt := 1601) dL_law_1596 (by decide) (fun _ => r_goto hC (tgt := 1988) dL_law_1601 (by decide) (r_drop (kk _ _ _ hR2))) (fun g => absurd (by rw [hz2 g0]; exact lCmp_s _) g)
theorem case_26 {p : Program} {l : Launch} {e : Env} {s : State} {m : MethodId} {args : Array Value} {below : List Frame} {meth : Method} {c : Code} {Q : State → Prop} {cells slots : Nat} {D : va_G} {cA : Nat → ClassId} {ad : Nat → Nat} {A : Nat → Prop} {L0 i : Nat} {xs : Nat → Int32} {u v : St} {o : Nat → Int64} (hl : l.stackTraces = false) (hC : Cx p s m args c code 7 RL D cA ad A LJ) (hX : SCR s A ad L0 xs) (hnc : NcX s) (hL : L0 ≤ 3072) (hi : i + 6 ≤ L0) (hR : Rel u v) (hcs : cells + 3 ≤ 601024 ∧ slots + 18 ≤ 7293034) (kk : ∀ (u' v' : St) (o' : Nat → Int64), Rel u' v' → Wd p l e room_1 s m args below meth c Q (cells + 3) (slots + 18) 7 D cA ad A LJ (jN u' v' o') 1988 (lsL i) []) : Wd p l e room_1 s m args below meth c Q cells slots 7 D cA ad A LJ (jN u v o) 1604 (lsL i) [] := by
  refine r_aload_n hC 1 dL_law_1604 rfl rfl ?_
  refine r_aload_n hC 3 dL_law_1605 rfl rfl ?_
  refine r_widen (k := cells + 2) (n := slots + 12) (by omega) (by omega) ?_
  refine r_callSH hC [aR 0, aR 84] [] hnc dL_law_1606 ml_RL_191 myw_trade ms_L_trade rfl ⟨by decide, by decide⟩ ⟨by show _ ≤ 601024; omega, by show _ ≤ 7293034; omega⟩ (Nat.le_of_ble_eq_true rfl) rfl (H_trade hl hR ) (fun r w' hok hq => ?_)
  obtain ⟨k, rfl, u', o', rfl, hCn⟩ := hq
  refine r_wid (k := cells + 3) (n := slots + 18) (by omega) (by omega) ?_
  refine r_istore hC dL_law_1609 (by decide) rfl rfl ?_
  refine r_aload_n hC 2 dL_law_1611 rfl rfl ?_
  refine r_callV (k := 44) (as := []) (st2 := []) hC dL_law_1612 (Cn.liftM (as := [aR 0]) rfl rfl okI_nr hCn) ml_RL_193 my_X10_trade mi_X10_trade lJ_44 rfl rfl ⟨by decide, by decide⟩ ⟨by show _ ≤ 601024; omega, by show _ ≤ 7293034; omega⟩ (Nat.le_of_ble_eq_true rfl) rfl (fun r w' hq => ?_)
  obtain ⟨v', ⟨z2, rfl, hz, hz2, hR2⟩, rfl⟩ := hq
  refine r_istore hC dL_law_1615 (by decide) rfl rfl ?_
  refine r_aload_n hC 2 dL_law_1617 rfl rfl ?_
  refine r_callV (k := 44) (as := []) (st2 := []) hC dL_law_1618 (Cn.liftM (as := [aR 0]) rfl rfl okI_nr (s_M_thrown l v' (fun r => r = v'.1 0 0) rfl)) ml_RL_112 my_X10_thrown mi_X10_thrown lJ_44 rfl rfl ⟨by decide, by decide⟩ ⟨by show _ ≤ 601024; omega, by show _ ≤ 7293034; omega⟩ (Nat.le_of_ble_eq_true rfl) rfl (fun r w' hq => ?_)
  obtain ⟨v9, ⟨z3, rfl, rfl, hz3⟩, rfl⟩ := hq
  refine r_iload hC dL_law_1621 rfl ?_
  refine r_ic_eq hC (tgt := 1628) dL_law_1623 (by decide) (fun _ => ?_) (fun g => absurd (hz3.trans hz) g)
  refine r_iload hC dL_law_1628 rfl ?_
  refine r_if_ne hC (tgt := 1645) dL_law_1630 (by decide) (fun _ => r_goto hC (tgt := 1988) dL_law_1645 (by decide) (r_drop (kk _ _ _ hR2))) (fun g0 => ?_)
  refine r_aload_n hC 3 dL_law_1633 rfl rfl ?_
  refine r_iconst hC dL_law_1634 ⟨by decide, by decide⟩ ?_
  refine r_lald hC (n := 1) (v := o' 0) dL_law_1635 lJ_84 (by decide) (by decide) rfl ?_
  refine r_iload hC dL_law_1636 rfl ?_
  refine r_i2l hC dL_law_1638 ?_
  refine r_lcmp hC dL_law_1639 ?_
  exact r_if_eq hC (tgt := 1645) dL_law_1640 (by decide) (fun _ => r_goto hC (tgt := 1988) dL_law_1645 (by decide) (r_drop (kk _ _ _ hR2))) (fun g => absurd (by rw [hz2 g0]; exact lCmp_s _) g)
theorem case_27 {p : Program} {l : Launch} {e : Env} {s : State} {m : MethodId} {args : Array Value} {below : List Frame} {meth : Method} {c : Code} {Q : State → Prop} {cells slots : Nat} {D : va_G} {cA : Nat → ClassId} {ad : Nat → Nat} {A : Nat → Prop} {L0 i : Nat} {xs : Nat → Int32} {u v : St} {o : Nat → Int64} (hl : l.stackTraces = false) (hC : Cx p s m args c code 7 RL D cA ad A LJ) (hX : SCR s A ad L0 xs) (hnc : NcX s) (hL : L0 ≤ 3072) (hi : i + 6 ≤ L0) (hR : Rel u v) (hcs : cells + 3 ≤ 601024 ∧ slots + 18 ≤ 7293034) (kk : ∀ (u' v' : St) (o' : Nat → Int64), Rel u' v' → Wd p l e room_1 s m args below meth c Q (cells + 3) (slots + 18) 7 D cA ad A LJ (jN u' v' o') 1988 (lsL i) []) : Wd p l e room_1 s m args below meth c Q cells slots 7 D cA ad A LJ (jN u v o) 1648 (lsL i) [] := by
  refine r_widen (k := cells + 3) (n := slots + 18) (by omega) (by omega) ?_
  refine r_aload_n hC 1 dL_law_1648 rfl rfl ?_
  refine r_arg (k := 1) hC hX hL rfl rfl (by omega) dL_law_1649 dL_law_1650 dL_law_1652 dL_law_1653 dL_law_1654 ?_
  refine r_callV (k := 0) (as := [aI ((xs (i + 1)).toInt)]) (st2 := []) hC dL_law_1655 (Cn.liftX rfl rfl okI_nr (K_rank hR ((xs (i + 1)).toInt))) ml_RL_194 my_X9_rank mi_X9_rank lJ_0 rfl rfl ⟨by decide, by decide⟩ ⟨by show _ ≤ 601024; omega, by show _ ≤ 7293034; omega⟩ (Nat.le_of_ble_eq_true rfl) rfl (fun r w' hq => ?_)
  obtain ⟨u', ⟨z, rfl, hCn⟩, rfl⟩ := hq
  refine r_aload_n hC 2 dL_law_1658 rfl rfl ?_
  refine r_arg (k := 1) hC hX hL rfl rfl (by omega) dL_law_1659 dL_law_1660 dL_law_1662 dL_law_1663 dL_law_1664 ?_
  refine r_callV (k := 44) (as := [aI ((xs (i + 1)).toInt)]) (st2 := [aI z]) hC dL_law_1665 (Cn.liftM (as := [aR 0, aI ((xs (i + 1)).toInt)]) rfl rfl okI_nr hCn) ml_RL_197 my_X10_rank mi_X10_rank lJ_44 rfl rfl ⟨by decide, by decide⟩ ⟨by show _ ≤ 601024; omega, by show _ ≤ 7293034; omega⟩ (Nat.le_of_ble_eq_true rfl) rfl (fun r w' hq => ?_)
  obtain ⟨v', ⟨z2, rfl, hz, hR2⟩, rfl⟩ := hq
  exact r_ic_eq hC (tgt := 1988) dL_law_1668 (by decide) (fun _ => kk _ _ _ hR2) (fun g => absurd hz.symm g)
theorem case_28 {p : Program} {l : Launch} {e : Env} {s : State} {m : MethodId} {args : Array Value} {below : List Frame} {meth : Method} {c : Code} {Q : State → Prop} {cells slots : Nat} {D : va_G} {cA : Nat → ClassId} {ad : Nat → Nat} {A : Nat → Prop} {L0 i : Nat} {xs : Nat → Int32} {u v : St} {o : Nat → Int64} (hl : l.stackTraces = false) (hC : Cx p s m args c code 7 RL D cA ad A LJ) (hX : SCR s A ad L0 xs) (hnc : NcX s) (hL : L0 ≤ 3072) (hi : i + 6 ≤ L0) (hR : Rel u v) (hcs : cells + 3 ≤ 601024 ∧ slots + 18 ≤ 7293034) (kk : ∀ (u' v' : St) (o' : Nat → Int64), Rel u' v' → Wd p l e room_1 s m args below meth c Q (cells + 3) (slots + 18) 7 D cA ad A LJ (jN u' v' o') 1988 (lsL i) []) : Wd p l e room_1 s m args below meth c Q cells slots 7 D cA ad A LJ (jN u v o) 1673 (lsL i) [] := by
  refine r_aload_n hC 1 dL_law_1673 rfl rfl ?_
  refine r_arg (k := 1) hC hX hL rfl rfl (by omega) dL_law_1674 dL_law_1675 dL_law_1677 dL_law_1678 dL_law_1679 ?_
  refine r_aload_n hC 3 dL_law_1680 rfl rfl ?_
  refine r_widen (k := cells + 2) (n := slots + 12) (by omega) (by omega) ?_
  refine r_callSH hC [aR 0, aI ((xs (i + 1)).toInt), aR 84] [] hnc dL_law_1681 ml_RL_198 myw_need ms_L_need rfl ⟨by decide, by decide⟩ ⟨by show _ ≤ 601024; omega, by show _ ≤ 7293034; omega⟩ (Nat.le_of_ble_eq_true rfl) rfl (H_need hl hR ((xs (i + 1)).toInt)) (fun r w' hok hq => ?_)
  obtain ⟨k, rfl, u', o', rfl, hCn⟩ := hq
  refine r_wid (k := cells + 3) (n := slots + 18) (by omega) (by omega) ?_
  refine r_istore hC dL_law_1684 (by decide) rfl rfl ?_
  refine r_aload_n hC 2 dL_law_1686 rfl rfl ?_
  refine r_arg (k := 1) hC hX hL rfl rfl (by omega) dL_law_1687 dL_law_1688 dL_law_1690 dL_law_1691 dL_law_1692 ?_
  refine r_callV (k := 44) (as := [aI ((xs (i + 1)).toInt)]) (st2 := []) hC dL_law_1693 (Cn.liftM (as := [aR 0, aI ((xs (i + 1)).toInt)]) rfl rfl okI_nr hCn) ml_RL_200 my_X10_need mi_X10_need lJ_44 rfl rfl ⟨by decide, by decide⟩ ⟨by show _ ≤ 601024; omega, by show _ ≤ 7293034; omega⟩ (Nat.le_of_ble_eq_true rfl) rfl (fun r w' hq => ?_)
  obtain ⟨v', ⟨z2, rfl, hz, hz2, hR2⟩, rfl⟩ := hq
  refine r_istore hC dL_law_1696 (by decide) rfl rfl ?_
  refine r_aload_n hC 2 dL_law_1698 rfl rfl ?_
  refine r_callV (k := 44) (as := []) (st2 := []) hC dL_law_1699 (Cn.liftM (as := [aR 0]) rfl rfl okI_nr (s_M_thrown l v' (fun r => r = v'.1 0 0) rfl)) ml_RL_112 my_X10_thrown mi_X10_thrown lJ_44 rfl rfl ⟨by decide, by decide⟩ ⟨by show _ ≤ 601024; omega, by show _ ≤ 7293034; omega⟩ (Nat.le_of_ble_eq_true rfl) rfl (fun r w' hq => ?_)
  obtain ⟨v9, ⟨z3, rfl, rfl, hz3⟩, rfl⟩ := hq
  refine r_iload hC dL_law_1702 rfl ?_
  refine r_ic_eq hC (tgt := 1709) dL_law_1704 (by decide) (fun _ => ?_) (fun g => absurd (hz3.trans hz) g)
  refine r_iload hC dL_law_1709 rfl ?_
  refine r_if_ne hC (tgt := 1726) dL_law_1711 (by decide) (fun _ => r_goto hC (tgt := 1988) dL_law_1726 (by decide) (r_drop (kk _ _ _ hR2))) (fun g0 => ?_)
  refine r_aload_n hC 3 dL_law_1714 rfl rfl ?_
  refine r_iconst hC dL_law_1715 ⟨by decide, by decide⟩ ?_
  refine r_lald hC (n := 1) (v := o' 0) dL_law_1716 lJ_84 (by decide) (by decide) rfl ?_
  refine r_iload hC dL_law_1717 rfl ?_
  refine r_i2l hC dL_law_1719 ?_
  refine r_lcmp hC dL_law_1720 ?_
  exact r_if_eq hC (tgt := 1726) dL_law_1721 (by decide) (fun _ => r_goto hC (tgt := 1988) dL_law_1726 (by decide) (r_drop (kk _ _ _ hR2))) (fun g => absurd (by rw [hz2 g0]; exact lCmp_s _) g)
theorem case_29 {p : Program} {l : Launch} {e : Env} {s : State} {m : MethodId} {args : Array Value} {below : List Frame} {meth : Method} {c : Code} {Q : State → Prop} {cells slots : Nat} {D : va_G} {cA : Nat → ClassId} {ad : Nat → Nat} {A : Nat → Prop} {L0 i : Nat} {xs : Nat → Int32} {u v : St} {o : Nat → Int64} (hl : l.stackTraces = false) (hC : Cx p s m args c code 7 RL D cA ad A LJ) (hX : SCR s A ad L0 xs) (hnc : NcX s) (hL : L0 ≤ 3072) (hi : i + 6 ≤ L0) (hR : Rel u v) (hcs : cells + 3 ≤ 601024 ∧ slots + 18 ≤ 7293034) (kk : ∀ (u' v' : St) (o' : Nat → Int64), Rel u' v' → Wd p l e room_1 s m args below meth c Q (cells + 3) (slots + 18) 7 D cA ad A LJ (jN u' v' o') 1988 (lsL i) []) : Wd p l e room_1 s m args below meth c Q cells slots 7 D cA ad A LJ (jN u v o) 1729 (lsL i) [] := by
  refine r_aload_n hC 1 dL_law_1729 rfl rfl ?_
  refine r_arg (k := 1) hC hX hL rfl rfl (by omega) dL_law_1730 dL_law_1731 dL_law_1733 dL_law_1734 dL_law_1735 ?_
  refine r_aload_n hC 3 dL_law_1736 rfl rfl ?_
  refine r_widen (k := cells + 2) (n := slots + 12) (by omega) (by omega) ?_
  refine r_callSH hC [aR 0, aI ((xs (i + 1)).toInt), aR 84] [] hnc dL_law_1737 ml_RL_201 myw_loss ms_L_loss rfl ⟨by decide, by decide⟩ ⟨by show _ ≤ 601024; omega, by show _ ≤ 7293034; omega⟩ (Nat.le_of_ble_eq_true rfl) rfl (H_loss hl hR ((xs (i + 1)).toInt)) (fun r w' hok hq => ?_)
  obtain ⟨k, rfl, u', o', rfl, hCn⟩ := hq
  refine r_wid (k := cells + 3) (n := slots + 18) (by omega) (by omega) ?_
  refine r_istore hC dL_law_1740 (by decide) rfl rfl ?_
  refine r_aload_n hC 2 dL_law_1742 rfl rfl ?_
  refine r_arg (k := 1) hC hX hL rfl rfl (by omega) dL_law_1743 dL_law_1744 dL_law_1746 dL_law_1747 dL_law_1748 ?_
  refine r_callV (k := 44) (as := [aI ((xs (i + 1)).toInt)]) (st2 := []) hC dL_law_1749 (Cn.liftM (as := [aR 0, aI ((xs (i + 1)).toInt)]) rfl rfl okI_nr hCn) ml_RL_203 my_X10_loss mi_X10_loss lJ_44 rfl rfl ⟨by decide, by decide⟩ ⟨by show _ ≤ 601024; omega, by show _ ≤ 7293034; omega⟩ (Nat.le_of_ble_eq_true rfl) rfl (fun r w' hq => ?_)
  obtain ⟨v', ⟨z2, rfl, hz, hz2, hR2⟩, rfl⟩ := hq
  refine r_istore hC dL_law_1752 (by decide) rfl rfl ?_
  refine r_aload_n hC 2 dL_law_1754 rfl rfl ?_
  refine r_callV (k := 44) (as := []) (st2 := []) hC dL_law_1755 (Cn.liftM (as := [aR 0]) rfl rfl okI_nr (s_M_thrown l v' (fun r => r = v'.1 0 0) rfl)) ml_RL_112 my_X10_thrown mi_X10_thrown lJ_44 rfl rfl ⟨by decide, by decide⟩ ⟨by show _ ≤ 601024; omega, by show _ ≤ 7293034; omega⟩ (Nat.le_of_ble_eq_true rfl) rfl (fun r w' hq => ?_)
  obtain ⟨v9, ⟨z3, rfl, rfl, hz3⟩, rfl⟩ := hq
  refine r_iload hC dL_law_1758 rfl ?_
  refine r_ic_eq hC (tgt := 1765) dL_law_1760 (by decide) (fun _ => ?_) (fun g => absurd (hz3.trans hz) g)
  refine r_iload hC dL_law_1765 rfl ?_
  refine r_if_ne hC (tgt := 1782) dL_law_1767 (by decide) (fun _ => r_goto hC (tgt := 1988) dL_law_1782 (by decide) (r_drop (kk _ _ _ hR2))) (fun g0 => ?_)
  refine r_aload_n hC 3 dL_law_1770 rfl rfl ?_
  refine r_iconst hC dL_law_1771 ⟨by decide, by decide⟩ ?_
  refine r_lald hC (n := 1) (v := o' 0) dL_law_1772 lJ_84 (by decide) (by decide) rfl ?_
  refine r_iload hC dL_law_1773 rfl ?_
  refine r_i2l hC dL_law_1775 ?_
  refine r_lcmp hC dL_law_1776 ?_
  exact r_if_eq hC (tgt := 1782) dL_law_1777 (by decide) (fun _ => r_goto hC (tgt := 1988) dL_law_1782 (by decide) (r_drop (kk _ _ _ hR2))) (fun g => absurd (by rw [hz2 g0]; exact lCmp_s _) g)
theorem case_30 {p : Program} {l : Launch} {e : Env} {s : State} {m : MethodId} {args : Array Value} {below : List Frame} {meth : Method} {c : Code} {Q : State → Prop} {cells slots : Nat} {D : va_G} {cA : Nat → ClassId} {ad : Nat → Nat} {A : Nat → Prop} {L0 i : Nat} {xs : Nat → Int32} {u v : St} {o : Nat → Int64} (hl : l.stackTraces = false) (hC : Cx p s m args c code 7 RL D cA ad A LJ) (hX : SCR s A ad L0 xs) (hnc : NcX s) (hL : L0 ≤ 3072) (hi : i + 6 ≤ L0) (hR : Rel u v) (hcs : cells + 3 ≤ 601024 ∧ slots + 18 ≤ 7293034) (kk : ∀ (u' v' : St) (o' : Nat → Int64), Rel u' v' → Wd p l e room_1 s m args below meth c Q (cells + 3) (slots + 18) 7 D cA ad A LJ (jN u' v' o') 1988 (lsL i) []) : Wd p l e room_1 s m args below meth c Q cells slots 7 D cA ad A LJ (jN u v o) 1785 (lsL i) [] := by
  refine r_aload_n hC 1 dL_law_1785 rfl rfl ?_
  refine r_arg (k := 1) hC hX hL rfl rfl (by omega) dL_law_1786 dL_law_1787 dL_law_1789 dL_law_1790 dL_law_1791 ?_
  refine r_aload_n hC 3 dL_law_1792 rfl rfl ?_
  refine r_widen (k := cells + 2) (n := slots + 12) (by omega) (by omega) ?_
  refine r_callSH hC [aR 0, aI ((xs (i + 1)).toInt), aR 84] [] hnc dL_law_1793 ml_RL_204 myw_quote ms_L_quote rfl ⟨by decide, by decide⟩ ⟨by show _ ≤ 601024; omega, by show _ ≤ 7293034; omega⟩ (Nat.le_of_ble_eq_true rfl) rfl (H_quote hl hR ((xs (i + 1)).toInt)) (fun r w' hok hq => ?_)
  obtain ⟨k, rfl, u', o', rfl, hCn⟩ := hq
  refine r_wid (k := cells + 3) (n := slots + 18) (by omega) (by omega) ?_
  refine r_istore hC dL_law_1796 (by decide) rfl rfl ?_
  refine r_aload_n hC 2 dL_law_1798 rfl rfl ?_
  refine r_arg (k := 1) hC hX hL rfl rfl (by omega) dL_law_1799 dL_law_1800 dL_law_1802 dL_law_1803 dL_law_1804 ?_
  refine r_callV (k := 44) (as := [aI ((xs (i + 1)).toInt)]) (st2 := []) hC dL_law_1805 (Cn.liftM (as := [aR 0, aI ((xs (i + 1)).toInt)]) rfl rfl okI_nr hCn) ml_RL_206 my_X10_quote mi_X10_quote lJ_44 rfl rfl ⟨by decide, by decide⟩ ⟨by show _ ≤ 601024; omega, by show _ ≤ 7293034; omega⟩ (Nat.le_of_ble_eq_true rfl) rfl (fun r w' hq => ?_)
  obtain ⟨v', ⟨z2, rfl, hz, hz2, hR2⟩, rfl⟩ := hq
  refine r_istore hC dL_law_1808 (by decide) rfl rfl ?_
  refine r_aload_n hC 2 dL_law_1810 rfl rfl ?_
  refine r_callV (k := 44) (as := []) (st2 := []) hC dL_law_1811 (Cn.liftM (as := [aR 0]) rfl rfl okI_nr (s_M_thrown l v' (fun r => r = v'.1 0 0) rfl)) ml_RL_112 my_X10_thrown mi_X10_thrown lJ_44 rfl rfl ⟨by decide, by decide⟩ ⟨by show _ ≤ 601024; omega, by show _ ≤ 7293034; omega⟩ (Nat.le_of_ble_eq_true rfl) rfl (fun r w' hq => ?_)
  obtain ⟨v9, ⟨z3, rfl, rfl, hz3⟩, rfl⟩ := hq
  refine r_iload hC dL_law_1814 rfl ?_
  refine r_ic_eq hC (tgt := 1821) dL_law_1816 (by decide) (fun _ => ?_) (fun g => absurd (hz3.trans hz) g)
  refine r_iload hC dL_law_1821 rfl ?_
  refine r_if_ne hC (tgt := 1838) dL_law_1823 (by decide) (fun _ => r_goto hC (tgt := 1988) dL_law_1838 (by decide) (r_drop (kk _ _ _ hR2))) (fun g0 => ?_)
  refine r_aload_n hC 3 dL_law_1826 rfl rfl ?_
  refine r_iconst hC dL_law_1827 ⟨by decide, by decide⟩ ?_
  refine r_lald hC (n := 1) (v := o' 0) dL_law_1828 lJ_84 (by decide) (by decide) rfl ?_
  refine r_iload hC dL_law_1829 rfl ?_
  refine r_i2l hC dL_law_1831 ?_
  refine r_lcmp hC dL_law_1832 ?_
  exact r_if_eq hC (tgt := 1838) dL_law_1833 (by decide) (fun _ => r_goto hC (tgt := 1988) dL_law_1838 (by decide) (r_drop (kk _ _ _ hR2))) (fun g => absurd (by rw [hz2 g0]; exact lCmp_s _) g)
theorem case_31 {p : Program} {l : Launch} {e : Env} {s : State} {m : MethodId} {args : Array Value} {below : List Frame} {meth : Method} {c : Code} {Q : State → Prop} {cells slots : Nat} {D : va_G} {cA : Nat → ClassId} {ad : Nat → Nat} {A : Nat → Prop} {L0 i : Nat} {xs : Nat → Int32} {u v : St} {o : Nat → Int64} (hl : l.stackTraces = false) (hC : Cx p s m args c code 7 RL D cA ad A LJ) (hX : SCR s A ad L0 xs) (hnc : NcX s) (hL : L0 ≤ 3072) (hi : i + 6 ≤ L0) (hR : Rel u v) (hcs : cells + 3 ≤ 601024 ∧ slots + 18 ≤ 7293034) (kk : ∀ (u' v' : St) (o' : Nat → Int64), Rel u' v' → Wd p l e room_1 s m args below meth c Q (cells + 3) (slots + 18) 7 D cA ad A LJ (jN u' v' o') 1988 (lsL i) []) : Wd p l e room_1 s m args below meth c Q cells slots 7 D cA ad A LJ (jN u v o) 1841 (lsL i) [] := by
  refine r_aload_n hC 1 dL_law_1841 rfl rfl ?_
  refine r_arg (k := 1) hC hX hL rfl rfl (by omega) dL_law_1842 dL_law_1843 dL_law_1845 dL_law_1846 dL_law_1847 ?_
  refine r_aload_n hC 3 dL_law_1848 rfl rfl ?_
  refine r_widen (k := cells + 2) (n := slots + 12) (by omega) (by omega) ?_
  refine r_callSH hC [aR 0, aI ((xs (i + 1)).toInt), aR 84] [] hnc dL_law_1849 ml_RL_207 myw_write ms_L_write rfl ⟨by decide, by decide⟩ ⟨by show _ ≤ 601024; omega, by show _ ≤ 7293034; omega⟩ (Nat.le_of_ble_eq_true rfl) rfl (H_write hl hR ((xs (i + 1)).toInt)) (fun r w' hok hq => ?_)
  obtain ⟨k, rfl, u', o', rfl, hCn⟩ := hq
  refine r_wid (k := cells + 3) (n := slots + 18) (by omega) (by omega) ?_
  refine r_istore hC dL_law_1852 (by decide) rfl rfl ?_
  refine r_aload_n hC 2 dL_law_1854 rfl rfl ?_
  refine r_arg (k := 1) hC hX hL rfl rfl (by omega) dL_law_1855 dL_law_1856 dL_law_1858 dL_law_1859 dL_law_1860 ?_
  refine r_callV (k := 44) (as := [aI ((xs (i + 1)).toInt)]) (st2 := []) hC dL_law_1861 (Cn.liftM (as := [aR 0, aI ((xs (i + 1)).toInt)]) rfl rfl okI_nr hCn) ml_RL_209 my_X10_write mi_X10_write lJ_44 rfl rfl ⟨by decide, by decide⟩ ⟨by show _ ≤ 601024; omega, by show _ ≤ 7293034; omega⟩ (Nat.le_of_ble_eq_true rfl) rfl (fun r w' hq => ?_)
  obtain ⟨v', ⟨z2, rfl, hz, hz2, hR2⟩, rfl⟩ := hq
  refine r_istore hC dL_law_1864 (by decide) rfl rfl ?_
  refine r_aload_n hC 2 dL_law_1866 rfl rfl ?_
  refine r_callV (k := 44) (as := []) (st2 := []) hC dL_law_1867 (Cn.liftM (as := [aR 0]) rfl rfl okI_nr (s_M_thrown l v' (fun r => r = v'.1 0 0) rfl)) ml_RL_112 my_X10_thrown mi_X10_thrown lJ_44 rfl rfl ⟨by decide, by decide⟩ ⟨by show _ ≤ 601024; omega, by show _ ≤ 7293034; omega⟩ (Nat.le_of_ble_eq_true rfl) rfl (fun r w' hq => ?_)
  obtain ⟨v9, ⟨z3, rfl, rfl, hz3⟩, rfl⟩ := hq
  refine r_iload hC dL_law_1870 rfl ?_
  refine r_ic_eq hC (tgt := 1877) dL_law_1872 (by decide) (fun _ => ?_) (fun g => absurd (hz3.trans hz) g)
  refine r_iload hC dL_law_1877 rfl ?_
  refine r_if_ne hC (tgt := 1894) dL_law_1879 (by decide) (fun _ => r_goto hC (tgt := 1988) dL_law_1894 (by decide) (r_drop (kk _ _ _ hR2))) (fun g0 => ?_)
  refine r_aload_n hC 3 dL_law_1882 rfl rfl ?_
  refine r_iconst hC dL_law_1883 ⟨by decide, by decide⟩ ?_
  refine r_lald hC (n := 1) (v := o' 0) dL_law_1884 lJ_84 (by decide) (by decide) rfl ?_
  refine r_iload hC dL_law_1885 rfl ?_
  refine r_i2l hC dL_law_1887 ?_
  refine r_lcmp hC dL_law_1888 ?_
  exact r_if_eq hC (tgt := 1894) dL_law_1889 (by decide) (fun _ => r_goto hC (tgt := 1988) dL_law_1894 (by decide) (r_drop (kk _ _ _ hR2))) (fun g => absurd (by rw [hz2 g0]; exact lCmp_s _) g)
theorem case_32 {p : Program} {l : Launch} {e : Env} {s : State} {m : MethodId} {args : Array Value} {below : List Frame} {meth : Method} {c : Code} {Q : State → Prop} {cells slots : Nat} {D : va_G} {cA : Nat → ClassId} {ad : Nat → Nat} {A : Nat → Prop} {L0 i : Nat} {xs : Nat → Int32} {u v : St} {o : Nat → Int64} (hl : l.stackTraces = false) (hC : Cx p s m args c code 7 RL D cA ad A LJ) (hX : SCR s A ad L0 xs) (hnc : NcX s) (hL : L0 ≤ 3072) (hi : i + 6 ≤ L0) (hR : Rel u v) (hcs : cells + 3 ≤ 601024 ∧ slots + 18 ≤ 7293034) (kk : ∀ (u' v' : St) (o' : Nat → Int64), Rel u' v' → Wd p l e room_1 s m args below meth c Q (cells + 3) (slots + 18) 7 D cA ad A LJ (jN u' v' o') 1988 (lsL i) []) : Wd p l e room_1 s m args below meth c Q cells slots 7 D cA ad A LJ (jN u v o) 1897 (lsL i) [] := by
  refine r_widen (k := cells + 3) (n := slots + 18) (by omega) (by omega) ?_
  refine r_aload_n hC 1 dL_law_1897 rfl rfl ?_
  refine r_arg (k := 1) hC hX hL rfl rfl (by omega) dL_law_1898 dL_law_1899 dL_law_1901 dL_law_1902 dL_law_1903 ?_
  refine r_callV (k := 0) (as := [aI ((xs (i + 1)).toInt)]) (st2 := []) hC dL_law_1904 (Cn.liftX rfl rfl okI_nr (K_octet hR ((xs (i + 1)).toInt))) ml_RL_210 my_X9_octet mi_X9_octet lJ_0 rfl rfl ⟨by decide, by decide⟩ ⟨by show _ ≤ 601024; omega, by show _ ≤ 7293034; omega⟩ (Nat.le_of_ble_eq_true rfl) rfl (fun r w' hq => ?_)
  obtain ⟨u', ⟨z, rfl, hCn⟩, rfl⟩ := hq
  refine r_aload_n hC 2 dL_law_1907 rfl rfl ?_
  refine r_arg (k := 1) hC hX hL rfl rfl (by omega) dL_law_1908 dL_law_1909 dL_law_1911 dL_law_1912 dL_law_1913 ?_
  refine r_callV (k := 44) (as := [aI ((xs (i + 1)).toInt)]) (st2 := [aI z]) hC dL_law_1914 (Cn.liftM (as := [aR 0, aI ((xs (i + 1)).toInt)]) rfl rfl okI_nr hCn) ml_RL_213 my_X10_octet mi_X10_octet lJ_44 rfl rfl ⟨by decide, by decide⟩ ⟨by show _ ≤ 601024; omega, by show _ ≤ 7293034; omega⟩ (Nat.le_of_ble_eq_true rfl) rfl (fun r w' hq => ?_)
  obtain ⟨v', ⟨z2, rfl, hz, hR2⟩, rfl⟩ := hq
  exact r_ic_eq hC (tgt := 1988) dL_law_1917 (by decide) (fun _ => kk _ _ _ hR2) (fun g => absurd hz.symm g)
theorem case_33 {p : Program} {l : Launch} {e : Env} {s : State} {m : MethodId} {args : Array Value} {below : List Frame} {meth : Method} {c : Code} {Q : State → Prop} {cells slots : Nat} {D : va_G} {cA : Nat → ClassId} {ad : Nat → Nat} {A : Nat → Prop} {L0 i : Nat} {xs : Nat → Int32} {u v : St} {o : Nat → Int64} (hl : l.stackTraces = false) (hC : Cx p s m args c code 7 RL D cA ad A LJ) (hX : SCR s A ad L0 xs) (hnc : NcX s) (hL : L0 ≤ 3072) (hi : i + 6 ≤ L0) (hR : Rel u v) (hcs : cells + 3 ≤ 601024 ∧ slots + 18 ≤ 7293034) (kk : ∀ (u' v' : St) (o' : Nat → Int64), Rel u' v' → Wd p l e room_1 s m args below meth c Q (cells + 3) (slots + 18) 7 D cA ad A LJ (jN u' v' o') 1988 (lsL i) []) : Wd p l e room_1 s m args below meth c Q cells slots 7 D cA ad A LJ (jN u v o) 1922 (lsL i) [] := by
  refine r_widen (k := cells + 3) (n := slots + 18) (by omega) (by omega) ?_
  refine r_aload_n hC 1 dL_law_1922 rfl rfl ?_
  refine r_barg (k := 1) hC hX hL rfl rfl (by omega) dL_law_1923 dL_law_1924 dL_law_1926 dL_law_1927 dL_law_1928 dL_law_1929 dL_law_1932 dL_law_1933 dL_law_1936 ?_
  refine r_callV (k := 0) (as := [aI (bZ (xs (i + 1)).toInt)]) (st2 := []) hC dL_law_1937 (Cn.liftX rfl rfl okI_nr (K_marks hR (bZ (xs (i + 1)).toInt))) ml_RL_214 my_X9_marks mi_X9_marks lJ_0 rfl rfl ⟨by decide, by decide⟩ ⟨by show _ ≤ 601024; omega, by show _ ≤ 7293034; omega⟩ (Nat.le_of_ble_eq_true rfl) rfl (fun r w' hq => ?_)
  obtain ⟨u', ⟨z, rfl, hCn⟩, rfl⟩ := hq
  refine r_aload_n hC 2 dL_law_1940 rfl rfl ?_
  refine r_barg (k := 1) hC hX hL rfl rfl (by omega) dL_law_1941 dL_law_1942 dL_law_1944 dL_law_1945 dL_law_1946 dL_law_1947 dL_law_1950 dL_law_1951 dL_law_1954 ?_
  refine r_callV (k := 44) (as := [aI (bZ (xs (i + 1)).toInt)]) (st2 := [aI z]) hC dL_law_1955 (Cn.liftM (as := [aR 0, aI (bZ (xs (i + 1)).toInt)]) rfl rfl okI_nr hCn) ml_RL_217 my_X10_marks mi_X10_marks lJ_44 rfl rfl ⟨by decide, by decide⟩ ⟨by show _ ≤ 601024; omega, by show _ ≤ 7293034; omega⟩ (Nat.le_of_ble_eq_true rfl) rfl (fun r w' hq => ?_)
  obtain ⟨v', ⟨z2, rfl, hz, hR2⟩, rfl⟩ := hq
  exact r_ic_eq hC (tgt := 1988) dL_law_1958 (by decide) (fun _ => kk _ _ _ hR2) (fun g => absurd hz.symm g)
theorem case_34 {p : Program} {l : Launch} {e : Env} {s : State} {m : MethodId} {args : Array Value} {below : List Frame} {meth : Method} {c : Code} {Q : State → Prop} {cells slots : Nat} {D : va_G} {cA : Nat → ClassId} {ad : Nat → Nat} {A : Nat → Prop} {L0 i : Nat} {xs : Nat → Int32} {u v : St} {o : Nat → Int64} (hl : l.stackTraces = false) (hC : Cx p s m args c code 7 RL D cA ad A LJ) (hX : SCR s A ad L0 xs) (hnc : NcX s) (hL : L0 ≤ 3072) (hi : i + 6 ≤ L0) (hR : Rel u v) (hcs : cells + 3 ≤ 601024 ∧ slots + 18 ≤ 7293034) (kk : ∀ (u' v' : St) (o' : Nat → Int64), Rel u' v' → Wd p l e room_1 s m args below meth c Q (cells + 3) (slots + 18) 7 D cA ad A LJ (jN u' v' o') 1988 (lsL i) []) : Wd p l e room_1 s m args below meth c Q cells slots 7 D cA ad A LJ (jN u v o) 1963 (lsL i) [] := by
  refine r_widen (k := cells + 3) (n := slots + 18) (by omega) (by omega) ?_
  refine r_aload_n hC 1 dL_law_1963 rfl rfl ?_
  refine r_arg (k := 1) hC hX hL rfl rfl (by omega) dL_law_1964 dL_law_1965 dL_law_1967 dL_law_1968 dL_law_1969 ?_
  refine r_callV (k := 0) (as := [aI ((xs (i + 1)).toInt)]) (st2 := []) hC dL_law_1970 (Cn.liftX rfl rfl okI_nr (K_count hR ((xs (i + 1)).toInt))) ml_RL_218 my_X9_count mi_X9_count lJ_0 rfl rfl ⟨by decide, by decide⟩ ⟨by show _ ≤ 601024; omega, by show _ ≤ 7293034; omega⟩ (Nat.le_of_ble_eq_true rfl) rfl (fun r w' hq => ?_)
  obtain ⟨u', ⟨z, rfl, hCn⟩, rfl⟩ := hq
  refine r_aload_n hC 2 dL_law_1973 rfl rfl ?_
  refine r_arg (k := 1) hC hX hL rfl rfl (by omega) dL_law_1974 dL_law_1975 dL_law_1977 dL_law_1978 dL_law_1979 ?_
  refine r_callV (k := 44) (as := [aI ((xs (i + 1)).toInt)]) (st2 := [aI z]) hC dL_law_1980 (Cn.liftM (as := [aR 0, aI ((xs (i + 1)).toInt)]) rfl rfl okI_nr hCn) ml_RL_221 my_X10_count mi_X10_count lJ_44 rfl rfl ⟨by decide, by decide⟩ ⟨by show _ ≤ 601024; omega, by show _ ≤ 7293034; omega⟩ (Nat.le_of_ble_eq_true rfl) rfl (fun r w' hq => ?_)
  obtain ⟨v', ⟨z2, rfl, hz, hR2⟩, rfl⟩ := hq
  exact r_ic_eq hC (tgt := 1988) dL_law_1983 (by decide) (fun _ => kk _ _ _ hR2) (fun g => absurd hz.symm g)
