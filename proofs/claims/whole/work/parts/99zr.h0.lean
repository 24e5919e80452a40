/-! H0: the law's helpers: contracts of methods with handlers; the script -/
def ncT : List (Nat × Nat) := [(3, 2), (2, 1), (3, 1), (4, 1)]
def NcX (U : State) : Prop := ∀ q ∈ ncT, va_Nc (exN q.1) (exN q.2) U
theorem NcX.moved {u U : State} (h : u.vm.Alike U.vm) (g : NcX u) : NcX U := fun q hq => va_Nc.moved h (g q hq)
def noX : Nat → St → Prop := fun _ _ => False
def Ch (l : Launch) (y : MethodName) (cc : ByteArray) (nL : Nat) (ret : Option FieldType) (hh : List (Nat × Nat × Nat × Nat)) (d mc : Nat) (L : List LC) (w : St) (as : List AV) (ok : Option AV → St → Prop) : Prop :=
  ∀ (D : va_G) (cA : Nat → ClassId) (ad : Nat → Nat) (A : Nat → Prop), okS as → vx_Met l y (Cond.codeWith y cc nL ret hh :: gw) (rmT d mc) (fun v U => v = (as.map (cv ad)).toArray ∧ World D cA ad A L w U ∧ NcX U) (QcW D cA ad A L ok) (XcW D cA ad A L noX) mc (6 * mc) A
def MYw (y : MethodName) (cc : ByteArray) (nL : Nat) (ret : Option FieldType) (hh : List (Nat × Nat × Nat × Nat)) (n : Nat) : Prop := Cond.initialized y.cls ∈ gw ∧ Cond.codeWith y cc nL ret hh ∈ gw ∧ y.cls ≠ "java/lang/invoke/MethodHandle" ∧ y.cls ≠ "java/lang/invoke/VarHandle" ∧ (parseMethodDescriptor y.desc).map (fun d => d.parameters.length) = some n ∧ plainName y.cls = true
section RH
variable {p : Program} {l : Launch} {e : Env} {R : Room} {s : State} {m : MethodId} {args : Array Value} {below : List Frame} {meth : Method} {c : Code} {Q : State → Prop} {cells slots nL : Nat} {D : va_G} {cA : Nat → ClassId} {ad : Nat → Nat} {A : Nat → Prop} {L : List LC} {w : St} {pc : Nat} {ls : List (Option AV)} {st : List AV} {cc : ByteArray} {own : String}
theorem Ch.of {y : MethodName} {d mc : Nat} {ret : Option FieldType} {hh : List (Nat × Nat × Nat × Nat)} {as : List AV} {ok : Option AV → St → Prop} (ls0 : List (Option AV)) (hy : plainName y.cls = true) (hsz : (argL as).length ≤ nL) (hls : padL nL (argL as) = ls0)
    (body : ∀ (p : Program) (e : Env) (s : State) (m : MethodId) (args : Array Value) (below : List Frame) (meth : Method) (c : Code) (D : va_G) (cA : Nat → ClassId) (ad : Nat → Nat) (A : Nat → Prop) (Q : State → Prop), Q = vx_MQ below (QcW D cA ad A L ok) (XcW D cA ad A L noX) args s mc (6 * mc) A → Cx p s m args c cc nL y.cls D cA ad A L → meth.sig.returnType = ret → meth.locks = false → c.exceptionTable.toList = tableOf hh → NcX s → okS as → Wd p l e (rmT d mc) s m args below meth c Q 0 0 nL D cA ad A L w 0 ls0 []) : Ch l y cc nL ret hh d mc L w as ok := by
  intro D cA ad A hoks
  refine vx_ofWH (cc := cc) (maxL := nL) (ret := ret) (hh := hh) hy rfl ?_
  intro p e s m args below meth c s₁ B hml hv
  obtain ⟨rfl, hW, hnc⟩ := hv
  have hts := atoms_spec (ws := Cond.codeWith y cc nL ret hh :: gw) B.pre
  have hown : s.vm.findClass y.cls = some m.cls := findClass_of_methodNamed B.named
  have htb := vx_table (x := y) B (hts _ List.mem_cons_self)
  have hl := lv_entry (as.map (cv ad)) (n := nL) (by rw [argL_sz]; exact hsz)
  rw [lg_entry_eq]
  generalize (lg_sl (as.map (cv ad)) ++ List.replicate (nL - (lg_sl (as.map (cv ad))).length) Slot.unset).toArray = la at hl ⊢
  subst hls
  exact body p e s m _ below meth c D cA ad A _ rfl ⟨B.exec, B.bytes, hml, hown, fun w9 h9 => hts w9 (List.mem_cons_of_mem _ h9), hW.2.2.1, hW.2.2.2.1, hW.2.2.2.2.1, hW.2.2.2.2.2.1, hW.2.2.2.2.2.2⟩ B.returns B.notSynchronized htb hnc hoks s.heap [] la hW.1 (fun i v hv => argL_ok hoks i v (padL_at hv)) (fun v hv => by cases hv) hW.2.1 va_S.rf ⟨hl.1, hl.2.1, fun i v hv => hl.2.2 (i, cv ad v) (by have h9 := argL_args ad as 0 i v (padL_at hv); rw [Nat.zero_add] at h9; exact h9)⟩
/-- what a handler must do with an exception -/
def HND (p : Program) (l : Launch) (e : Env) (R : Room) (s : State) (m : MethodId) (args : Array Value) (below : List Frame) (meth : Method) (c : Code) (Q : State → Prop) (cells slots nL : Nat) (D : va_G) (cA : Nat → ClassId) (ad : Nat → Nat) (A : Nat → Prop) (L : List LC) (w' : St) (hp : Nat) : Prop :=
  ∀ (H1 : Heap) (locs1 : List Loc) (la : Array Slot) (q9 : Nat), okP (pj w' 0 L) → va_P D vwCl (wsP ad cA 0 (pj w' 0 L)) H1 → va_S A s.heap H1 locs1 → la.size = nL ∧ lv_wf la → W p l e R s m args below meth c H1 locs1 cells slots Q (F0 m hp la [.ref q9])
/-- which handler catches: those ahead of it don't -/
def CTH (own : String) (hh : List (Nat × Nat × Nat × Nat)) (pc x hp : Nat) : Prop := ∃ (pre suf : List (Nat × Nat × Nat × Nat)) (a b ct : Nat), hh = pre ++ (a, b, hp, ct) :: suf ∧ (∀ z ∈ pre, z.2.2.2 ≠ 0 ∧ ∃ x9, Cond.classLink own z.2.2.2 (exN x9) ∈ gw ∧ (x, x9) ∈ ncT) ∧ covers (⟨a, b, hp, ct⟩ : ExceptionTableEntry) pc = true ∧ ct ≠ 0 ∧ Cond.classLink own ct (exN x) ∈ gw ∧ Cond.castable (exN x) (exN x) ∈ nw
theorem r_callTVH (hC : Cx p s m args c cc nL own D cA ad A L) {y : MethodName} {cc2 : ByteArray} {nL2 d mc2 n idx : Nat} {ret : Option FieldType} {hh : List (Nat × Nat × Nat × Nat)} (as st2 : List AV) {ok2 : Option AV → St → Prop} {ex2 : Nat → St → Prop} {k ci N : Nat} {T : u_T} {fs : List (Nat ⊕ Option Nat)} (htb : c.exceptionTable.toList = tableOf hh) (hnc : NcX s) (hd : decode cc pc = .ok (.invokevirtual idx, 3)) (hlk : Cond.methodLink own idx y ∈ gw) (hm : MY y cc2 nL2 ret n) (hi : MI y) (hk : L[k]? = some (.inl (ci, fs))) (hc : vwCl[ci]? = some (y.cls, T, N)) (hn : as.length = n) (hR : d + 1 ≤ R.frames ∧ 8 + (nL2 + 11) + 40 * d ≤ R.locals) (hcs : cells + mc2 ≤ R.cells ∧ slots + 6 * mc2 ≤ R.slots) (h8 : rsum st2 ≤ 8) (hst : st = as.reverse ++ (aR k :: st2)) (hM : Ct l y cc2 nL2 ret d mc2 L w (aR k :: as) ok2 ex2) (kx : ∀ (x : Nat) (w' : St), ex2 x w' → ∃ hp, CTH own hh pc x hp ∧ HND p l e R s m args below meth c Q (cells + mc2) (slots + 6 * mc2) nL D cA ad A L w' hp) (kk : ∀ (r : Option AV) (w' : St), (∀ v, r = some v → okv v) → ok2 r w' → Wd p l e R s m args below meth c Q (cells + mc2) (slots + 6 * mc2) nL D cA ad A L w' (pc + 3) ls (r.toList ++ st2)) : Wd p l e R s m args below meth c Q cells slots nL D cA ad A L w (pc) (ls) (st) := by
  intro H locs la o1 o2 o3 hP hS hl
  have ha : okS (aR k :: as) := okS_c trivial (fun v hv => o3 v (by rw [hst]; exact List.mem_append_left _ (List.mem_reverse.mpr hv)))
  refine q_runT (vx_runV (C := y.cls) (b := ad k) (As := as.map (cv ad)) (rest := st2.map (cv ad)) ⟨hC.1, hC.2.1, hC.2.2.1, hC.2.2.2.1, hC.2.2.2.2.1⟩ (hM D cA ad A ha) (cwV (C := y.cls) n hC.2.2.2.2.1 (gw_V hlk hi.1 hi.2 hm.1 hm.2.1) rfl rfl rfl ⟨rfl, hm.2.2.1, hm.2.2.2.1, hm.2.2.2.2.1⟩ hR)
    ⟨fun a U g mk q => ⟨q.1, World.blind g mk a q.2⟩, va_recv hC.2.2.2.2.2.1 hP hc (ws_at w hk), fun U hU hW => ⟨rfl, World.pre hC o1 hP hS hU hW⟩⟩ rfl (by rw [List.length_map]; exact hn) hl.1 (by rw [hst, List.map_append, List.map_reverse]; rfl) (lv_room (by rw [rsum_cat]; exact h8)) hd hcs) hS (fun x w' ce q9 H1 locs1 hx ho hp hS1 h1 h2 h3 => ?_) (fun r w' t H1 locs1 ht hok hq hw hS1 => ?_)
  · obtain ⟨hp9, ⟨pre, suf, a, b, ct, e1, e2, e3, e4, e5, e6⟩, hW9⟩ := kx x w' hx
    refine vx_catch hC.2.2.2.1 (tableOf pre) (⟨a, b, hp9, ct⟩ : ExceptionTableEntry) (tableOf suf) (by rw [htb, e1]; unfold tableOf; rw [List.map_append]; rfl) (fun z hz => ?_) e3 e4 (hC.2.2.2.2.1 _ e5) (va_Nw.use rfl (hC.2.2.2.2.2.2.2.2.1.1 _ e6)) h1 h2 h3 (hW9 H1 locs1 la q9 ho hp hS1 ⟨hl.1, hl.2.1⟩)
    obtain ⟨z9, hz9, rfl⟩ := List.mem_map.mp hz
    obtain ⟨g1, x9, g2, g3⟩ := e2 z9 hz9
    exact Or.inr ⟨g1, exN x9, hC.2.2.2.2.1 _ g2, hnc (x, x9) g3⟩
  · have e := kk r w' hok hq H1 locs1 la hw.1 o2 (fun v hv => by
      rcases List.mem_append.mp hv with h | h
      · exact hok v (by simpa using h)
      · exact o3 v (by rw [hst]; exact List.mem_append_right _ (List.mem_cons_of_mem _ h))) (by rw [← ht]; exact hw.2.1) hS1 hl
    rw [List.map_append] at e
    cases r <;> exact e
theorem hnd_ret {ok : Option AV → St → Prop} {mc hp : Nat} {z : Int} {w' : St} (hC : Cx p s m args c cc nL own D cA ad A L) (hQ : Q = vx_MQ below (QcW D cA ad A L ok) (XcW D cA ad A L noX) args s mc (6 * mc) A) (hm : cells ≤ mc ∧ slots ≤ 6 * mc) (hk9 : meth.locks = false) (hr : meth.sig.returnType = some .int) (hz : rng z) (d1 : decode cc hp = .ok (.iconst z, 1)) (d2 : decode cc (hp + 1) = .ok (.ireturn, 1)) (hq : ok (some (aI z)) w') {H1 : Heap} {locs1 : List Loc} {la : Array Slot} (o1 : okP (pj w' 0 L)) (hP : va_P D vwCl (wsP ad cA 0 (pj w' 0 L)) H1) (hS : va_S A s.heap H1 locs1) : W p l e R s m args below meth c H1 locs1 cells slots Q (F0 m hp la []) := by
  subst hQ
  refine lv_iconst (v := Int32.ofInt z) hC.1 hC.2.1 d1 rfl ?_
  refine W.widen (k := mc) (n := 6 * mc) hm.1 hm.2 (vx_ret ?_)
  exact W.zret (v := Int32.ofInt z) hC.1 hC.2.1 hr (nar_ok (kd := 0) (by omega) hz).1 (fun t ht hW => ⟨some (aI z), w', rfl, fun v hv => by cases hv; exact hz, hq, World.pre hC o1 hP hS ht hW, hS.F ht⟩) hS.2.2 d2 hk9
theorem hnd_a {ok : Option AV → St → Prop} {mc hp slot : Nat} {z : Int} {w' : St} (hC : Cx p s m args c cc nL own D cA ad A L) (hQ : Q = vx_MQ below (QcW D cA ad A L ok) (XcW D cA ad A L noX) args s mc (6 * mc) A) (hm : cells ≤ mc ∧ slots ≤ 6 * mc) (hk9 : meth.locks = false) (hr : meth.sig.returnType = some .int) (hn : slot < nL) (hz : rng z) (d0 : decode cc hp = .ok (.astore slot, 2)) (d1 : decode cc (hp + 2) = .ok (.iconst z, 1)) (d2 : decode cc (hp + 3) = .ok (.ireturn, 1)) (hq : ok (some (aI z)) w') : HND p l e R s m args below meth c Q cells slots nL D cA ad A L w' hp := by
  intro H1 locs1 la q9 o1 hP hS hl
  refine lv_astore (lv := []) hC.1 hC.2.1 d0 ⟨hl.1, hl.2, fun q hq => by cases hq⟩ hn rfl (fun la2 hl2 => ?_)
  exact hnd_ret hC hQ hm hk9 hr hz d1 d2 hq o1 hP hS
theorem hnd_n {ok : Option AV → St → Prop} {mc hp : Nat} {k : Fin 4} (slot : Nat) {z : Int} {w' : St} (hC : Cx p s m args c cc nL own D cA ad A L) (hQ : Q = vx_MQ below (QcW D cA ad A L ok) (XcW D cA ad A L noX) args s mc (6 * mc) A) (hm : cells ≤ mc ∧ slots ≤ 6 * mc) (hk9 : meth.locks = false) (hr : meth.sig.returnType = some .int) (hi : (k : Nat) = slot) (hn : slot < nL) (hz : rng z) (d0 : decode cc hp = .ok (.astore_n k, 1)) (d1 : decode cc (hp + 1) = .ok (.iconst z, 1)) (d2 : decode cc (hp + 2) = .ok (.ireturn, 1)) (hq : ok (some (aI z)) w') : HND p l e R s m args below meth c Q cells slots nL D cA ad A L w' hp := by
  intro H1 locs1 la q9 o1 hP hS hl
  refine lv_astore_n (lv := []) hC.1 hC.2.1 d0 hi ⟨hl.1, hl.2, fun q hq => by cases hq⟩ hn rfl (fun la2 hl2 => ?_)
  exact hnd_ret hC hQ hm hk9 hr hz d1 d2 hq o1 hP hS
/-- a call of a helper -/
theorem r_callSH (hC : Cx p s m args c cc nL own D cA ad A L) {y : MethodName} {cc2 : ByteArray} {nL2 d mc2 n idx : Nat} {ret : Option FieldType} {hh : List (Nat × Nat × Nat × Nat)} (as st2 : List AV) {ok2 : Option AV → St → Prop} (hnc : NcX s) (hd : decode cc pc = .ok (.invokestatic idx, 3)) (hlk : Cond.methodLink own idx y ∈ gw) (hm : MYw y cc2 nL2 ret hh n) (hi : Cond.static y ∈ gw) (hn : as.length = n) (hR : d + 1 ≤ R.frames ∧ 8 + (nL2 + 11) + 40 * d ≤ R.locals) (hcs : cells + mc2 ≤ R.cells ∧ slots + 6 * mc2 ≤ R.slots) (h8 : rsum st2 ≤ 8) (hst : st = as.reverse ++ st2) (hM : Ch l y cc2 nL2 ret hh d mc2 L w as ok2) (kk : ∀ (r : Option AV) (w' : St), (∀ v, r = some v → okv v) → ok2 r w' → Wd p l e R s m args below meth c Q (cells + mc2) (slots + 6 * mc2) nL D cA ad A L w' (pc + 3) ls (r.toList ++ st2)) : Wd p l e R s m args below meth c Q cells slots nL D cA ad A L w (pc) (ls) (st) := by
  intro H locs la o1 o2 o3 hP hS hl
  have ha : okS as := fun v hv => o3 v (by rw [hst]; exact List.mem_append_left _ (List.mem_reverse.mpr hv))
  refine q_runT (vx_runSX (As := as.map (cv ad)) (rest := st2.map (cv ad)) ⟨hC.1, hC.2.1, hC.2.2.1, hC.2.2.2.1, hC.2.2.2.2.1⟩ (hM D cA ad A ha) (vx_cwSW n hC.2.2.2.2.1 (gw_S hlk hi hm.1 hm.2.1) rfl rfl rfl ⟨hm.2.2.1, hm.2.2.2.1, hm.2.2.2.2.1⟩ hR)
    ⟨fun a U g mk q => ⟨q.1, World.blind g mk a q.2.1, NcX.moved (u := U) (U := U.calling g mk a) (Vm.Alike.refl U.vm) q.2.2⟩, fun U hU hW => ⟨rfl, World.pre hC o1 hP hS hU hW, hnc.moved hW.alike⟩⟩ rfl (by rw [List.length_map]; exact hn) hl.1 (by rw [hst, List.map_append, List.map_reverse]) (lv_room (by rw [rsum_cat]; exact h8)) hd hcs) hS (fun x w' ce q9 H1 locs1 hx ho hp hS1 h1 h2 h3 => hx.elim) (fun r w' t H1 locs1 ht hok hq hw hS1 => ?_)
  have e := kk r w' hok hq H1 locs1 la hw.1 o2 (fun v hv => by
    rcases List.mem_append.mp hv with h | h
    · exact hok v (by simpa using h)
    · exact o3 v (by rw [hst]; exact List.mem_append_right _ h)) (by rw [← ht]; exact hw.2.1) hS1 hl
  rw [List.map_append] at e
  cases r <;> exact e
/-- the script: its place is 8500 -/
def SCR (s : State) (A : Nat → Prop) (ad : Nat → Nat) (L0 : Nat) (xs : Nat → Int32) : Prop := va_X (ad 8500) L0 xs s s.heap ∧ ad 8500 < s.heap.size ∧ ¬ A (ad 8500)
theorem r_xld (hC : Cx p s m args c cc nL own D cA ad A L) {L0 : Nat} {xs : Nat → Int32} (hX : SCR s A ad L0 xs) {i : Nat} (hd : decode cc pc = .ok (.iaload, 1)) (hi : i < L0) (kk : Wd p l e R s m args below meth c Q cells slots nL D cA ad A L w (pc + 1) ls (aI (xs i).toInt :: st)) : Wd p l e R s m args below meth c Q cells slots nL D cA ad A L w (pc) ls (aI (i : Int) :: aR 8500 :: st) := by
  intro H locs la o1 o2 o3 hP hS hl
  have hr : rng (i : Int) := okS_h o3
  have hc9 : (Int32.ofInt (i : Int)).toNatClampNeg = i := by rw [rng_clamp hr (by omega), Int.toNat_natCast]
  refine va_sld (i := Int32.ofInt (i : Int)) hC.1 hC.2.1 hX.1 hX.2.1 hX.2.2 hS (rng_in hr (by omega) (by omega)) hd ?_
  have e := kk H locs la o1 o2 (okS_c (show rng _ from rng_of _) (okS_t (okS_t o3))) hP hS hl
  rw [hc9]
  have e2 : cv ad (aI (xs i).toInt) = .int (xs i) := by show Value.int (Int32.ofInt (xs i).toInt) = _; rw [Int32.ofInt_toInt]
  rw [List.map_cons, e2] at e
  exact e
theorem r_xlen (hC : Cx p s m args c cc nL own D cA ad A L) {L0 : Nat} {xs : Nat → Int32} (hX : SCR s A ad L0 xs) (hd : decode cc pc = .ok (.arraylength, 1)) (hL : L0 ≤ 3072) (kk : Wd p l e R s m args below meth c Q cells slots nL D cA ad A L w (pc + 1) ls (aI (L0 : Int) :: st)) : Wd p l e R s m args below meth c Q cells slots nL D cA ad A L w (pc) ls (aR 8500 :: st) := by
  intro H locs la o1 o2 o3 hP hS hl
  refine va_slen hC.1 hC.2.1 hX.1 hX.2.1 hX.2.2 hS hd ?_
  have e := kk H locs la o1 o2 (okS_c (show rng _ from ⟨by omega, by omega⟩) (okS_t o3)) hP hS hl
  rw [List.map_cons, show cv ad (aI (L0 : Int)) = .int (Int32.ofNat L0) from by show Value.int (Int32.ofInt (L0 : Int)) = _; rw [Int32.ofInt_eq_ofNat]] at e
  exact e
end RH
