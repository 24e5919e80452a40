theorem tb_out_1 {x : Int} (h0 : ¬ x = 0) (h1 : ¬ x = 1) : x < 0 ∨ 1 < x := by omega
theorem tb_out_2 {x : Int} (h0 : ¬ x = 0) (h1 : ¬ x = 1) (h2 : ¬ x = 2) : x < 0 ∨ 2 < x := by omega
theorem tb_out_3 {x : Int} (h0 : ¬ x = 0) (h1 : ¬ x = 1) (h2 : ¬ x = 2) (h3 : ¬ x = 3) : x < 0 ∨ 3 < x := by omega
theorem tb_out_4 {x : Int} (h0 : ¬ x = 0) (h1 : ¬ x = 1) (h2 : ¬ x = 2) (h3 : ¬ x = 3) (h4 : ¬ x = 4) : x < 0 ∨ 4 < x := by omega
theorem tb_out_5 {x : Int} (h0 : ¬ x = 0) (h1 : ¬ x = 1) (h2 : ¬ x = 2) (h3 : ¬ x = 3) (h4 : ¬ x = 4) (h5 : ¬ x = 5) : x < 0 ∨ 5 < x := by omega
theorem tb_out_6 {x : Int} (h0 : ¬ x = 0) (h1 : ¬ x = 1) (h2 : ¬ x = 2) (h3 : ¬ x = 3) (h4 : ¬ x = 4) (h5 : ¬ x = 5) (h6 : ¬ x = 6) : x < 0 ∨ 6 < x := by omega
theorem tb_out_7 {x : Int} (h0 : ¬ x = 0) (h1 : ¬ x = 1) (h2 : ¬ x = 2) (h3 : ¬ x = 3) (h4 : ¬ x = 4) (h5 : ¬ x = 5) (h6 : ¬ x = 6) (h7 : ¬ x = 7) : x < 0 ∨ 7 < x := by omega
theorem tb_out_8 {x : Int} (h0 : ¬ x = 0) (h1 : ¬ x = 1) (h2 : ¬ x = 2) (h3 : ¬ x = 3) (h4 : ¬ x = 4) (h5 : ¬ x = 5) (h6 : ¬ x = 6) (h7 : ¬ x = 7) (h8 : ¬ x = 8) : x < 0 ∨ 8 < x := by omega
theorem tb_out_9 {x : Int} (h0 : ¬ x = 0) (h1 : ¬ x = 1) (h2 : ¬ x = 2) (h3 : ¬ x = 3) (h4 : ¬ x = 4) (h5 : ¬ x = 5) (h6 : ¬ x = 6) (h7 : ¬ x = 7) (h8 : ¬ x = 8) (h9 : ¬ x = 9) : x < 0 ∨ 9 < x := by omega
theorem tb_out_10 {x : Int} (h0 : ¬ x = 0) (h1 : ¬ x = 1) (h2 : ¬ x = 2) (h3 : ¬ x = 3) (h4 : ¬ x = 4) (h5 : ¬ x = 5) (h6 : ¬ x = 6) (h7 : ¬ x = 7) (h8 : ¬ x = 8) (h9 : ¬ x = 9) (h10 : ¬ x = 10) : x < 0 ∨ 10 < x := by omega
theorem tb_out_11 {x : Int} (h0 : ¬ x = 0) (h1 : ¬ x = 1) (h2 : ¬ x = 2) (h3 : ¬ x = 3) (h4 : ¬ x = 4) (h5 : ¬ x = 5) (h6 : ¬ x = 6) (h7 : ¬ x = 7) (h8 : ¬ x = 8) (h9 : ¬ x = 9) (h10 : ¬ x = 10) (h11 : ¬ x = 11) : x < 0 ∨ 11 < x := by omega
theorem tb_out_12 {x : Int} (h0 : ¬ x = 0) (h1 : ¬ x = 1) (h2 : ¬ x = 2) (h3 : ¬ x = 3) (h4 : ¬ x = 4) (h5 : ¬ x = 5) (h6 : ¬ x = 6) (h7 : ¬ x = 7) (h8 : ¬ x = 8) (h9 : ¬ x = 9) (h10 : ¬ x = 10) (h11 : ¬ x = 11) (h12 : ¬ x = 12) : x < 0 ∨ 12 < x := by omega
theorem tb_out_13 {x : Int} (h0 : ¬ x = 0) (h1 : ¬ x = 1) (h2 : ¬ x = 2) (h3 : ¬ x = 3) (h4 : ¬ x = 4) (h5 : ¬ x = 5) (h6 : ¬ x = 6) (h7 : ¬ x = 7) (h8 : ¬ x = 8) (h9 : ¬ x = 9) (h10 : ¬ x = 10) (h11 : ¬ x = 11) (h12 : ¬ x = 12) (h13 : ¬ x = 13) : x < 0 ∨ 13 < x := by omega
theorem tb_out_14 {x : Int} (h0 : ¬ x = 0) (h1 : ¬ x = 1) (h2 : ¬ x = 2) (h3 : ¬ x = 3) (h4 : ¬ x = 4) (h5 : ¬ x = 5) (h6 : ¬ x = 6) (h7 : ¬ x = 7) (h8 : ¬ x = 8) (h9 : ¬ x = 9) (h10 : ¬ x = 10) (h11 : ¬ x = 11) (h12 : ¬ x = 12) (h13 : ¬ x = 13) (h14 : ¬ x = 14) : x < 0 ∨ 14 < x := by omega
theorem tb_out_34 {x : Int} (h0 : ¬ x = 0) (h1 : ¬ x = 1) (h2 : ¬ x = 2) (h3 : ¬ x = 3) (h4 : ¬ x = 4) (h5 : ¬ x = 5) (h6 : ¬ x = 6) (h7 : ¬ x = 7) (h8 : ¬ x = 8) (h9 : ¬ x = 9) (h10 : ¬ x = 10) (h11 : ¬ x = 11) (h12 : ¬ x = 12) (h13 : ¬ x = 13) (h14 : ¬ x = 14) (h15 : ¬ x = 15) (h16 : ¬ x = 16) (h17 : ¬ x = 17) (h18 : ¬ x = 18) (h19 : ¬ x = 19) (h20 : ¬ x = 20) (h21 : ¬ x = 21) (h22 : ¬ x = 22) (h23 : ¬ x = 23) (h24 : ¬ x = 24) (h25 : ¬ x = 25) (h26 : ¬ x = 26) (h27 : ¬ x = 27) (h28 : ¬ x = 28) (h29 : ¬ x = 29) (h30 : ¬ x = 30) (h31 : ¬ x = 31) (h32 : ¬ x = 32) (h33 : ¬ x = 33) (h34 : ¬ x = 34) : x < 0 ∨ 34 < x := by omega

/-! methods that may throw -/
def exN (x : Nat) : String := match x with
  | 1 => "java/lang/IndexOutOfBoundsException"
  | 2 => "java/util/NoSuchElementException"
  | 3 => "java/lang/IllegalArgumentException"
  | _ => "java/lang/IllegalStateException"
def rmT (d mc : Nat) : Room := { frames := d, cells := mc, slots := 6 * mc, locals := 40 * d }
def XcW (D : va_G) (cA : Nat → ClassId) (ad : Nat → Nat) (A : Nat → Prop) (L : List LC) (ex : Nat → St → Prop) : String → State → State → Prop := fun E st t =>
  ∃ (x : Nat) (w' : St), E = exN x ∧ ex x w' ∧ okP (pj w' 0 L) ∧ va_P D vwCl (wsP ad cA 0 (pj w' 0 L)) t.heap ∧ va_F A st t
def Ct (l : Launch) (y : MethodName) (cc : ByteArray) (nL : Nat) (ret : Option FieldType) (d mc : Nat) (L : List LC) (w : St) (as : List AV) (ok : Option AV → St → Prop) (ex : Nat → St → Prop) : Prop :=
  ∀ (D : va_G) (cA : Nat → ClassId) (ad : Nat → Nat) (A : Nat → Prop), okS as → vx_Met l y (Cond.code y cc nL ret :: gw) (rmT d mc) (fun v U => v = (as.map (cv ad)).toArray ∧ World D cA ad A L w U) (QcW D cA ad A L ok) (XcW D cA ad A L ex) mc (6 * mc) A
/-- the words of a throw -/
def TW (own : String) (ik ic : Nat) (cls : String) (names : List String) : Prop := (∀ w ∈ vx_atS own ic cls names, w ∈ gw ∨ w ∈ nw) ∧ Cond.classLink own ik cls ∈ gw ∧ Cond.initialized cls ∈ gw ∧ (∀ w ∈ Cond.classLink own ik cls :: Cond.initialized cls :: vx_atS own ic cls names, vx_ot w = true) ∧ Bundle.fit cls = true ∧ (∀ n ∈ names, Bundle.fit n = true)
theorem TW.of {own : String} {ik ic : Nat} {cls : String} {names : List String} (h1 : (vx_atS own ic cls names).all (fun w => decide (w ∈ lw_tbl) && (goodWord w || isNest w)) = true) (h2 : Cond.classLink own ik cls ∈ gw) (h3 : Cond.initialized cls ∈ gw) (h4 : (Cond.classLink own ik cls :: Cond.initialized cls :: vx_atS own ic cls names).all vx_ot = true) (h5 : Bundle.fit cls = true) (h6 : names.all Bundle.fit = true) : TW own ik ic cls names := by
  refine ⟨fun w hw => ?_, h2, h3, fun w hw => List.all_eq_true.mp h4 w hw, h5, fun n hn => List.all_eq_true.mp h6 n hn⟩
  have h := List.all_eq_true.mp h1 w hw
  simp only [Bool.and_eq_true, Bool.or_eq_true, decide_eq_true_eq] at h
  rcases h.2 with g | g
  · exact Or.inl (List.mem_filter.mpr ⟨h.1, g⟩)
  · exact Or.inr (List.mem_filter.mpr ⟨h.1, g⟩)
theorem nest_onT {w : Cond} (h : isNest w = true) : w.onTables = true := by
  cases w <;> first | rfl | (simp [isNest] at h)
section RX

variable {p : Program} {l : Launch} {e : Env} {R : Room} {s : State} {m : MethodId} {args : Array Value} {below : List Frame} {meth : Method} {c : Code} {Q : State → Prop} {cells slots nL : Nat} {D : va_G} {cA : Nat → ClassId} {ad : Nat → Nat} {A : Nat → Prop} {L : List LC} {w : St} {pc : Nat} {ls : List (Option AV)} {st : List AV} {cc : ByteArray} {own : String}


theorem TW.before {ik ic : Nat} {cls : String} {names : List String} (hC : Cx p s m args c cc nL own D cA ad A L) (h : TW own ik ic cls names) : ∀ w ∈ vx_atS own ic cls names, w.before args s = true := by
  intro w hw
  rcases h.1 w hw with g | g
  · exact hC.2.2.2.2.1 w g
  · exact va_Nw.use (nest_onT (List.mem_filter.mp g).2) (hC.2.2.2.2.2.2.2.2.1.1 w g)
theorem exc_keep {H : Heap} {t : State} (hP : va_P D vwCl (wsP ad cA 0 (pj w 0 L)) H) (hk : ∀ q : Nat, q < H.size → t.heap[q]? = H[q]?) : va_P D vwCl (wsP ad cA 0 (pj w 0 L)) t.heap := fun k q hq => (hP k q hq).kept (hk q.1 (hP k q hq).lt)
theorem exc_F {H : Heap} {locs : List Loc} {t : State} (hS : va_S A s.heap H locs) (hz : H.size ≤ t.heap.size) (hk : ∀ q : Nat, q < H.size → t.heap[q]? = H[q]?) : va_F A s t := ⟨Nat.le_trans hS.1 hz, fun q h1 h2 => by rw [hk q (Nat.lt_of_lt_of_le h1 hS.1)]; exact hS.2.1 q h1 h2⟩

theorem r_thr {ok : Option AV → St → Prop} {ex : Nat → St → Prop} {ik is ic j mc : Nat} {q : String × Nat × String × List Int} (x : Nat) (names : List String) (hC : Cx p s m args c cc nL own D cA ad A L) (hl : l.stackTraces = false) (hQ : Q = vx_MQ below (QcW D cA ad A L ok) (XcW D cA ad A L ex) args s mc (6 * mc) A) (hk : meth.locks = false) (hnt : ∀ z ∈ c.exceptionTable.toList, False) (hw : TW own ik ic (exN x) names) (hj : strT[j]? = some q) (hq : q.1 = own ∧ q.2.1 = is)
    (d0 : decode cc pc = .ok (.new ik, 3)) (d3 : decode cc (pc + 3) = .ok (.dup, 1)) (d4 : decode cc (pc + 4) = .ok (.ldc is, 2)) (d6 : decode cc (pc + 6) = .ok (.invokespecial ic, 3)) (d9 : decode cc (pc + 9) = .ok (.athrow, 1)) (hR : names.length + 3 < R.frames ∧ 8 + (13 * (names.length + 1) + 43) ≤ R.locals) (hcs : cells + 1 ≤ R.cells ∧ slots + 6 ≤ R.slots) (hm : cells + 1 ≤ mc ∧ slots + 6 ≤ 6 * mc) (hx : ex x w) : Wd p l e R s m args below meth c Q cells slots nL D cA ad A L w (pc) (ls) ([]) := by
  intro H locs la o1 o2 o3 hP hS hl2
  subst hQ
  exact vx_throwS (sa := ad (10000 + j)) (text := q.2.2.1) hC.1 hC.2.1 hl hC.2.2.2.1 hw.2.2.2.2.1 hw.2.2.2.2.2 (hC.2.2.2.2.1 _ hw.2.1) (hC.2.2.2.2.1 _ hw.2.2.1) (by have h9 := hC.2.2.2.2.2.2.2.2.1.2 j q hj; rw [hq.1, hq.2] at h9; exact h9) (TW.before hC hw) hw.2.2.2.1 hC.2.2.2.2.2.2.2.2.2.2.2.2.1 hC.2.2.2.2.2.2.2.2.2.2.2.2.2.1 hS (hl2.1.trans hC.2.2.1.symm) d0 d3 d4 d6 d9 (fun z hz => (hnt z hz).elim) hR.1 (by show 0 + _ ≤ _; omega) hcs.1 hcs.2 hk (fun t h1 h2 h3 => ⟨x, w, rfl, hx, o1, exc_keep hP h3, exc_F hS h2 h3⟩) hS.2.2 hm.1 hm.2
theorem r_thrW {ok : Option AV → St → Prop} {ex : Nat → St → Prop} {ik is ic j mc : Nat} {q : String × Nat × String × List Int} (x : Nat) (names : List String) (hC : Cx p s m args c cc nL own D cA ad A L) (hl : l.stackTraces = false) (hQ : Q = vx_MQ below (QcW D cA ad A L ok) (XcW D cA ad A L ex) args s mc (6 * mc) A) (hk : meth.locks = false) (hnt : ∀ z ∈ c.exceptionTable.toList, False) (hw : TW own ik ic (exN x) names) (hj : strT[j]? = some q) (hq : q.1 = own ∧ q.2.1 = is)
    (d0 : decode cc pc = .ok (.new ik, 3)) (d3 : decode cc (pc + 3) = .ok (.dup, 1)) (d4 : decode cc (pc + 4) = .ok (.ldc_w is, 3)) (d6 : decode cc (pc + 7) = .ok (.invokespecial ic, 3)) (d9 : decode cc (pc + 10) = .ok (.athrow, 1)) (hR : names.length + 3 < R.frames ∧ 8 + (13 * (names.length + 1) + 43) ≤ R.locals) (hcs : cells + 1 ≤ R.cells ∧ slots + 6 ≤ R.slots) (hm : cells + 1 ≤ mc ∧ slots + 6 ≤ 6 * mc) (hx : ex x w) : Wd p l e R s m args below meth c Q cells slots nL D cA ad A L w (pc) (ls) ([]) := by
  intro H locs la o1 o2 o3 hP hS hl2
  subst hQ
  exact vx_throwSW (sa := ad (10000 + j)) (text := q.2.2.1) hC.1 hC.2.1 hl hC.2.2.2.1 hw.2.2.2.2.1 hw.2.2.2.2.2 (hC.2.2.2.2.1 _ hw.2.1) (hC.2.2.2.2.1 _ hw.2.2.1) (by have h9 := hC.2.2.2.2.2.2.2.2.1.2 j q hj; rw [hq.1, hq.2] at h9; exact h9) (TW.before hC hw) hw.2.2.2.1 hC.2.2.2.2.2.2.2.2.2.2.2.2.1 hC.2.2.2.2.2.2.2.2.2.2.2.2.2.1 hS (hl2.1.trans hC.2.2.1.symm) d0 d3 d4 d6 d9 (fun z hz => (hnt z hz).elim) hR.1 (by show 0 + _ ≤ _; omega) hcs.1 hcs.2 hk (fun t h1 h2 h3 => ⟨x, w, rfl, hx, o1, exc_keep hP h3, exc_F hS h2 h3⟩) hS.2.2 hm.1 hm.2

theorem q_runT {H : Heap} {locs : List Loc} {la : Array Slot} {rest st0 : List Value} {mc2 : Nat} {ok : Option AV → St → Prop} {ex : Nat → St → Prop} {a : Array Value} (hr : vx_Run p l e R s m args below meth c H locs cells slots mc2 (6 * mc2) (F0 m pc la st0) rest (QcW D cA ad A L ok a) (XcW D cA ad A L ex) A) (hS : va_S A s.heap H locs)
    (kx : ∀ (x : Nat) (w' : St) (ce : Cell) (q9 : Addr) (H1 : Heap) (locs1 : List Loc), ex x w' → okP (pj w' 0 L) → va_P D vwCl (wsP ad cA 0 (pj w' 0 L)) H1 → va_S A s.heap H1 locs1 → H1[q9]? = some ce → ce.vm = .none → s.vm.findClass (exN x) = some ce.cls → vx_W p l e R s m args below meth c H1 locs1 (cells + mc2) (slots + 6 * mc2) Q (F0 m pc la rest) q9)
    (kk : ∀ (r : Option AV) (w' : St) (t : State) (H1 : Heap) (locs1 : List Loc), t.heap = H1 → (∀ v, r = some v → okv v) → ok r w' → World D cA ad A L w' t → va_S A s.heap H1 locs1 → W p l e R s m args below meth c H1 locs1 (cells + mc2) (slots + 6 * mc2) Q (F0 m (pc + 3) la ((r.map (cv ad)).toList ++ rest))) : W p l e R s m args below meth c H locs cells slots Q (F0 m pc la st0) := by
  intro T hT X
  rcases hr T hT X with ⟨v, st₀, t, T', L9, h0, X', hL, e1, e2, ⟨r, w', hv, hok, hq, hw, hF⟩, st⟩ | ⟨q, st₀, t, T', L9, E, ce, h0, X', hL, e1, e2, ⟨x, w', rfl, hx, ho, hp, hF⟩, hce, hcv, hcl, st⟩
  · cases hv
    obtain ⟨k1, k2, k3⟩ := vx_keep h0 e1 hS (fun q _ h => h) (fun q h => h) hL hF
    obtain ⟨t2, a1, b1⟩ := kk r w' t T'.heap (locs ++ L9) e1.symm hok hq hw k3 T' rfl X'
    exact ⟨t2, st t2 a1, b1⟩
  · obtain ⟨k1, k2, k3⟩ := vx_keep h0 e1 hS (fun q _ h => h) (fun q h => h) hL hF
    obtain ⟨t2, a1, b1⟩ := kx x w' ce q T'.heap (locs ++ L9) hx ho (by rw [e1]; exact hp) k3 (by rw [e1]; exact hce) hcv hcl T' rfl X'
    exact ⟨t2, st.trans a1, b1⟩

theorem r_callTV (hC : Cx p s m args c cc nL own D cA ad A L) {y : MethodName} {cc2 : ByteArray} {nL2 d mc mc2 n idx : Nat} {ret : Option FieldType} (as st2 : List AV) {ok ok2 : Option AV → St → Prop} {ex ex2 : Nat → St → Prop} {k ci N : Nat} {T : u_T} {fs : List (Nat ⊕ Option Nat)} (hQ : Q = vx_MQ below (QcW D cA ad A L ok) (XcW D cA ad A L ex) args s mc (6 * mc) A) (hk9 : meth.locks = false) (hnt : ∀ z ∈ c.exceptionTable.toList, False) (hm9 : cells + mc2 ≤ mc ∧ slots + 6 * mc2 ≤ 6 * mc) (hd : decode cc pc = .ok (.invokevirtual idx, 3)) (hlk : Cond.methodLink own idx y ∈ gw) (hm : MY y cc2 nL2 ret n) (hi : MI y) (hk : L[k]? = some (.inl (ci, fs))) (hc : vwCl[ci]? = some (y.cls, T, N)) (hn : as.length = n) (hR : d + 1 ≤ R.frames ∧ 8 + (nL2 + 11) + 40 * d ≤ R.locals) (hcs : cells + mc2 ≤ R.cells ∧ slots + 6 * mc2 ≤ R.slots) (h8 : rsum st2 ≤ 8) (hst : st = as.reverse ++ (aR k :: st2)) (hM : Ct l y cc2 nL2 ret d mc2 L w (aR k :: as) ok2 ex2) (kx : ∀ (x : Nat) (w' : St), ex2 x w' → ex x w') (kk : ∀ (r : Option AV) (w' : St), ok2 r w' → Wd p l e R s m args below meth c Q (cells + mc2) (slots + 6 * mc2) nL D cA ad A L w' (pc + 3) ls (r.toList ++ st2)) : Wd p l e R s m args below meth c Q cells slots nL D cA ad A L w (pc) (ls) (st) := by
  intro H locs la o1 o2 o3 hP hS hl
  subst hQ
  have ha : okS (aR k :: as) := okS_c trivial (fun v hv => o3 v (by rw [hst]; exact List.mem_append_left _ (List.mem_reverse.mpr hv)))
  refine q_runT (vx_runV (C := y.cls) (b := ad k) (As := as.map (cv ad)) (rest := st2.map (cv ad)) ⟨hC.1, hC.2.1, hC.2.2.1, hC.2.2.2.1, hC.2.2.2.2.1⟩ (hM D cA ad A ha) (cwV (C := y.cls) n hC.2.2.2.2.1 (gw_V hlk hi.1 hi.2 hm.1 hm.2.1) rfl rfl rfl ⟨rfl, hm.2.2.1, hm.2.2.2.1, hm.2.2.2.2.1⟩ hR)
    ⟨fun a U g mk q => ⟨q.1, World.blind g mk a q.2⟩, va_recv hC.2.2.2.2.2.1 hP hc (ws_at w hk), fun U hU hW => ⟨rfl, World.pre hC o1 hP hS hU hW⟩⟩ rfl (by rw [List.length_map]; exact hn) hl.1 (by rw [hst, List.map_append, List.map_reverse]; rfl) (lv_room (by rw [rsum_cat]; exact h8)) hd hcs) hS (fun x w' ce q9 H1 locs1 hx ho hp hS1 h1 h2 h3 => ?_) (fun r w' t H1 locs1 ht hok hq hw hS1 => ?_)
  · exact vx_out (fun z hz => (hnt z hz).elim) hk9 h1 h2 h3 (fun t ht _ => ⟨x, w', rfl, kx x w' hx, ho, by rw [ht]; exact hp, hS1.F ht⟩) hS1.2.2 hm9.1 hm9.2
  · have e := kk r w' hq H1 locs1 la hw.1 o2 (fun v hv => by
      rcases List.mem_append.mp hv with h | h
      · exact hok v (by simpa using h)
      · exact o3 v (by rw [hst]; exact List.mem_append_right _ (List.mem_cons_of_mem _ h))) (by rw [← ht]; exact hw.2.1) hS1 hl
    rw [List.map_append] at e
    cases r <;> exact e
theorem r_callTS (hC : Cx p s m args c cc nL own D cA ad A L) {y : MethodName} {cc2 : ByteArray} {nL2 d mc mc2 n idx : Nat} {ret : Option FieldType} (as st2 : List AV) {ok ok2 : Option AV → St → Prop} {ex ex2 : Nat → St → Prop} (hQ : Q = vx_MQ below (QcW D cA ad A L ok) (XcW D cA ad A L ex) args s mc (6 * mc) A) (hk9 : meth.locks = false) (hnt : ∀ z ∈ c.exceptionTable.toList, False) (hm9 : cells + mc2 ≤ mc ∧ slots + 6 * mc2 ≤ 6 * mc) (hd : decode cc pc = .ok (.invokestatic idx, 3)) (hlk : Cond.methodLink own idx y ∈ gw) (hm : MY y cc2 nL2 ret n) (hi : Cond.static y ∈ gw) (hn : as.length = n) (hR : d + 1 ≤ R.frames ∧ 8 + (nL2 + 11) + 40 * d ≤ R.locals) (hcs : cells + mc2 ≤ R.cells ∧ slots + 6 * mc2 ≤ R.slots) (h8 : rsum st2 ≤ 8) (hst : st = as.reverse ++ st2) (hM : Ct l y cc2 nL2 ret d mc2 L w as ok2 ex2) (kx : ∀ (x : Nat) (w' : St), ex2 x w' → ex x w') (kk : ∀ (r : Option AV) (w' : St), ok2 r w' → Wd p l e R s m args below meth c Q (cells + mc2) (slots + 6 * mc2) nL D cA ad A L w' (pc + 3) ls (r.toList ++ st2)) : Wd p l e R s m args below meth c Q cells slots nL D cA ad A L w (pc) (ls) (st) := by
  intro H locs la o1 o2 o3 hP hS hl
  subst hQ
  have ha : okS as := fun v hv => o3 v (by rw [hst]; exact List.mem_append_left _ (List.mem_reverse.mpr hv))
  refine q_runT (vx_runS (As := as.map (cv ad)) (rest := st2.map (cv ad)) ⟨hC.1, hC.2.1, hC.2.2.1, hC.2.2.2.1, hC.2.2.2.2.1⟩ (hM D cA ad A ha) (va_cwS n hC.2.2.2.2.1 (gw_S hlk hi hm.1 hm.2.1) rfl rfl rfl ⟨hm.2.2.1, hm.2.2.2.1, hm.2.2.2.2.1⟩ hR)
    ⟨fun a U g mk q => ⟨q.1, World.blind g mk a q.2⟩, fun U hU hW => ⟨rfl, World.pre hC o1 hP hS hU hW⟩⟩ rfl (by rw [List.length_map]; exact hn) hl.1 (by rw [hst, List.map_append, List.map_reverse]) (lv_room (by rw [rsum_cat]; exact h8)) hd hcs) hS (fun x w' ce q9 H1 locs1 hx ho hp hS1 h1 h2 h3 => ?_) (fun r w' t H1 locs1 ht hok hq hw hS1 => ?_)
  · exact vx_out (fun z hz => (hnt z hz).elim) hk9 h1 h2 h3 (fun t ht _ => ⟨x, w', rfl, kx x w' hx, ho, by rw [ht]; exact hp, hS1.F ht⟩) hS1.2.2 hm9.1 hm9.2
  · have e := kk r w' hq H1 locs1 la hw.1 o2 (fun v hv => by
      rcases List.mem_append.mp hv with h | h
      · exact hok v (by simpa using h)
      · exact o3 v (by rw [hst]; exact List.mem_append_right _ h)) (by rw [← ht]; exact hw.2.1) hS1 hl
    rw [List.map_append] at e
    cases r <;> exact e
theorem r_callTVv (hC : Cx p s m args c cc nL own D cA ad A L) {y : MethodName} {cc2 : ByteArray} {nL2 d mc mc2 n idx : Nat} {ret : Option FieldType} (as st2 : List AV) {ok : Option AV → St → Prop} {ex ex2 : Nat → St → Prop} {P : St → Prop} {k ci N : Nat} {T : u_T} {fs : List (Nat ⊕ Option Nat)} (hQ : Q = vx_MQ below (QcW D cA ad A L ok) (XcW D cA ad A L ex) args s mc (6 * mc) A) (hk9 : meth.locks = false) (hnt : ∀ z ∈ c.exceptionTable.toList, False) (hm9 : cells + mc2 ≤ mc ∧ slots + 6 * mc2 ≤ 6 * mc) (hd : decode cc pc = .ok (.invokevirtual idx, 3)) (hlk : Cond.methodLink own idx y ∈ gw) (hm : MY y cc2 nL2 ret n) (hi : MI y) (hk : L[k]? = some (.inl (ci, fs))) (hc : vwCl[ci]? = some (y.cls, T, N)) (hn : as.length = n) (hR : d + 1 ≤ R.frames ∧ 8 + (nL2 + 11) + 40 * d ≤ R.locals) (hcs : cells + mc2 ≤ R.cells ∧ slots + 6 * mc2 ≤ R.slots) (h8 : rsum st2 ≤ 8) (hst : st = as.reverse ++ (aR k :: st2)) (hM : Ct l y cc2 nL2 ret d mc2 L w (aR k :: as) (okV P) ex2) (kx : ∀ (x : Nat) (w' : St), ex2 x w' → ex x w') (kk : ∀ (w' : St), P w' → Wd p l e R s m args below meth c Q (cells + mc2) (slots + 6 * mc2) nL D cA ad A L w' (pc + 3) ls st2) : Wd p l e R s m args below meth c Q cells slots nL D cA ad A L w (pc) (ls) (st) := r_callTV hC as st2 hQ hk9 hnt hm9 hd hlk hm hi hk hc hn hR hcs h8 hst hM kx (fun r w' hq => by obtain ⟨rfl, hq⟩ := hq; exact kk w' hq)
theorem r_callTSv (hC : Cx p s m args c cc nL own D cA ad A L) {y : MethodName} {cc2 : ByteArray} {nL2 d mc mc2 n idx : Nat} {ret : Option FieldType} (as st2 : List AV) {ok : Option AV → St → Prop} {ex ex2 : Nat → St → Prop} {P : St → Prop} (hQ : Q = vx_MQ below (QcW D cA ad A L ok) (XcW D cA ad A L ex) args s mc (6 * mc) A) (hk9 : meth.locks = false) (hnt : ∀ z ∈ c.exceptionTable.toList, False) (hm9 : cells + mc2 ≤ mc ∧ slots + 6 * mc2 ≤ 6 * mc) (hd : decode cc pc = .ok (.invokestatic idx, 3)) (hlk : Cond.methodLink own idx y ∈ gw) (hm : MY y cc2 nL2 ret n) (hi : Cond.static y ∈ gw) (hn : as.length = n) (hR : d + 1 ≤ R.frames ∧ 8 + (nL2 + 11) + 40 * d ≤ R.locals) (hcs : cells + mc2 ≤ R.cells ∧ slots + 6 * mc2 ≤ R.slots) (h8 : rsum st2 ≤ 8) (hst : st = as.reverse ++ st2) (hM : Ct l y cc2 nL2 ret d mc2 L w as (okV P) ex2) (kx : ∀ (x : Nat) (w' : St), ex2 x w' → ex x w') (kk : ∀ (w' : St), P w' → Wd p l e R s m args below meth c Q (cells + mc2) (slots + 6 * mc2) nL D cA ad A L w' (pc + 3) ls st2) : Wd p l e R s m args below meth c Q cells slots nL D cA ad A L w (pc) (ls) (st) := r_callTS hC as st2 hQ hk9 hnt hm9 hd hlk hm hi hn hR hcs h8 hst hM kx (fun r w' hq => by obtain ⟨rfl, hq⟩ := hq; exact kk w' hq)

theorem r_tri {P : Int → St → Prop} {ex : Nat → St → Prop} {kd mc : Nat} {z : Int} (hC : Cx p s m args c cc nL own D cA ad A L) (hQ : Q = vx_MQ below (QcW D cA ad A L (okI P)) (XcW D cA ad A L ex) args s mc (6 * mc) A) (hm : cells ≤ mc ∧ slots ≤ 6 * mc) (hd : decode cc pc = .ok (.ireturn, 1)) (hr : meth.sig.returnType = some (kdT kd)) (hlocks : meth.locks = false) (h3 : kd < 3) (hz : kd = 0 ∨ okK kd z) (hq : P z w) : Wd p l e R s m args below meth c Q cells slots nL D cA ad A L w pc ls [aI z] := by
  subst hQ
  intro H locs la o1 o2 o3 hP hS hl
  have hz : okK kd z := by
    rcases hz with rfl | hz
    · exact okS_h o3
    · exact hz
  refine W.widen (k := mc) (n := 6 * mc) hm.1 hm.2 (vx_ret ?_)
  exact W.zret (v := Int32.ofInt z) hC.1 hC.2.1 hr (nar_ok h3 hz).1 (fun t ht hW => ⟨some (aI z), w, rfl, fun v hv => by cases hv; exact okS_h o3, ⟨z, rfl, hq⟩, World.pre hC o1 hP hS ht hW, hS.F ht⟩) hS.2.2 hd hlocks
theorem r_trv {P : St → Prop} {ex : Nat → St → Prop} {mc : Nat} (hC : Cx p s m args c cc nL own D cA ad A L) (hQ : Q = vx_MQ below (QcW D cA ad A L (okV P)) (XcW D cA ad A L ex) args s mc (6 * mc) A) (hm : cells ≤ mc ∧ slots ≤ 6 * mc) (hd : decode cc pc = .ok (.return_, 1)) (hr : meth.sig.returnType = none) (hlocks : meth.locks = false) (hq : P w) : Wd p l e R s m args below meth c Q cells slots nL D cA ad A L w pc ls [] := by
  subst hQ
  intro H locs la o1 o2 o3 hP hS hl
  refine W.widen (k := mc) (n := 6 * mc) hm.1 hm.2 (vx_ret ?_)
  exact W.vret hC.1 hC.2.1 hr (fun t ht hW => ⟨none, w, rfl, fun v hv => (by cases hv), ⟨rfl, hq⟩, World.pre hC o1 hP hS ht hW, hS.F ht⟩) hS.2.2 hd hlocks
theorem Ct.of {y : MethodName} {d mc : Nat} {ret : Option FieldType} {as : List AV} {ok : Option AV → St → Prop} {ex : Nat → St → Prop} (ls0 : List (Option AV)) (hy : plainName y.cls = true) (hsz : (argL as).length ≤ nL) (hls : padL nL (argL as) = ls0)
    (body : ∀ (p : Program) (e : Env) (s : State) (m : MethodId) (args : Array Value) (below : List Frame) (meth : Method) (c : Code) (D : va_G) (cA : Nat → ClassId) (ad : Nat → Nat) (A : Nat → Prop) (Q : State → Prop), Q = vx_MQ below (QcW D cA ad A L ok) (XcW D cA ad A L ex) args s mc (6 * mc) A → Cx p s m args c cc nL y.cls D cA ad A L → meth.sig.returnType = ret → meth.locks = false → (∀ z ∈ c.exceptionTable.toList, False) → Wd p l e (rmT d mc) s m args below meth c Q 0 0 nL D cA ad A L w 0 ls0 []) : Ct l y cc nL ret d mc L w as ok ex := by
  intro D cA ad A hoks
  refine vx_ofW (cc := cc) (maxL := nL) (ret := ret) hy rfl ?_
  intro p e s m args below meth c s₁ B hml hnt hv
  obtain ⟨rfl, hW⟩ := hv
  have hts := atoms_spec (ws := Cond.code y cc nL ret :: gw) B.pre
  have hown : s.vm.findClass y.cls = some m.cls := findClass_of_methodNamed B.named
  have hl := lv_entry (as.map (cv ad)) (n := nL) (by rw [argL_sz]; exact hsz)
  rw [lg_entry_eq]
  generalize (lg_sl (as.map (cv ad)) ++ List.replicate (nL - (lg_sl (as.map (cv ad))).length) Slot.unset).toArray = la at hl ⊢
  subst hls
  exact body p e s m _ below meth c D cA ad A _ rfl ⟨B.exec, B.bytes, hml, hown, fun w9 h9 => hts w9 (List.mem_cons_of_mem _ h9), hW.2.2.1, hW.2.2.2.1, hW.2.2.2.2.1, hW.2.2.2.2.2.1, hW.2.2.2.2.2.2⟩ B.returns B.notSynchronized hnt s.heap [] la hW.1 (fun i v hv => argL_ok hoks i v (padL_at hv)) (fun v hv => by cases hv) hW.2.1 va_S.rf ⟨hl.1, hl.2.1, fun i v hv => hl.2.2 (i, cv ad v) (by have h9 := argL_args ad as 0 i v (padL_at hv); rw [Nat.zero_add] at h9; exact h9)⟩

end RX
