
/-! the world of a method, contracts, calls, returns -/
def World (D : va_G) (cA : Nat → ClassId) (ad : Nat → Nat) (A : Nat → Prop) (L : List LC) (w : St) (U : State) : Prop :=
  okP (pj w 0 L) ∧ va_P D vwCl (wsP ad cA 0 (pj w 0 L)) U.heap ∧ va_K D vwCl (tyL cA) U ∧ (∀ i j, i < L.length → j < L.length → ad i = ad j → i = j) ∧ (∀ k, k < L.length → A (ad k)) ∧ ExtV ad U ∧ ExtH ad A U U.heap
def QcW (D : va_G) (cA : Nat → ClassId) (ad : Nat → Nat) (A : Nat → Prop) (L : List LC) (ok : Option AV → St → Prop) : Array Value → State → Outcome → State → Prop := fun _ st o t =>
  ∃ (r : Option AV) (w' : St), o = .returned (r.map (cv ad)) ∧ (∀ v, r = some v → okv v) ∧ ok r w' ∧ World D cA ad A L w' t ∧ va_F A st t
def rmD (d : Nat) : Room := { frames := d, cells := 0, slots := 0, locals := 40 * d }
/-- a contract: from the world w and the arguments as, method y returns r and the world w', with ok r w' -/
def Cn (l : Launch) (y : MethodName) (cc : ByteArray) (nL : Nat) (ret : Option FieldType) (d : Nat) (L : List LC) (w : St) (as : List AV) (ok : Option AV → St → Prop) : Prop :=
  ∀ (D : va_G) (cA : Nat → ClassId) (ad : Nat → Nat) (A : Nat → Prop), okS as → Met l y (Cond.code y cc nL ret :: gw) (rmD d) (fun v U => v = (as.map (cv ad)).toArray ∧ World D cA ad A L w U) (QcW D cA ad A L ok) 0 0 A
def okI (Q : Int → St → Prop) : Option AV → St → Prop := fun r w => ∃ z, r = some (aI z) ∧ Q z w
def okJ (Q : Int64 → St → Prop) : Option AV → St → Prop := fun r w => ∃ z, r = some (aL z) ∧ Q z w
def okV (Q : St → Prop) : Option AV → St → Prop := fun r w => r = none ∧ Q w
/-- the locals at a method's entry -/
def argL : List AV → List (Option AV)
  | [] => []
  | v :: vs => some v :: (if isL v then none :: argL vs else argL vs)
theorem argL_ok {as : List AV} (h : okS as) : okL (argL as) := by
  induction as with
  | nil => intro i v hv; simp [argL] at hv
  | cons a as ih =>
    intro i v hv
    unfold argL at hv
    cases i with
    | zero => simp at hv; rw [← hv]; exact okS_h h
    | succ i =>
      rw [List.getElem?_cons_succ] at hv
      split at hv
      · cases i with
        | zero => simp at hv
        | succ i => rw [List.getElem?_cons_succ] at hv; exact ih (okS_t h) i v hv
      · exact ih (okS_t h) i v hv
theorem argL_args (ad : Nat → Nat) : ∀ (as : List AV) (i j : Nat) (v : AV), (argL as)[j]? = some (some v) → (i + j, cv ad v) ∈ lv_args i (as.map (cv ad))
  | [], _, _, _, h => by simp [argL] at h
  | a :: as, i, 0, v, h => by
    have h : some (some a) = some (some v) := h
    cases h
    show (i, cv ad a) ∈ _
    unfold lv_args
    exact List.mem_cons_self
  | a :: as, i, j + 1, v, h => by
    have h : (if isL a then none :: argL as else argL as)[j]? = some (some v) := h
    show _ ∈ (i, cv ad a) :: lv_args (if (cv ad a).category = 2 then i + 2 else i + 1) (as.map (cv ad))
    refine List.mem_cons_of_mem _ ?_
    rcases a with z | x | k
    · have h : (argL as)[j]? = some (some v) := h
      have e := argL_args ad as (i + 1) j v h
      rw [show i + (j + 1) = i + 1 + j by omega]
      exact e
    · cases j with
      | zero => simp [isL] at h
      | succ j =>
        have h : (argL as)[j]? = some (some v) := h
        have e := argL_args ad as (i + 2) j v h
        rw [show i + (j + 1 + 1) = i + 2 + j by omega]
        exact e
    · have h : (argL as)[j]? = some (some v) := h
      have e := argL_args ad as (i + 1) j v h
      rw [show i + (j + 1) = i + 1 + j by omega]
      exact e
theorem argL_sz (ad : Nat → Nat) : ∀ as : List AV, (lg_sl (as.map (cv ad))).length = (argL as).length
  | [] => rfl
  | a :: as => by
    have e := argL_sz ad as
    unfold lg_sl at e ⊢
    rcases a with z | x | k
    · show ([Slot.val _] ++ List.flatMap _ (as.map (cv ad))).length = (some _ :: argL as).length
      rw [List.length_append, e]; simp; omega
    · show ([Slot.val _, Slot.second] ++ List.flatMap _ (as.map (cv ad))).length = (some _ :: none :: argL as).length
      rw [List.length_append, e]; simp; omega
    · show ([Slot.val _] ++ List.flatMap _ (as.map (cv ad))).length = (some _ :: argL as).length
      rw [List.length_append, e]; simp; omega

section RC
variable {p : Program} {l : Launch} {e : Env} {R : Room} {s : State} {m : MethodId} {args : Array Value} {below : List Frame} {meth : Method} {c : Code} {Q : State → Prop} {cells slots nL : Nat} {D : va_G} {cA : Nat → ClassId} {ad : Nat → Nat} {A : Nat → Prop} {L : List LC} {w : St} {pc : Nat} {ls : List (Option AV)} {st : List AV} {cc : ByteArray} {own : String}


theorem World.pre {H : Heap} {locs : List Loc} (hC : Cx p s m args c cc nL own D cA ad A L) (o1 : okP (pj w 0 L)) (hP : va_P D vwCl (wsP ad cA 0 (pj w 0 L)) H) (hS : va_S A s.heap H locs) {U : State} (hU : U.heap = H) (hW : s.WarmedH U.vm) : World D cA ad A L w U :=
  ⟨o1, by rw [hU]; exact hP, va_K.moved hW.alike hC.2.2.2.2.2.1, hC.2.2.2.2.2.2.1, hC.2.2.2.2.2.2.2.1, ExtV.warm hW hC.2.2.2.2.2.2.2.2.1, by rw [hU]; exact (ExtH.kept hC.2.2.2.2.2.2.2.2.2 hS.2.1).moved hW.alike⟩
theorem World.blind {U : State} (g : JFrame) (mk : MethodId) (a : Array Value) (h : World D cA ad A L w U) : World D cA ad A L w (U.calling g mk a) :=
  ⟨h.1, h.2.1, va_K.moved (u := U) (U := U.calling g mk a) (Vm.Alike.refl U.vm) h.2.2.1, h.2.2.2.1, h.2.2.2.2.1, ExtV.same (s := U) (U := U.calling g mk a) rfl h.2.2.2.2.2.1, ExtH.moved (u := U) (U := U.calling g mk a) (Vm.Alike.refl U.vm) h.2.2.2.2.2.2⟩
theorem q_run {H : Heap} {locs : List Loc} {la : Array Slot} {rest st0 : List Value} {ok : Option AV → St → Prop} {a : Array Value} (hr : va_Run p l e R s m args below meth c H locs cells slots 0 0 (F0 m pc la st0) rest (QcW D cA ad A L ok a) A) (hS : va_S A s.heap H locs)
    (kk : ∀ (r : Option AV) (w' : St) (t : State) (H1 : Heap) (locs1 : List Loc), t.heap = H1 → (∀ v, r = some v → okv v) → ok r w' → World D cA ad A L w' t → va_S A s.heap H1 locs1 → W p l e R s m args below meth c H1 locs1 cells slots Q (F0 m (pc + 3) la ((r.map (cv ad)).toList ++ rest))) : W p l e R s m args below meth c H locs cells slots Q (F0 m pc la st0) := by
  intro T hT X
  obtain ⟨v, st₀, t, T', L9, h0, X', hL, e1, e2, ⟨r, w', hv, hok, hq, hw, hz, hk⟩, st⟩ := hr T hT X
  cases hv
  rw [h0] at hz hk
  obtain ⟨t2, a1, b1⟩ := kk r w' t T'.heap (locs ++ L9) e1.symm hok hq hw
    ⟨Nat.le_trans hS.1 (by rw [e1]; exact hz), fun q h1 h2 => by rw [e1, hk q (Nat.lt_of_lt_of_le h1 hS.1) h2]; exact hS.2.1 q h1 h2, fun q hq => by
      rcases List.mem_append.mp hq with h | h
      · exact hS.2.2 q h
      · exact hL q h⟩ T' rfl X'
  exact ⟨t2, st t2 a1, b1⟩
def rsum (st : List AV) : Nat := (st.map (fun v => if isL v then 2 else 1)).sum
theorem rsum_cat (ad : Nat → Nat) (st : List AV) : ((st.map (cv ad)).map fun v => v.category).sum = rsum st := by
  unfold rsum
  rw [List.map_map]
  congr 1
  apply List.map_congr_left
  intro v _
  rcases v with z | x | k <;> rfl
/-- a method that the tables name: what a call of it needs -/
def MY (y : MethodName) (cc : ByteArray) (nL : Nat) (ret : Option FieldType) (n : Nat) : Prop := Cond.initialized y.cls ∈ gw ∧ Cond.code y cc nL ret ∈ gw ∧ y.cls ≠ "java/lang/invoke/MethodHandle" ∧ y.cls ≠ "java/lang/invoke/VarHandle" ∧ (parseMethodDescriptor y.desc).map (fun d => d.parameters.length) = some n ∧ plainName y.cls = true
def MI (y : MethodName) : Prop := Cond.instanceMethod y ∈ gw ∧ Cond.selects y.cls y y ∈ gw
theorem gw_self {z : Cond} (hz : z ∈ gw) : GoodIn gw (z :: gw) := by
  intro w hw
  rcases List.mem_cons.mp hw with rfl | hw
  · exact ⟨hz, good_of_word (gw_good hz)⟩
  · exact ⟨hw, good_of_word (gw_good hw)⟩
theorem gw_app {a b : List Cond} (ha : ∀ w ∈ a, w ∈ gw) (hb : GoodIn gw b) : GoodIn gw (a ++ b) := fun w h => (List.mem_append.mp h).elim (fun h => ⟨ha w h, good_of_word (gw_good (ha w h))⟩) (hb w)
theorem gw_V {own : String} {idx : Nat} {y : MethodName} {z : Cond} (h1 : Cond.methodLink own idx y ∈ gw) (h2 : Cond.instanceMethod y ∈ gw) (h3 : Cond.selects y.cls y y ∈ gw) (h4 : Cond.initialized y.cls ∈ gw) (hz : z ∈ gw) : GoodIn gw (wsV own idx y.cls y (z :: gw)) := by
  refine gw_app (a := [.methodLink own idx y, .instanceMethod y, .selects y.cls y y, .initialized y.cls]) ?_ (gw_self hz)
  intro w h
  simp only [List.mem_cons, List.not_mem_nil, or_false] at h
  rcases h with rfl | rfl | rfl | rfl <;> assumption
theorem gw_S {own : String} {idx : Nat} {y : MethodName} {z : Cond} (h1 : Cond.methodLink own idx y ∈ gw) (h2 : Cond.static y ∈ gw) (h4 : Cond.initialized y.cls ∈ gw) (hz : z ∈ gw) : GoodIn gw (va_wsS own idx y (z :: gw)) := by
  refine gw_app (a := [.methodLink own idx y, .static y, .initialized y.cls]) ?_ (gw_self hz)
  intro w h
  simp only [List.mem_cons, List.not_mem_nil, or_false] at h
  rcases h with rfl | rfl | rfl <;> assumption

theorem r_callV (hC : Cx p s m args c cc nL own D cA ad A L) {y : MethodName} {cc2 : ByteArray} {nL2 d n idx : Nat} {ret : Option FieldType} {as st2 : List AV} {ok : Option AV → St → Prop} {k ci N : Nat} {T : u_T} {fs : List (Nat ⊕ Option Nat)} (hd : decode cc pc = .ok (.invokevirtual idx, 3)) (hM : Cn l y cc2 nL2 ret d L w (aR k :: as) ok) (hlk : Cond.methodLink own idx y ∈ gw) (hm : MY y cc2 nL2 ret n) (hi : MI y) (hk : L[k]? = some (.inl (ci, fs))) (hc : vwCl[ci]? = some (y.cls, T, N)) (hn : as.length = n) (hR : d + 1 ≤ R.frames ∧ 8 + (nL2 + 11) + 40 * d ≤ R.locals) (hcs : cells + 0 ≤ R.cells ∧ slots + 0 ≤ R.slots) (h8 : rsum st2 ≤ 8) (hst : st = as.reverse ++ (aR k :: st2)) (kk : ∀ (r : Option AV) (w' : St), ok r w' → Wd p l e R s m args below meth c Q cells slots nL D cA ad A L w' (pc + 3) (ls) (r.toList ++ st2)) : Wd p l e R s m args below meth c Q cells slots nL D cA ad A L w (pc) (ls) (st) := by
  intro H locs la o1 o2 o3 hP hS hl
  have ha : okS (aR k :: as) := okS_c trivial (fun v hv => o3 v (by rw [hst]; exact List.mem_append_left _ (List.mem_reverse.mpr hv)))
  refine q_run (va_runV (C := y.cls) (b := ad k) (As := as.map (cv ad)) (rest := st2.map (cv ad)) ⟨hC.1, hC.2.1, hC.2.2.1, hC.2.2.2.1, hC.2.2.2.2.1⟩ (hM D cA ad A ha) (cwV (C := y.cls) n hC.2.2.2.2.1 (gw_V hlk hi.1 hi.2 hm.1 hm.2.1) rfl rfl rfl ⟨rfl, hm.2.2.1, hm.2.2.2.1, hm.2.2.2.2.1⟩ hR)
    ⟨fun a U g mk q => ⟨q.1, World.blind g mk a q.2⟩, va_recv hC.2.2.2.2.2.1 hP hc (ws_at w hk), fun U hU hW => ⟨rfl, World.pre hC o1 hP hS hU hW⟩⟩ rfl (by rw [List.length_map]; exact hn) hl.1 (by rw [hst, List.map_append, List.map_reverse]; rfl) (lv_room (by rw [rsum_cat]; exact h8)) hd hcs) hS (fun r w' t H1 locs1 ht hok hq hw hS1 => ?_)
  have e := kk r w' hq H1 locs1 la hw.1 o2 (fun v hv => by
    rcases List.mem_append.mp hv with h | h
    · exact hok v (by simpa using h)
    · exact o3 v (by rw [hst]; exact List.mem_append_right _ (List.mem_cons_of_mem _ h))) (by rw [← ht]; exact hw.2.1) hS1 hl
  rw [List.map_append] at e
  cases r <;> exact e
theorem r_callVN (hC : Cx p s m args c cc nL own D cA ad A L) {y : MethodName} {cc2 : ByteArray} {nL2 d n idx : Nat} {ret : Option FieldType} {as st2 : List AV} {ok : Option AV → St → Prop} {k ci N : Nat} {T : u_T} {fs : List (Nat ⊕ Option Nat)} (hd : decode cc pc = .ok (.invokevirtual idx, 3)) (hM : Cn l y cc2 nL2 ret d L w (aR k :: as) ok) {host : String} (hlk : Cond.methodLinkNest own idx y host ∈ nw) (hm : MY y cc2 nL2 ret n) (hi : MI y) (hk : L[k]? = some (.inl (ci, fs))) (hc : vwCl[ci]? = some (y.cls, T, N)) (hn : as.length = n) (hR : d + 1 ≤ R.frames ∧ 8 + (nL2 + 11) + 40 * d ≤ R.locals) (hcs : cells + 0 ≤ R.cells ∧ slots + 0 ≤ R.slots) (h8 : rsum st2 ≤ 8) (hst : st = as.reverse ++ (aR k :: st2)) (kk : ∀ (r : Option AV) (w' : St), ok r w' → Wd p l e R s m args below meth c Q cells slots nL D cA ad A L w' (pc + 3) (ls) (r.toList ++ st2)) : Wd p l e R s m args below meth c Q cells slots nL D cA ad A L w (pc) (ls) (st) := by
  intro H locs la o1 o2 o3 hP hS hl
  have ha : okS (aR k :: as) := okS_c trivial (fun v hv => o3 v (by rw [hst]; exact List.mem_append_left _ (List.mem_reverse.mpr hv)))
  refine q_run (va_runVN (C := y.cls) (b := ad k) (As := as.map (cv ad)) (rest := st2.map (cv ad)) ⟨hC.1, hC.2.1, hC.2.2.1, hC.2.2.2.1, hC.2.2.2.2.1⟩ (hM D cA ad A ha) ⟨va_cnB n hC.2.2.2.2.1 (gw_self hm.2.1) rfl rfl rfl (hC.2.2.2.2.2.2.2.2.1.1 _ hlk) (hC.2.2.2.2.1 _ hm.1) ⟨hm.2.2.1, hm.2.2.2.1, hm.2.2.2.2.1⟩ hR, hC.2.2.2.2.1 _ hi.1, hC.2.2.2.2.1 _ hi.2⟩
    ⟨fun a U g mk q => ⟨q.1, World.blind g mk a q.2⟩, va_recv hC.2.2.2.2.2.1 hP hc (ws_at w hk), fun U hU hW => ⟨rfl, World.pre hC o1 hP hS hU hW⟩⟩ rfl (by rw [List.length_map]; exact hn) hl.1 (by rw [hst, List.map_append, List.map_reverse]; rfl) (lv_room (by rw [rsum_cat]; exact h8)) hd hcs) hS (fun r w' t H1 locs1 ht hok hq hw hS1 => ?_)
  have e := kk r w' hq H1 locs1 la hw.1 o2 (fun v hv => by
    rcases List.mem_append.mp hv with h | h
    · exact hok v (by simpa using h)
    · exact o3 v (by rw [hst]; exact List.mem_append_right _ (List.mem_cons_of_mem _ h))) (by rw [← ht]; exact hw.2.1) hS1 hl
  rw [List.map_append] at e
  cases r <;> exact e
theorem r_callS (hC : Cx p s m args c cc nL own D cA ad A L) {y : MethodName} {cc2 : ByteArray} {nL2 d n idx : Nat} {ret : Option FieldType} {as st2 : List AV} {ok : Option AV → St → Prop} (hd : decode cc pc = .ok (.invokestatic idx, 3)) (hM : Cn l y cc2 nL2 ret d L w as ok) (hlk : Cond.methodLink own idx y ∈ gw) (hm : MY y cc2 nL2 ret n) (hi : Cond.static y ∈ gw) (hn : as.length = n) (hR : d + 1 ≤ R.frames ∧ 8 + (nL2 + 11) + 40 * d ≤ R.locals) (hcs : cells + 0 ≤ R.cells ∧ slots + 0 ≤ R.slots) (h8 : rsum st2 ≤ 8) (hst : st = as.reverse ++ st2) (kk : ∀ (r : Option AV) (w' : St), ok r w' → Wd p l e R s m args below meth c Q cells slots nL D cA ad A L w' (pc + 3) (ls) (r.toList ++ st2)) : Wd p l e R s m args below meth c Q cells slots nL D cA ad A L w (pc) (ls) (st) := by
  intro H locs la o1 o2 o3 hP hS hl
  have ha : okS as := fun v hv => o3 v (by rw [hst]; exact List.mem_append_left _ (List.mem_reverse.mpr hv))
  refine q_run (va_runS (As := as.map (cv ad)) (rest := st2.map (cv ad)) ⟨hC.1, hC.2.1, hC.2.2.1, hC.2.2.2.1, hC.2.2.2.2.1⟩ (hM D cA ad A ha) (va_cwS n hC.2.2.2.2.1 (gw_S hlk hi hm.1 hm.2.1) rfl rfl rfl ⟨hm.2.2.1, hm.2.2.2.1, hm.2.2.2.2.1⟩ hR)
    ⟨fun a U g mk q => ⟨q.1, World.blind g mk a q.2⟩, fun U hU hW => ⟨rfl, World.pre hC o1 hP hS hU hW⟩⟩ rfl (by rw [List.length_map]; exact hn) hl.1 (by rw [hst, List.map_append, List.map_reverse]) (lv_room (by rw [rsum_cat]; exact h8)) hd hcs) hS (fun r w' t H1 locs1 ht hok hq hw hS1 => ?_)
  have e := kk r w' hq H1 locs1 la hw.1 o2 (fun v hv => by
    rcases List.mem_append.mp hv with h | h
    · exact hok v (by simpa using h)
    · exact o3 v (by rw [hst]; exact List.mem_append_right _ h)) (by rw [← ht]; exact hw.2.1) hS1 hl
  rw [List.map_append] at e
  cases r <;> exact e
theorem r_callSN (hC : Cx p s m args c cc nL own D cA ad A L) {y : MethodName} {cc2 : ByteArray} {nL2 d n idx : Nat} {ret : Option FieldType} {as st2 : List AV} {ok : Option AV → St → Prop} (hd : decode cc pc = .ok (.invokestatic idx, 3)) (hM : Cn l y cc2 nL2 ret d L w as ok) {host : String} (hlk : Cond.methodLinkNest own idx y host ∈ nw) (hm : MY y cc2 nL2 ret n) (hi : Cond.static y ∈ gw) (hn : as.length = n) (hR : d + 1 ≤ R.frames ∧ 8 + (nL2 + 11) + 40 * d ≤ R.locals) (hcs : cells + 0 ≤ R.cells ∧ slots + 0 ≤ R.slots) (h8 : rsum st2 ≤ 8) (hst : st = as.reverse ++ st2) (kk : ∀ (r : Option AV) (w' : St), ok r w' → Wd p l e R s m args below meth c Q cells slots nL D cA ad A L w' (pc + 3) (ls) (r.toList ++ st2)) : Wd p l e R s m args below meth c Q cells slots nL D cA ad A L w (pc) (ls) (st) := by
  intro H locs la o1 o2 o3 hP hS hl
  have ha : okS as := fun v hv => o3 v (by rw [hst]; exact List.mem_append_left _ (List.mem_reverse.mpr hv))
  refine q_run (va_runSN (As := as.map (cv ad)) (rest := st2.map (cv ad)) ⟨hC.1, hC.2.1, hC.2.2.1, hC.2.2.2.1, hC.2.2.2.2.1⟩ (hM D cA ad A ha) ⟨va_cnB n hC.2.2.2.2.1 (gw_self hm.2.1) rfl rfl rfl (hC.2.2.2.2.2.2.2.2.1.1 _ hlk) (hC.2.2.2.2.1 _ hm.1) ⟨hm.2.2.1, hm.2.2.2.1, hm.2.2.2.2.1⟩ hR, hC.2.2.2.2.1 _ hi, trivial⟩
    ⟨fun a U g mk q => ⟨q.1, World.blind g mk a q.2⟩, fun U hU hW => ⟨rfl, World.pre hC o1 hP hS hU hW⟩⟩ rfl (by rw [List.length_map]; exact hn) hl.1 (by rw [hst, List.map_append, List.map_reverse]) (lv_room (by rw [rsum_cat]; exact h8)) hd hcs) hS (fun r w' t H1 locs1 ht hok hq hw hS1 => ?_)
  have e := kk r w' hq H1 locs1 la hw.1 o2 (fun v hv => by
    rcases List.mem_append.mp hv with h | h
    · exact hok v (by simpa using h)
    · exact o3 v (by rw [hst]; exact List.mem_append_right _ h)) (by rw [← ht]; exact hw.2.1) hS1 hl
  rw [List.map_append] at e
  cases r <;> exact e

theorem r_iret {ok : Option AV → St → Prop} {kd : Nat} {z : Int} (hC : Cx p s m args c cc nL own D cA ad A L) (hd : decode cc pc = .ok (.ireturn, 1)) (hr : meth.sig.returnType = some (kdT kd)) (hlocks : meth.locks = false) (h3 : kd < 3) (hz : kd = 0 ∨ okK kd z) (hq : ok (some (aI z)) w) : Wd p l e R s m args below meth c (MQ below (QcW D cA ad A L ok) args s 0 0 A) 0 0 nL D cA ad A L w pc ls [aI z] := by
  intro H locs la o1 o2 o3 hP hS hl
  have hz : okK kd z := by
    rcases hz with rfl | hz
    · exact okS_h o3
    · exact hz
  exact W.zret (v := Int32.ofInt z) hC.1 hC.2.1 hr (nar_ok h3 hz).1 (fun t ht hW => ⟨some (aI z), w, rfl, fun v hv => by cases hv; exact okS_h o3, hq, World.pre hC o1 hP hS ht hW, hS.F ht⟩) hS.2.2 hd hlocks
theorem r_lret {ok : Option AV → St → Prop} {z : Int64} (hC : Cx p s m args c cc nL own D cA ad A L) (hd : decode cc pc = .ok (.lreturn, 1)) (hr : meth.sig.returnType = some .long) (hlocks : meth.locks = false) (hq : ok (some (aL z)) w) : Wd p l e R s m args below meth c (MQ below (QcW D cA ad A L ok) args s 0 0 A) 0 0 nL D cA ad A L w pc ls [aL z] := by
  intro H locs la o1 o2 o3 hP hS hl
  exact W.lret (v := z) hC.1 hC.2.1 hr (fun t ht hW => ⟨some (aL z), w, rfl, fun v hv => by cases hv; exact okS_h o3, hq, World.pre hC o1 hP hS ht hW, hS.F ht⟩) hS.2.2 hd hlocks
theorem r_vret {ok : Option AV → St → Prop} (hC : Cx p s m args c cc nL own D cA ad A L) (hd : decode cc pc = .ok (.return_, 1)) (hr : meth.sig.returnType = none) (hlocks : meth.locks = false) (hq : ok none w) : Wd p l e R s m args below meth c (MQ below (QcW D cA ad A L ok) args s 0 0 A) 0 0 nL D cA ad A L w pc ls [] := by
  intro H locs la o1 o2 o3 hP hS hl
  exact W.vret hC.1 hC.2.1 hr (fun t ht hW => ⟨none, w, rfl, fun v hv => (by cases hv), hq, World.pre hC o1 hP hS ht hW, hS.F ht⟩) hS.2.2 hd hlocks
theorem Cn.of {y : MethodName} {d : Nat} {ret : Option FieldType} {as : List AV} {ok : Option AV → St → Prop} (hy : plainName y.cls = true) (hsz : (argL as).length ≤ nL)
    (body : ∀ (p : Program) (e : Env) (s : State) (m : MethodId) (args : Array Value) (below : List Frame) (meth : Method) (c : Code) (D : va_G) (cA : Nat → ClassId) (ad : Nat → Nat) (A : Nat → Prop), Cx p s m args c cc nL y.cls D cA ad A L → meth.sig.returnType = ret → meth.locks = false → Wd p l e (rmD d) s m args below meth c (MQ below (QcW D cA ad A L ok) args s 0 0 A) 0 0 nL D cA ad A L w 0 (argL as) []) : Cn l y cc nL ret d L w as ok := by
  intro D cA ad A hoks
  refine Met.ofW (cc := cc) (maxL := nL) (ret := ret) hy rfl ?_
  intro p e s m args below meth c s₁ B hml hv
  obtain ⟨rfl, hW⟩ := hv
  have hts := atoms_spec (ws := Cond.code y cc nL ret :: gw) B.pre
  have hown : s.vm.findClass y.cls = some m.cls := findClass_of_methodNamed B.named
  have hl := lv_entry (as.map (cv ad)) (n := nL) (by rw [argL_sz]; exact hsz)
  rw [lg_entry_eq]
  generalize (lg_sl (as.map (cv ad)) ++ List.replicate (nL - (lg_sl (as.map (cv ad))).length) Slot.unset).toArray = la at hl ⊢
  exact body p e s m _ below meth c D cA ad A ⟨B.exec, B.bytes, hml, hown, fun w9 h9 => hts w9 (List.mem_cons_of_mem _ h9), hW.2.2.1, hW.2.2.2.1, hW.2.2.2.2.1, hW.2.2.2.2.2.1, hW.2.2.2.2.2.2⟩ B.returns B.notSynchronized s.heap [] la hW.1 (argL_ok hoks) (fun v hv => by cases hv) hW.2.1 va_S.rf ⟨hl.1, hl.2.1, fun i v hv => hl.2.2 (i, cv ad v) (by have h9 := argL_args ad as 0 i v hv; rw [Nat.zero_add] at h9; exact h9)⟩

end RC
