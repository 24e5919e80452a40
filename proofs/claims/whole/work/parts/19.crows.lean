
/-! contracts of constructors: from a layout to a grown one -/
def rmC (d mc ms : Nat) : Room := { frames := d, cells := mc, slots := ms, locals := 40 * d }
def QcC (D : va_G) (cA : Nat → ClassId) (ad : Nat → Nat) (A : Nat → Prop) (n0 : Nat) (L' : List LC) (w' : St) : Array Value → State → Outcome → State → Prop := fun _ st o t =>
  o = .returned none ∧ ∃ ad' : Nat → Nat, (∀ k, k < n0 ∨ 8000 ≤ k → ad' k = ad k) ∧ World D cA ad' A L' w' t ∧ va_F A st t
def CnC (l : Launch) (y : MethodName) (cc : ByteArray) (nL d mc ms : Nat) (L : List LC) (w : St) (as : List AV) (L' : List LC) (w' : St) : Prop :=
  ∀ (D : va_G) (cA : Nat → ClassId) (ad : Nat → Nat) (A : Nat → Prop), okS as → Met l y (Cond.code y cc nL none :: gw) (rmC d mc ms) (fun v U => v = (as.map (cv ad)).toArray ∧ World D cA ad A L w U ∧ ∀ q, U.heap.size ≤ q → A q) (QcC D cA ad A L.length L' w') mc ms A
/-- a final field that holds a cell: link and type -/
def PLF (own : String) (idx ci j : Nat) : Prop := ∃ (C : String) (T : u_T) (N : Nat) (ty0 : Nat → FieldType) (ty : FieldType), vwCl[ci]? = some (C, T, N) ∧ j < N ∧ Cond.fieldLink own idx (T j).1 (T j).2.1 (T j).2.2.1 ∈ gw ∧ (∀ w ∈ u_ws C T N, w ∈ gw) ∧ (∀ k, k < N → parseFieldDescriptor (T k).2.2.1 = some (ty0 k)) ∧ (∀ a, a < N → ∀ b, b < N → a ≠ b → (T a).2.1 ≠ (T b).2.1) ∧ (T j).2.2.2 = true ∧ (T j).1 = own ∧ parseFieldDescriptor (T j).2.2.1 = some ty ∧ (∀ a, narrow ty (.ref a) = .ref a) ∧ (∀ a, fits ty (.ref a) = true)
theorem fdC_setr (g : Nat → Int) (r : Nat) : ∀ (fs : List (Nat ⊕ Option Nat)) (i j : Nat), fs[j]? = some (.inr none) → (fdC g i fs).set j (.inr (some r)) = fdC g i (fs.set j (.inr (some r)))
  | [], _, _, h => by cases h
  | .inl a :: fs, i, 0, h => by cases h
  | .inr a :: fs, i, 0, h => rfl
  | .inl a :: fs, i, j + 1, h => by
    show Sum.inl (a, g i) :: (fdC g (i + 1) fs).set j (.inr (some r)) = Sum.inl (a, g i) :: fdC g (i + 1) (fs.set j (.inr (some r)))
    rw [fdC_setr g r fs (i + 1) j h]
  | .inr a :: fs, i, j + 1, h => by
    show Sum.inr a :: (fdC g (i + 1) fs).set j (.inr (some r)) = Sum.inr a :: fdC g (i + 1) (fs.set j (.inr (some r)))
    rw [fdC_setr g r fs (i + 1) j h]
theorem pj_setL (w : St) : ∀ (L : List LC) (i k : Nat) (c : LC), pj w i (L.set k c) = (pj w i L).set k (ctC w (i + k) c)
  | [], _, _, _ => rfl
  | d :: L, i, 0, c => rfl
  | d :: L, i, k + 1, c => by
    show ctC w i d :: pj w (i + 1) (L.set k c) = ctC w i d :: (pj w (i + 1) L).set k (ctC w (i + (k + 1)) c)
    rw [pj_setL w L (i + 1) k c, show i + 1 + k = i + (k + 1) by omega]
section RCT

variable {p : Program} {l : Launch} {e : Env} {R : Room} {s : State} {m : MethodId} {args : Array Value} {below : List Frame} {meth : Method} {c : Code} {Q : State → Prop} {cells slots nL : Nat} {D : va_G} {cA : Nat → ClassId} {ad : Nat → Nat} {A : Nat → Prop} {L : List LC} {w : St} {pc : Nat} {ls : List (Option AV)} {st : List AV} {cc : ByteArray} {own : String}


theorem Cx.setL {k : Nat} {x : LC} (hC : Cx p s m args c cc nL own D cA ad A L) : Cx p s m args c cc nL own D cA ad A (L.set k x) := by
  obtain ⟨h1, h2, h3, h4, h5, h6, h7, h8, h9, h10⟩ := hC
  exact ⟨h1, h2, h3, h4, h5, h6, fun i j hi hj => h7 i j (by rw [List.length_set] at hi; exact hi) (by rw [List.length_set] at hj; exact hj), fun i hi => h8 i (by rw [List.length_set] at hi; exact hi), h9, h10⟩
theorem r_putR (hC : Cx p s m args c cc nL own D cA ad A L) {idx k j ci r : Nat} {fs : List (Nat ⊕ Option Nat)} {L2 : List LC} (hd : decode cc pc = .ok (.putfield idx, 3)) (pl : PLF own idx ci j) (hin2 : meth.name = "<init>") (hk : L[k]? = some (.inl (ci, fs))) (hj : fs[j]? = some (.inr none)) (hL : L.set k (.inl (ci, fs.set j (.inr (some r)))) = L2) (kk : Cx p s m args c cc nL own D cA ad A L2 → Wd p l e R s m args below meth c Q cells slots nL D cA ad A L2 w (pc + 3) ls st) : Wd p l e R s m args below meth c Q cells slots nL D cA ad A L w (pc) (ls) (aR r :: aR k :: st) := by
  intro H locs la o1 o2 o3 hP hS hl
  obtain ⟨C, T, N, ty0, ty, hc, hN, hlk, hin, hty, hnm, hfin, hdecl, hdsc, hnar, hfit⟩ := pl
  have e := fdC_ref (w.1 k) fs 0 j none hj
  have hlen : j < ((fdC (w.1 k) 0 fs).map (fvV ad)).length := by rw [List.length_map]; exact (List.getElem?_eq_some_iff.mp e).1
  have hset : (((fdC (w.1 k) 0 fs).map (fvV ad)).set j (.ref (ad r))) = (fdC (w.1 k) 0 (fs.set j (.inr (some r)))).map (fvV ad) := by
    rw [show Value.ref (ad r) = fvV ad (.inr (some r)) from rfl, ← List.map_set, fdC_setr (w.1 k) r fs 0 j hj]
  have hpj : pj w 0 L2 = (pj w 0 L).set k (ctC w k (.inl (ci, fs.set j (.inr (some r))))) := by rw [← hL, pj_setL, Nat.zero_add]
  have hw : (wsP ad cA 0 (pj w 0 L)).set k (ad k, .inr (ci, (((fdC (w.1 k) 0 fs).map (fvV ad)).set j (.ref (ad r))))) = wsP ad cA 0 (pj w 0 L2) := by
    have e9 := wsP_set ad cA (pj w 0 L) 0 k (ctC w k (.inl (ci, fs.set j (.inr (some r)))))
    rw [Nat.zero_add] at e9
    rw [hset, hpj, ← e9]
    rfl
  have hok : okP (pj w 0 L2) := by
    rw [hpj]
    refine okP_set o1 ?_
    intro a kd2 z2 h2
    have h2 : (fdC (w.1 k) 0 (fs.set j (.inr (some r))))[a]? = some (.inl (kd2, z2)) := h2
    rw [← fdC_setr (w.1 k) r fs 0 j hj, List.getElem?_set] at h2
    split at h2
    · split at h2
      · cases h2
      · cases h2
    · exact ok_at hk o1 a kd2 z2 h2
  refine va_putF (D := D) (ci := ci) (C := C) (T := T) (N := N) (v := .ref (ad r)) (ty := ty) hC.1 hC.2.1 hC.2.2.2.2.1 hin ty0 hty hnm hC.2.2.2.1 hC.2.2.2.2.2.1 hP (wsD hC w) hS k (ws_at w hk) hc j hN (hC.2.2.2.2.1 _ hlk) q_same hfin hin2 hdecl hdsc (hnar _) (hfit _) hlen hd (fun H1 locs1 hP1 hD1 hS1 => ?_)
  rw [hw] at hP1
  exact kk (by rw [← hL]; exact Cx.setL hC) H1 locs1 la hok o2 (okS_t (okS_t o3)) hP1 hS1 hl
theorem q_runC {H : Heap} {locs : List Loc} {la : Array Slot} {rest st0 : List Value} {mc ms n0 : Nat} {L' : List LC} {w' : St} {a : Array Value} (hr : va_Run p l e R s m args below meth c H locs cells slots mc ms (F0 m pc la st0) rest (QcC D cA ad A n0 L' w' a) A) (hS : va_S A s.heap H locs)
    (kk : ∀ (ad' : Nat → Nat) (t : State) (H1 : Heap) (locs1 : List Loc), t.heap = H1 → (∀ k, k < n0 ∨ 8000 ≤ k → ad' k = ad k) → World D cA ad' A L' w' t → va_S A s.heap H1 locs1 → W p l e R s m args below meth c H1 locs1 (cells + mc) (slots + ms) Q (F0 m (pc + 3) la rest)) : W p l e R s m args below meth c H locs cells slots Q (F0 m pc la st0) := by
  intro T hT X
  obtain ⟨v, st₀, t, T', L9, h0, X', hL, e1, e2, ⟨hv, ad', hag, hw, hz, hk⟩, st⟩ := hr T hT X
  cases hv
  rw [h0] at hz hk
  obtain ⟨t2, a1, b1⟩ := kk ad' t T'.heap (locs ++ L9) e1.symm hag hw
    ⟨Nat.le_trans hS.1 (by rw [e1]; exact hz), fun q h1 h2 => by rw [e1, hk q (Nat.lt_of_lt_of_le h1 hS.1) h2]; exact hS.2.1 q h1 h2, fun q hq => by
      rcases List.mem_append.mp hq with h | h
      · exact hS.2.2 q h
      · exact hL q h⟩ T' rfl X'
  exact ⟨t2, st t2 a1, b1⟩

theorem r_callC (hC : Cx p s m args c cc nL own D cA ad A L) {y : MethodName} {cc2 : ByteArray} {nL2 d n idx k mc ms : Nat} {L2 : List LC} {w2 : St} (as st2 : List AV) (hd : decode cc pc = .ok (.invokespecial idx, 3)) (hlk : Cond.methodLink own idx y ∈ gw) (hm : MY y cc2 nL2 none n) (hi : Cond.instanceMethod y ∈ gw) (hy : y.name = "<init>") (hn : as.length = n) (hR : d + 1 ≤ R.frames ∧ 8 + (nL2 + 11) + 40 * d ≤ R.locals) (hcs : cells + mc ≤ R.cells ∧ slots + ms ≤ R.slots) (h8 : rsum st2 ≤ 8) (hst : st = as.reverse ++ (aR k :: st2)) (hA : ∀ q, s.heap.size ≤ q → A q) (hls : ls.all (okro L.length) = true) (hs2 : st2.all (okr L.length) = true) (hM : CnC l y cc2 nL2 d mc ms L w (aR k :: as) L2 w2) (kk : ∀ ad' : Nat → Nat, (∀ k, k < L.length ∨ 8000 ≤ k → ad' k = ad k) → Cx p s m args c cc nL own D cA ad' A L2 → Wd p l e R s m args below meth c Q (cells + mc) (slots + ms) nL D cA ad' A L2 w2 (pc + 3) ls st2) : Wd p l e R s m args below meth c Q cells slots nL D cA ad A L w (pc) (ls) (st) := by
  intro H locs la o1 o2 o3 hP hS hl
  have ha : okS (aR k :: as) := okS_c trivial (fun v hv => o3 v (by rw [hst]; exact List.mem_append_left _ (List.mem_reverse.mpr hv)))
  refine q_runC (va_runI (b := ad k) (As := as.map (cv ad)) (rest := st2.map (cv ad)) ⟨hC.1, hC.2.1, hC.2.2.1, hC.2.2.2.1, hC.2.2.2.2.1⟩ (hM D cA ad A ha) ⟨callB_of n hC.2.2.2.2.1 (gw_self hm.2.1) rfl rfl rfl (hC.2.2.2.2.1 _ hm.1) (hC.2.2.2.2.1 _ hlk) ⟨hm.2.2.1, hm.2.2.2.1, hm.2.2.2.2.1⟩ hR, hy, hC.2.2.2.2.1 _ hi⟩
    ⟨fun a U g mk q => ⟨q.1, World.blind g mk a q.2.1, q.2.2⟩, fun U hU hW => ⟨rfl, World.pre hC o1 hP hS hU hW, fun q hq => hA q (by rw [hU] at hq; exact Nat.le_trans hS.1 hq)⟩⟩ rfl (by rw [List.length_map]; exact hn) hl.1 (by rw [hst, List.map_append, List.map_reverse]; rfl) (lv_room (by rw [rsum_cat]; exact h8)) hd hcs) hS (fun ad' t H1 locs1 ht hag hw hS1 => ?_)
  have e9 := kk ad' hag ⟨hC.1, hC.2.1, hC.2.2.1, hC.2.2.2.1, hC.2.2.2.2.1, hC.2.2.2.2.2.1, hw.2.2.2.1, hw.2.2.2.2.1, ExtV.cong (fun k hk => hag k (Or.inr hk)) hC.2.2.2.2.2.2.2.2.1, ExtH.cong (fun k hk => hag k (Or.inr hk)) hC.2.2.2.2.2.2.2.2.2⟩ H1 locs1 la hw.1 o2 (fun v hv => o3 v (by rw [hst]; exact List.mem_append_right _ (List.mem_cons_of_mem _ hv))) (by rw [← ht]; exact hw.2.1) hS1 (lhas_cong hag hls hl)
  rw [st_cong hag hs2] at e9
  exact e9
theorem r_callCN (hC : Cx p s m args c cc nL own D cA ad A L) {y : MethodName} {cc2 : ByteArray} {nL2 d n idx k mc ms : Nat} {L2 : List LC} {w2 : St} (as st2 : List AV) (hd : decode cc pc = .ok (.invokespecial idx, 3)) {host : String} (hlk : Cond.methodLinkNest own idx y host ∈ nw) (hm : MY y cc2 nL2 none n) (hi : Cond.instanceMethod y ∈ gw) (hy : y.name = "<init>") (hn : as.length = n) (hR : d + 1 ≤ R.frames ∧ 8 + (nL2 + 11) + 40 * d ≤ R.locals) (hcs : cells + mc ≤ R.cells ∧ slots + ms ≤ R.slots) (h8 : rsum st2 ≤ 8) (hst : st = as.reverse ++ (aR k :: st2)) (hA : ∀ q, s.heap.size ≤ q → A q) (hls : ls.all (okro L.length) = true) (hs2 : st2.all (okr L.length) = true) (hM : CnC l y cc2 nL2 d mc ms L w (aR k :: as) L2 w2) (kk : ∀ ad' : Nat → Nat, (∀ k, k < L.length ∨ 8000 ≤ k → ad' k = ad k) → Cx p s m args c cc nL own D cA ad' A L2 → Wd p l e R s m args below meth c Q (cells + mc) (slots + ms) nL D cA ad' A L2 w2 (pc + 3) ls st2) : Wd p l e R s m args below meth c Q cells slots nL D cA ad A L w (pc) (ls) (st) := by
  intro H locs la o1 o2 o3 hP hS hl
  have ha : okS (aR k :: as) := okS_c trivial (fun v hv => o3 v (by rw [hst]; exact List.mem_append_left _ (List.mem_reverse.mpr hv)))
  refine q_runC (va_runIN (b := ad k) (As := as.map (cv ad)) (rest := st2.map (cv ad)) ⟨hC.1, hC.2.1, hC.2.2.1, hC.2.2.2.1, hC.2.2.2.2.1⟩ (hM D cA ad A ha) ⟨va_cnB n hC.2.2.2.2.1 (gw_self hm.2.1) rfl rfl rfl (hC.2.2.2.2.2.2.2.2.1.1 _ hlk) (hC.2.2.2.2.1 _ hm.1) ⟨hm.2.2.1, hm.2.2.2.1, hm.2.2.2.2.1⟩ hR, hy, hC.2.2.2.2.1 _ hi⟩
    ⟨fun a U g mk q => ⟨q.1, World.blind g mk a q.2.1, q.2.2⟩, fun U hU hW => ⟨rfl, World.pre hC o1 hP hS hU hW, fun q hq => hA q (by rw [hU] at hq; exact Nat.le_trans hS.1 hq)⟩⟩ rfl (by rw [List.length_map]; exact hn) hl.1 (by rw [hst, List.map_append, List.map_reverse]; rfl) (lv_room (by rw [rsum_cat]; exact h8)) hd hcs) hS (fun ad' t H1 locs1 ht hag hw hS1 => ?_)
  have e9 := kk ad' hag ⟨hC.1, hC.2.1, hC.2.2.1, hC.2.2.2.1, hC.2.2.2.2.1, hC.2.2.2.2.2.1, hw.2.2.2.1, hw.2.2.2.2.1, ExtV.cong (fun k hk => hag k (Or.inr hk)) hC.2.2.2.2.2.2.2.2.1, ExtH.cong (fun k hk => hag k (Or.inr hk)) hC.2.2.2.2.2.2.2.2.2⟩ H1 locs1 la hw.1 o2 (fun v hv => o3 v (by rw [hst]; exact List.mem_append_right _ (List.mem_cons_of_mem _ hv))) (by rw [← ht]; exact hw.2.1) hS1 (lhas_cong hag hls hl)
  rw [st_cong hag hs2] at e9
  exact e9

theorem r_retC {ad0 : Nat → Nat} {n0 mc ms : Nat} {w' : St} (hC : Cx p s m args c cc nL own D cA ad A L) (hQ : Q = MQ below (QcC D cA ad0 A n0 L w') args s mc ms A) (hw : pj w 0 L = pj w' 0 L) (hag : ∀ k, k < n0 ∨ 8000 ≤ k → ad k = ad0 k) (hm : cells ≤ mc ∧ slots ≤ ms) (hd : decode cc pc = .ok (.return_, 1)) (hr : meth.sig.returnType = none) (hlocks : meth.locks = false) : Wd p l e R s m args below meth c Q cells slots nL D cA ad A L w pc ls [] := by
  subst hQ
  intro H locs la o1 o2 o3 hP hS hl
  rw [hw] at o1 hP
  refine W.widen (k := mc) (n := ms) hm.1 hm.2 ?_
  exact W.vret hC.1 hC.2.1 hr (fun t ht hW => ⟨rfl, ad, hag, World.pre hC o1 hP hS ht hW, hS.F ht⟩) hS.2.2 hd hlocks
theorem CnC.of {y : MethodName} {d mc ms : Nat} {as : List AV} {L' : List LC} {w' : St} (ls0 : List (Option AV)) (hy : plainName y.cls = true) (hyn : y.name = "<init>") (hsz : (argL as).length ≤ nL) (hls : padL nL (argL as) = ls0)
    (body : ∀ (p : Program) (e : Env) (s : State) (m : MethodId) (args : Array Value) (below : List Frame) (meth : Method) (c : Code) (D : va_G) (cA : Nat → ClassId) (ad : Nat → Nat) (A : Nat → Prop) (Q : State → Prop), Q = MQ below (QcC D cA ad A L.length L' w') args s mc ms A → Cx p s m args c cc nL y.cls D cA ad A L → meth.sig.returnType = none → meth.locks = false → meth.name = "<init>" → (∀ q, s.heap.size ≤ q → A q) → Wd p l e (rmC d mc ms) s m args below meth c Q 0 0 nL D cA ad A L w 0 ls0 []) : CnC l y cc nL d mc ms L w as L' w' := by
  intro D cA ad A hoks
  refine Met.ofW (cc := cc) (maxL := nL) (ret := none) hy rfl ?_
  intro p e s m args below meth c s₁ B hml hv
  obtain ⟨rfl, hW, hA⟩ := hv
  have hts := atoms_spec (ws := Cond.code y cc nL none :: gw) B.pre
  have hown : s.vm.findClass y.cls = some m.cls := findClass_of_methodNamed B.named
  have hin : meth.name = "<init>" := (name_of_methodNamed B.named B.method).1.trans hyn
  have hl := lv_entry (as.map (cv ad)) (n := nL) (by rw [argL_sz]; exact hsz)
  rw [lg_entry_eq]
  generalize (lg_sl (as.map (cv ad)) ++ List.replicate (nL - (lg_sl (as.map (cv ad))).length) Slot.unset).toArray = la at hl ⊢
  subst hls
  exact body p e s m _ below meth c D cA ad A _ rfl ⟨B.exec, B.bytes, hml, hown, fun w9 h9 => hts w9 (List.mem_cons_of_mem _ h9), hW.2.2.1, hW.2.2.2.1, hW.2.2.2.2.1, hW.2.2.2.2.2.1, hW.2.2.2.2.2.2⟩ B.returns B.notSynchronized hin hA s.heap [] la hW.1 (fun i v hv => argL_ok hoks i v (padL_at hv)) (fun v hv => by cases hv) hW.2.1 va_S.rf ⟨hl.1, hl.2.1, fun i v hv => hl.2.2 (i, cv ad v) (by have h9 := argL_args ad as 0 i v (padL_at hv); rw [Nat.zero_add] at h9; exact h9)⟩

end RCT
