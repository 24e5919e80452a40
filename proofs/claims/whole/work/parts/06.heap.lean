
/-! links of fields: in class own the entry idx is the field j of class number ci -/
def FL (own : String) (idx ci j : Nat) : Prop := ∃ (C : String) (T : u_T) (N : Nat), vwCl[ci]? = some (C, T, N) ∧ j < N ∧ Cond.fieldLink own idx (T j).1 (T j).2.1 (T j).2.2.1 ∈ gw ∧ ∀ w ∈ u_ws C T N, w ∈ gw
def kdT (kd : Nat) : FieldType := match kd with
  | 1 => .boolean
  | 2 => .byte
  | 3 => .long
  | _ => .int
def PL (own : String) (idx ci j kd : Nat) : Prop := ∃ (C : String) (T : u_T) (N : Nat) (ty0 : Nat → FieldType), vwCl[ci]? = some (C, T, N) ∧ j < N ∧ Cond.fieldLink own idx (T j).1 (T j).2.1 (T j).2.2.1 ∈ gw ∧ (∀ w ∈ u_ws C T N, w ∈ gw) ∧ (∀ k, k < N → parseFieldDescriptor (T k).2.2.1 = some (ty0 k)) ∧ (∀ a, a < N → ∀ b, b < N → a ≠ b → (T a).2.1 ≠ (T b).2.1) ∧ (T j).2.2.2 = false ∧ parseFieldDescriptor (T j).2.2.1 = some (kdT kd)
theorem nar_ok {kd : Nat} {z : Int} (h3 : kd < 3) (h : okK kd z) : narrow (kdT kd) (.int (Int32.ofInt z)) = .int (Int32.ofInt z) ∧ fits (kdT kd) (.int (Int32.ofInt z)) = true := by
  rcases (show kd = 0 ∨ kd = 1 ∨ kd = 2 by omega) with rfl | rfl | rfl
  · exact ⟨rfl, rfl⟩
  · have h : 0 ≤ z ∧ z ≤ 1 := h
    rcases (show z = 0 ∨ z = 1 by omega) with rfl | rfl
    · exact ⟨by decide, by decide⟩
    · exact ⟨by decide, by decide⟩
  · have h : -128 ≤ z ∧ z < 128 := h
    have e : (Int32.ofInt z).toInt8.toInt32 = Int32.ofInt z := by
      apply Int32.toInt_inj.mp
      rw [Int8.toInt_toInt32, Int32.toInt_toInt8, rng_toInt (by unfold rng; omega)]
      exact Int.bmod_eq_of_le (by omega) (by omega)
    have e1 := pk_nb (Int32.ofInt z)
    have e2 := pk_fb (Int32.ofInt z)
    rw [e] at e1 e2
    exact ⟨e1, e2⟩
theorem vp_nar_ok {kd : Nat} {z : Int} (h3 : kd < 3) (h : okK kd z) : vp_nar (kdT kd) (Int32.ofInt z) = Int32.ofInt z := by
  unfold vp_nar
  rw [(nar_ok h3 h).1]
section RH

variable {p : Program} {l : Launch} {e : Env} {R : Room} {s : State} {m : MethodId} {args : Array Value} {below : List Frame} {meth : Method} {c : Code} {Q : State → Prop} {cells slots nL : Nat} {D : va_G} {cA : Nat → ClassId} {ad : Nat → Nat} {A : Nat → Prop} {L : List LC} {w : St} {pc : Nat} {ls : List (Option AV)} {st : List AV} {cc : ByteArray} {own : String}


theorem wsD (hC : Cx p s m args c cc nL own D cA ad A L) (w : St) : va_D A (wsP ad cA 0 (pj w 0 L)) := by
  refine ⟨fun i j a b ha hb hab => ?_, fun k q hk => ?_⟩
  · obtain ⟨h1, h2⟩ := wsP_inv ad cA _ 0 i a ha
    obtain ⟨h3, h4⟩ := wsP_inv ad cA _ 0 j b hb
    rw [pj_len] at h1 h3
    rw [h2, h4, Nat.zero_add, Nat.zero_add] at hab
    exact hC.2.2.2.2.2.2.1 i j h1 h3 hab
  · obtain ⟨h1, h2⟩ := wsP_inv ad cA _ 0 k q hk
    rw [pj_len] at h1
    rw [h2, Nat.zero_add]
    exact hC.2.2.2.2.2.2.2.1 k h1
theorem ws_at {k : Nat} {lc : LC} (w : St) (h : L[k]? = some lc) : (wsP ad cA 0 (pj w 0 L))[k]? = some (ad k, eV ad cA (ctC w k lc)) := by
  have e1 := pj_at w L 0 k lc h
  have e2 := wsP_at ad cA _ 0 k _ e1
  rw [Nat.zero_add] at e2
  exact e2
theorem ok_at {k : Nat} {lc : LC} {w : St} (h : L[k]? = some lc) (o1 : okP (pj w 0 L)) : okC (ctC w k lc) := by
  have e1 := pj_at w L 0 k lc h
  rw [Nat.zero_add] at e1
  exact o1 k _ e1
theorem ws_set {w w' : St} {k : Nat} {lc : LC} (h : L[k]? = some lc) (hne : ∀ b, b ≠ k → w.1 b = w'.1 b ∧ w.2 b = w'.2 b) : (wsP ad cA 0 (pj w 0 L)).set k (ad k, eV ad cA (ctC w' k lc)) = wsP ad cA 0 (pj w' 0 L) := by
  have e := wsP_set ad cA (pj w 0 L) 0 k (ctC w' k lc)
  rw [Nat.zero_add] at e
  rw [e, pj_set hne L 0 k lc h (Nat.zero_add k)]
theorem ok_set {w w' : St} {k : Nat} {lc : LC} (h : L[k]? = some lc) (hne : ∀ b, b ≠ k → w.1 b = w'.1 b ∧ w.2 b = w'.2 b) (o1 : okP (pj w 0 L)) (hc : okC (ctC w' k lc)) : okP (pj w' 0 L) := by
  rw [← pj_set hne L 0 k lc h (Nat.zero_add k)]
  exact okP_set o1 hc
theorem ne_I {w : St} {k j : Nat} {z : Int} : ∀ b, b ≠ k → w.1 b = (wI w k j z).1 b ∧ w.2 b = (wI w k j z).2 b := fun b hb => ⟨by
  funext x
  show _ = cond (and (Nat.beq b k) _) _ _
  rw [beq_ne hb]; rfl, rfl⟩
theorem ne_A {w : St} {k : Nat} {f : Nat → Int} : ∀ b, b ≠ k → w.1 b = (wA w k f).1 b ∧ w.2 b = (wA w k f).2 b := fun b hb => ⟨by
  show _ = cond (Nat.beq b k) _ _
  rw [beq_ne hb]; rfl, rfl⟩
theorem ne_B {w : St} {k : Nat} {f : Nat → Int64} : ∀ b, b ≠ k → w.1 b = (wB w k f).1 b ∧ w.2 b = (wB w k f).2 b := fun b hb => ⟨rfl, by
  show _ = cond (Nat.beq b k) _ _
  rw [beq_ne hb]; rfl⟩
theorem at_I (w : St) (k j : Nat) (z : Int) : (wI w k j z).1 k = fun b => cond (Nat.beq b j) z (w.1 k b) := by
  funext b
  show cond (and (Nat.beq k k) _) _ _ = _
  rw [Nat.beq_refl]; rfl
theorem at_A (w : St) (k : Nat) (f : Nat → Int) : (wA w k f).1 k = f := by
  show cond (Nat.beq k k) _ _ = _
  rw [Nat.beq_refl]; rfl
theorem at_B (w : St) (k : Nat) (f : Nat → Int64) : (wB w k f).2 k = f := by
  show cond (Nat.beq k k) _ _ = _
  rw [Nat.beq_refl]; rfl
theorem q_same {ref n d : String} : ∀ x, s.fieldFound? ref n d = some x → s.fieldFound? ref n d = some x := fun _ h => h

theorem r_get (hC : Cx p s m args c cc nL own D cA ad A L) {idx k j ci kd : Nat} {fs : List (Nat ⊕ Option Nat)} {v : Int} (hd : decode cc pc = .ok (.getfield idx, 3)) (fl : FL own idx ci j) (hk : L[k]? = some (.inl (ci, fs))) (hj : fs[j]? = some (.inl kd)) (hv : w.1 k j = v) (kk : Wd p l e R s m args below meth c Q cells slots nL D cA ad A L w (pc + 3) (ls) (aI v :: st)) : Wd p l e R s m args below meth c Q cells slots nL D cA ad A L w (pc) (ls) (aR k :: st) := by
  intro H locs la o1 o2 o3 hP hS hl
  obtain ⟨C, T, N, hc, hN, hlk, hin⟩ := fl
  subst hv
  have e := fdC_at (w.1 k) fs 0 j kd hj
  rw [Nat.zero_add] at e
  have hok : okK kd (w.1 k j) := ok_at hk o1 j kd _ e
  refine va_get (D := D) (ci := ci) (C := C) (T := T) (N := N) (v := .int (Int32.ofInt (w.1 k j))) hC.1 hC.2.1 hC.2.2.2.2.1 hin hC.2.2.2.1 hC.2.2.2.2.2.1 hP k (ws_at w hk) hc j hN (hC.2.2.2.2.1 _ hlk) q_same ?_ hd ?_
  · rw [List.getElem?_map, e]; rfl
  · exact kk H locs la o1 o2 (okS_c (okK_rng hok) (okS_t o3)) hP hS hl
theorem r_getr (hC : Cx p s m args c cc nL own D cA ad A L) {idx k j ci r : Nat} {fs : List (Nat ⊕ Option Nat)} (hd : decode cc pc = .ok (.getfield idx, 3)) (fl : FL own idx ci j) (hk : L[k]? = some (.inl (ci, fs))) (hj : fs[j]? = some (.inr (some r))) (kk : Wd p l e R s m args below meth c Q cells slots nL D cA ad A L w (pc + 3) (ls) (aR r :: st)) : Wd p l e R s m args below meth c Q cells slots nL D cA ad A L w (pc) (ls) (aR k :: st) := by
  intro H locs la o1 o2 o3 hP hS hl
  obtain ⟨C, T, N, hc, hN, hlk, hin⟩ := fl
  have e := fdC_ref (w.1 k) fs 0 j _ hj
  refine va_get (D := D) (ci := ci) (C := C) (T := T) (N := N) (v := .ref (ad r)) hC.1 hC.2.1 hC.2.2.2.2.1 hin hC.2.2.2.1 hC.2.2.2.2.2.1 hP k (ws_at w hk) hc j hN (hC.2.2.2.2.1 _ hlk) q_same ?_ hd ?_
  · rw [List.getElem?_map, e]; rfl
  · exact kk H locs la o1 o2 (okS_c trivial (okS_t o3)) hP hS hl
theorem r_put (hC : Cx p s m args c cc nL own D cA ad A L) {idx k j ci kd : Nat} {fs : List (Nat ⊕ Option Nat)} {z : Int} (hd : decode cc pc = .ok (.putfield idx, 3)) (pl : PL own idx ci j kd) (hk : L[k]? = some (.inl (ci, fs))) (hj : fs[j]? = some (.inl kd)) (h3 : kd < 3) (hz : kd = 0 ∨ okK kd z) (kk : Wd p l e R s m args below meth c Q cells slots nL D cA ad A L (wI w k j z) (pc + 3) (ls) (st)) : Wd p l e R s m args below meth c Q cells slots nL D cA ad A L w (pc) (ls) (aI z :: aR k :: st) := by
  intro H locs la o1 o2 o3 hP hS hl
  obtain ⟨C, T, N, ty0, hc, hN, hlk, hin, hty, hnm, hfin, hdsc⟩ := pl
  have hz : okK kd z := by
    rcases hz with rfl | hz
    · exact okS_h o3
    · exact hz
  have e := fdC_at (w.1 k) fs 0 j kd hj
  rw [Nat.zero_add] at e
  have hlen : j < ((fdC (w.1 k) 0 fs).map (fvV ad)).length := by rw [List.length_map]; exact (List.getElem?_eq_some_iff.mp e).1
  have hset : (((fdC (w.1 k) 0 fs).map (fvV ad)).set j (.int (Int32.ofInt z))) = (fdC ((wI w k j z).1 k) 0 fs).map (fvV ad) := by
    rw [at_I, show Value.int (Int32.ofInt z) = fvV ad (.inl (kd, z)) from rfl, ← List.map_set, fdC_set (w.1 k) z fs 0 j kd hj, Nat.zero_add]
  have hw : (wsP ad cA 0 (pj w 0 L)).set k (ad k, .inr (ci, (((fdC (w.1 k) 0 fs).map (fvV ad)).set j (.int (Int32.ofInt z))))) = wsP ad cA 0 (pj (wI w k j z) 0 L) := by
    rw [hset]
    exact ws_set hk ne_I
  have hok : okC (ctC (wI w k j z) k (.inl (ci, fs))) := by
    intro a kd2 z2 h2
    have h2 : (fdC ((wI w k j z).1 k) 0 fs)[a]? = some (.inl (kd2, z2)) := h2
    rw [at_I, show (fun b => cond (Nat.beq b j) z (w.1 k b)) = (fun b => cond (Nat.beq b (0 + j)) z (w.1 k b)) by rw [Nat.zero_add], ← fdC_set (w.1 k) z fs 0 j kd hj, List.getElem?_set] at h2
    split at h2
    · split at h2
      · cases h2; exact hz
      · cases h2
    · exact ok_at hk o1 a kd2 z2 h2
  refine va_put (D := D) (ci := ci) (C := C) (T := T) (N := N) (v := .int (Int32.ofInt z)) (ty := kdT kd) hC.1 hC.2.1 hC.2.2.2.2.1 hin ty0 hty hnm hC.2.2.2.1 hC.2.2.2.2.2.1 hP (wsD hC w) hS k (ws_at w hk) hc j hN (hC.2.2.2.2.1 _ hlk) q_same hfin hdsc (nar_ok h3 hz).1 (nar_ok h3 hz).2 hlen hd (fun H1 locs1 hP1 hD1 hS1 => ?_)
  rw [hw] at hP1
  exact kk H1 locs1 la (ok_set hk ne_I o1 hok) o2 (okS_t (okS_t o3)) hP1 hS1 hl
theorem r_iald (hC : Cx p s m args c cc nL own D cA ad A L) {k n : Nat} {i v : Int} (hd : decode cc pc = .ok (.iaload, 1)) (hk : L[k]? = some (.inr (0, n))) (h0 : 0 ≤ i) (h1 : i < n) (hv : w.1 k i.toNat = v) (kk : Wd p l e R s m args below meth c Q cells slots nL D cA ad A L w (pc + 1) (ls) (aI v :: st)) : Wd p l e R s m args below meth c Q cells slots nL D cA ad A L w (pc) (ls) (aI i :: aR k :: st) := by
  intro H locs la o1 o2 o3 hP hS hl
  subst hv
  have hi : rng i := okS_h o3
  have hok : okK 0 (w.1 k i.toNat) := ok_at hk o1 _
  refine va_iald hC.1 hC.2.1 hC.2.2.2.2.2.1 hP k 0 (ws_at w hk) rfl (rng_in hi h0 h1) hd ?_
  rw [rng_clamp hi h0]
  exact kk H locs la o1 o2 (okS_c (okK_rng hok) (okS_t (okS_t o3))) hP hS hl
theorem r_zald (hC : Cx p s m args c cc nL own D cA ad A L) {k n : Nat} {i v : Int} (hd : decode cc pc = .ok (.baload, 1)) (hk : L[k]? = some (.inr (1, n))) (h0 : 0 ≤ i) (h1 : i < n) (hv : w.1 k i.toNat = v) (kk : Wd p l e R s m args below meth c Q cells slots nL D cA ad A L w (pc + 1) (ls) (aI v :: st)) : Wd p l e R s m args below meth c Q cells slots nL D cA ad A L w (pc) (ls) (aI i :: aR k :: st) := by
  intro H locs la o1 o2 o3 hP hS hl
  subst hv
  have hi : rng i := okS_h o3
  have hok : okK 1 (w.1 k i.toNat) := ok_at hk o1 _
  refine va_zald hC.1 hC.2.1 hC.2.2.2.2.2.1 hP k 1 (ws_at w hk) rfl (rng_in hi h0 h1) hd ?_
  rw [rng_clamp hi h0]
  exact kk H locs la o1 o2 (okS_c (okK_rng hok) (okS_t (okS_t o3))) hP hS hl
theorem r_bald (hC : Cx p s m args c cc nL own D cA ad A L) {k n : Nat} {i v : Int} (hd : decode cc pc = .ok (.baload, 1)) (hk : L[k]? = some (.inr (2, n))) (h0 : 0 ≤ i) (h1 : i < n) (hv : w.1 k i.toNat = v) (kk : Wd p l e R s m args below meth c Q cells slots nL D cA ad A L w (pc + 1) (ls) (aI v :: st)) : Wd p l e R s m args below meth c Q cells slots nL D cA ad A L w (pc) (ls) (aI i :: aR k :: st) := by
  intro H locs la o1 o2 o3 hP hS hl
  subst hv
  have hi : rng i := okS_h o3
  have hok : okK 2 (w.1 k i.toNat) := ok_at hk o1 _
  refine va_bald hC.1 hC.2.1 hC.2.2.2.2.2.1 hP k 2 (ws_at w hk) rfl (rng_in hi h0 h1) hd ?_
  rw [rng_clamp hi h0]
  exact kk H locs la o1 o2 (okS_c (okK_rng hok) (okS_t (okS_t o3))) hP hS hl
theorem r_lald (hC : Cx p s m args c cc nL own D cA ad A L) {k n : Nat} {i : Int} {v : Int64} (hd : decode cc pc = .ok (.laload, 1)) (hk : L[k]? = some (.inr (3, n))) (h0 : 0 ≤ i) (h1 : i < n) (hv : w.2 k i.toNat = v) (kk : Wd p l e R s m args below meth c Q cells slots nL D cA ad A L w (pc + 1) (ls) (aL v :: st)) : Wd p l e R s m args below meth c Q cells slots nL D cA ad A L w (pc) (ls) (aI i :: aR k :: st) := by
  intro H locs la o1 o2 o3 hP hS hl
  subst hv
  have hi : rng i := okS_h o3
  refine va_lald hC.1 hC.2.1 hC.2.2.2.2.2.1 hP k 3 (ws_at w hk) rfl (rng_in hi h0 h1) hd ?_
  rw [rng_clamp hi h0]
  exact kk H locs la o1 o2 (okS_c trivial (okS_t (okS_t o3))) hP hS hl
theorem upd_I (f : Nat → Int) (i : Int) (z : Int) : upd (fun j => Int32.ofInt (f j)) i.toNat (Int32.ofInt z) = fun j => Int32.ofInt (uI f i z j) := by
  funext j
  show (if j = i.toNat then _ else _) = Int32.ofInt (if j = i.toNat then _ else _)
  split <;> rfl
theorem r_iast (hC : Cx p s m args c cc nL own D cA ad A L) {k n : Nat} {i z : Int} (hd : decode cc pc = .ok (.iastore, 1)) (hk : L[k]? = some (.inr (0, n))) (h0 : 0 ≤ i) (h1 : i < n) (kk : Wd p l e R s m args below meth c Q cells slots nL D cA ad A L (wA w k (uI (w.1 k) i z)) (pc + 1) (ls) (st)) : Wd p l e R s m args below meth c Q cells slots nL D cA ad A L w (pc) (ls) (aI z :: aI i :: aR k :: st) := by
  intro H locs la o1 o2 o3 hP hS hl
  have hi : rng i := okS_h (okS_t o3)
  have hz : okK 0 z := okS_h o3
  have hok : okC (ctC (wA w k (uI (w.1 k) i z)) k (.inr (0, n))) := by
    intro j
    show okK 0 ((wA w k (uI (w.1 k) i z)).1 k j)
    rw [at_A]
    unfold uI
    split
    · exact hz
    · exact ok_at (lc := .inr (0, n)) hk o1 j
  have hw : (wsP ad cA 0 (pj w 0 L)).set k (ad k, .inl (cA 0, n, .inl (fun j => Int32.ofInt (uI (w.1 k) i z j)))) = wsP ad cA 0 (pj (wA w k (uI (w.1 k) i z)) 0 L) := by
    have e := ws_set (ad := ad) (cA := cA) (w := w) (w' := wA w k (uI (w.1 k) i z)) hk ne_A
    rw [← e]
    congr 2
    show _ = Sum.inl (cA 0, n, Sum.inl (fun j => Int32.ofInt ((wA w k (uI (w.1 k) i z)).1 k j)))
    rw [at_A]
  refine va_iast hC.1 hC.2.1 hC.2.2.2.2.2.1 hP (wsD hC w) hS k 0 (ws_at w hk) rfl (rng_in hi h0 h1) hd (fun H1 locs1 hP1 hD1 hS1 => ?_)
  rw [rng_clamp hi h0, upd_I, hw] at hP1
  exact kk H1 locs1 la (ok_set hk ne_A o1 hok) o2 (okS_t (okS_t (okS_t o3))) hP1 hS1 hl
theorem r_zast (hC : Cx p s m args c cc nL own D cA ad A L) {k n : Nat} {i z : Int} (hd : decode cc pc = .ok (.bastore, 1)) (hk : L[k]? = some (.inr (1, n))) (h0 : 0 ≤ i) (h1 : i < n) (hz : okK 1 z) (kk : Wd p l e R s m args below meth c Q cells slots nL D cA ad A L (wA w k (uI (w.1 k) i z)) (pc + 1) (ls) (st)) : Wd p l e R s m args below meth c Q cells slots nL D cA ad A L w (pc) (ls) (aI z :: aI i :: aR k :: st) := by
  intro H locs la o1 o2 o3 hP hS hl
  have hi : rng i := okS_h (okS_t o3)
  have hok : okC (ctC (wA w k (uI (w.1 k) i z)) k (.inr (1, n))) := by
    intro j
    show okK 1 ((wA w k (uI (w.1 k) i z)).1 k j)
    rw [at_A]
    unfold uI
    split
    · exact hz
    · exact ok_at (lc := .inr (1, n)) hk o1 j
  have hw : (wsP ad cA 0 (pj w 0 L)).set k (ad k, .inl (cA 1, n, .inl (fun j => Int32.ofInt (uI (w.1 k) i z j)))) = wsP ad cA 0 (pj (wA w k (uI (w.1 k) i z)) 0 L) := by
    have e := ws_set (ad := ad) (cA := cA) (w := w) (w' := wA w k (uI (w.1 k) i z)) hk ne_A
    rw [← e]
    congr 2
    show _ = Sum.inl (cA 1, n, Sum.inl (fun j => Int32.ofInt ((wA w k (uI (w.1 k) i z)).1 k j)))
    rw [at_A]
  refine va_zast hC.1 hC.2.1 hC.2.2.2.2.2.1 hP (wsD hC w) hS k 1 (ws_at w hk) rfl (rng_in hi h0 h1) hd (fun H1 locs1 hP1 hD1 hS1 => ?_)
  rw [show vp_nar .boolean (Int32.ofInt z) = Int32.ofInt z from vp_nar_ok (kd := 1) (by decide) hz] at hP1
  rw [rng_clamp hi h0, upd_I, hw] at hP1
  exact kk H1 locs1 la (ok_set hk ne_A o1 hok) o2 (okS_t (okS_t (okS_t o3))) hP1 hS1 hl
theorem r_bast (hC : Cx p s m args c cc nL own D cA ad A L) {k n : Nat} {i z : Int} (hd : decode cc pc = .ok (.bastore, 1)) (hk : L[k]? = some (.inr (2, n))) (h0 : 0 ≤ i) (h1 : i < n) (hz : okK 2 z) (kk : Wd p l e R s m args below meth c Q cells slots nL D cA ad A L (wA w k (uI (w.1 k) i z)) (pc + 1) (ls) (st)) : Wd p l e R s m args below meth c Q cells slots nL D cA ad A L w (pc) (ls) (aI z :: aI i :: aR k :: st) := by
  intro H locs la o1 o2 o3 hP hS hl
  have hi : rng i := okS_h (okS_t o3)
  have hok : okC (ctC (wA w k (uI (w.1 k) i z)) k (.inr (2, n))) := by
    intro j
    show okK 2 ((wA w k (uI (w.1 k) i z)).1 k j)
    rw [at_A]
    unfold uI
    split
    · exact hz
    · exact ok_at (lc := .inr (2, n)) hk o1 j
  have hw : (wsP ad cA 0 (pj w 0 L)).set k (ad k, .inl (cA 2, n, .inl (fun j => Int32.ofInt (uI (w.1 k) i z j)))) = wsP ad cA 0 (pj (wA w k (uI (w.1 k) i z)) 0 L) := by
    have e := ws_set (ad := ad) (cA := cA) (w := w) (w' := wA w k (uI (w.1 k) i z)) hk ne_A
    rw [← e]
    congr 2
    show _ = Sum.inl (cA 2, n, Sum.inl (fun j => Int32.ofInt ((wA w k (uI (w.1 k) i z)).1 k j)))
    rw [at_A]
  refine va_bast hC.1 hC.2.1 hC.2.2.2.2.2.1 hP (wsD hC w) hS k 2 (ws_at w hk) rfl (rng_in hi h0 h1) hd (fun H1 locs1 hP1 hD1 hS1 => ?_)
  rw [show vp_nar .byte (Int32.ofInt z) = Int32.ofInt z from vp_nar_ok (kd := 2) (by decide) hz] at hP1
  rw [rng_clamp hi h0, upd_I, hw] at hP1
  exact kk H1 locs1 la (ok_set hk ne_A o1 hok) o2 (okS_t (okS_t (okS_t o3))) hP1 hS1 hl
theorem upd_L (f : Nat → Int64) (i : Int) (z : Int64) : vp_updL f i.toNat z = uL f i z := by
  funext j
  rfl
theorem r_last (hC : Cx p s m args c cc nL own D cA ad A L) {k n : Nat} {i : Int} {z : Int64} (hd : decode cc pc = .ok (.lastore, 1)) (hk : L[k]? = some (.inr (3, n))) (h0 : 0 ≤ i) (h1 : i < n) (kk : Wd p l e R s m args below meth c Q cells slots nL D cA ad A L (wB w k (uL (w.2 k) i z)) (pc + 1) (ls) (st)) : Wd p l e R s m args below meth c Q cells slots nL D cA ad A L w (pc) (ls) (aL z :: aI i :: aR k :: st) := by
  intro H locs la o1 o2 o3 hP hS hl
  have hi : rng i := okS_h (okS_t o3)
  have hw : (wsP ad cA 0 (pj w 0 L)).set k (ad k, .inl (cA 3, n, .inr (.inl (uL (w.2 k) i z)))) = wsP ad cA 0 (pj (wB w k (uL (w.2 k) i z)) 0 L) := by
    have e := ws_set (ad := ad) (cA := cA) (w := w) (w' := wB w k (uL (w.2 k) i z)) hk ne_B
    rw [← e]
    congr 2
    show _ = Sum.inl (cA 3, n, Sum.inr (Sum.inl ((wB w k (uL (w.2 k) i z)).2 k)))
    rw [at_B]
  refine va_last hC.1 hC.2.1 hC.2.2.2.2.2.1 hP (wsD hC w) hS k 3 (ws_at w hk) rfl (rng_in hi h0 h1) hd (fun H1 locs1 hP1 hD1 hS1 => ?_)
  rw [rng_clamp hi h0, upd_L, hw] at hP1
  exact kk H1 locs1 la (ok_set hk ne_B o1 trivial) o2 (okS_t (okS_t (okS_t o3))) hP1 hS1 hl
end RH
