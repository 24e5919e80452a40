
/-! worlds that grow: constructors -/
def adU (ad : Nat → Nat) (n q : Nat) : Nat → Nat := fun k => if k = n then q else ad k
theorem adU_n (ad : Nat → Nat) (n q : Nat) : adU ad n q n = q := if_pos rfl
theorem adU_ne {ad : Nat → Nat} {n q k : Nat} (h : k ≠ n) : adU ad n q k = ad k := if_neg h
def refsF (n : Nat) (f : Nat ⊕ Option Nat) : Bool := match f with
  | .inr (some r) => decide (r < n)
  | _ => true
def refsC (n : Nat) (c : LC) : Bool := match c with
  | .inl (_, fs) => fs.all (refsF n)
  | .inr _ => true
def refsL (L : List LC) : Bool := L.all (refsC L.length)
/-- a value whose cell is an old one, or one outside the layout -/
def okr (n : Nat) (v : AV) : Bool := match v with
  | .inr (.inr k) => decide (k < n) || decide (8000 ≤ k)
  | _ => true
def okro (n : Nat) (o : Option AV) : Bool := match o with
  | some v => okr n v
  | none => true
theorem cv_cong {ad ad' : Nat → Nat} {n : Nat} (h : ∀ k, k < n ∨ 8000 ≤ k → ad' k = ad k) {v : AV} (hv : okr n v = true) : cv ad' v = cv ad v := by
  rcases v with z | x | k
  · rfl
  · rfl
  · simp only [okr, Bool.or_eq_true, decide_eq_true_eq] at hv
    show Value.ref (ad' k) = Value.ref (ad k)
    rw [h k hv]
theorem st_cong {ad ad' : Nat → Nat} {n : Nat} (h : ∀ k, k < n ∨ 8000 ≤ k → ad' k = ad k) : ∀ {st : List AV}, st.all (okr n) = true → st.map (cv ad') = st.map (cv ad)
  | [], _ => rfl
  | v :: st, hs => by
    simp only [List.all_cons, Bool.and_eq_true] at hs
    rw [List.map_cons, List.map_cons, cv_cong h hs.1, st_cong h hs.2]
theorem lhas_cong {ad ad' : Nat → Nat} {n : Nat} (h : ∀ k, k < n ∨ 8000 ≤ k → ad' k = ad k) {la : Array Slot} {nL : Nat} {ls : List (Option AV)} (hs : ls.all (okro n) = true) (hl : lhas ad la nL ls) : lhas ad' la nL ls := ⟨hl.1, hl.2.1, fun i v hv => by
  have e := List.all_eq_true.mp hs (some v) (List.mem_of_getElem? hv)
  rw [cv_cong h e]
  exact hl.2.2 i v hv⟩
theorem fv_cong {ad ad' : Nat → Nat} {n : Nat} (h : ∀ k, k < n → ad' k = ad k) (g : Nat → Int) : ∀ (fs : List (Nat ⊕ Option Nat)) (i : Nat), fs.all (refsF n) = true → (fdC g i fs).map (fvV ad') = (fdC g i fs).map (fvV ad)
  | [], _, _ => rfl
  | .inl a :: fs, i, hs => by
    simp only [List.all_cons, Bool.and_eq_true] at hs
    show fvV ad' (.inl (a, g i)) :: (fdC g (i + 1) fs).map (fvV ad') = fvV ad (.inl (a, g i)) :: (fdC g (i + 1) fs).map (fvV ad)
    rw [fv_cong h g fs (i + 1) hs.2]
    rfl
  | .inr none :: fs, i, hs => by
    simp only [List.all_cons, Bool.and_eq_true] at hs
    show fvV ad' (.inr none) :: (fdC g (i + 1) fs).map (fvV ad') = fvV ad (.inr none) :: (fdC g (i + 1) fs).map (fvV ad)
    rw [fv_cong h g fs (i + 1) hs.2]
    rfl
  | .inr (some r) :: fs, i, hs => by
    simp only [List.all_cons, Bool.and_eq_true] at hs
    have hr : r < n := by simpa [refsF] using hs.1
    show Value.ref (ad' r) :: (fdC g (i + 1) fs).map (fvV ad') = Value.ref (ad r) :: (fdC g (i + 1) fs).map (fvV ad)
    rw [fv_cong h g fs (i + 1) hs.2, h r hr]
theorem eV_cong {ad ad' : Nat → Nat} {cA : Nat → ClassId} {n : Nat} (h : ∀ k, k < n → ad' k = ad k) (w : St) (k : Nat) {c : LC} (hc : refsC n c = true) : eV ad' cA (ctC w k c) = eV ad cA (ctC w k c) := by
  rcases c with ⟨ci, fs⟩ | ⟨kd, N⟩
  · show Sum.inr (ci, (fdC (w.1 k) 0 fs).map (fvV ad')) = Sum.inr (ci, (fdC (w.1 k) 0 fs).map (fvV ad))
    rw [fv_cong h _ fs 0 hc]
  · show eV ad' cA (.inr (kd, N, _)) = eV ad cA (.inr (kd, N, _))
    split <;> rfl
theorem ws_cong {ad ad' : Nat → Nat} {cA : Nat → ClassId} {n : Nat} (h : ∀ k, k < n → ad' k = ad k) (w : St) : ∀ (L : List LC) (i : Nat), i + L.length ≤ n → L.all (refsC n) = true → wsP ad' cA i (pj w i L) = wsP ad cA i (pj w i L)
  | [], _, _, _ => rfl
  | c :: L, i, hi, hs => by
    simp only [List.all_cons, Bool.and_eq_true] at hs
    simp only [List.length_cons] at hi
    show (ad' i, eV ad' cA (ctC w i c)) :: wsP ad' cA (i + 1) (pj w (i + 1) L) = (ad i, eV ad cA (ctC w i c)) :: wsP ad cA (i + 1) (pj w (i + 1) L)
    rw [h i (by omega), eV_cong h w i hs.1, ws_cong h w L (i + 1) (by omega) hs.2]
theorem pj_app (w : St) : ∀ (L : List LC) (i : Nat) (c : LC), pj w i (L ++ [c]) = pj w i L ++ [ctC w (i + L.length) c]
  | [], i, c => rfl
  | d :: L, i, c => by
    show ctC w i d :: pj w (i + 1) (L ++ [c]) = ctC w i d :: (pj w (i + 1) L ++ [ctC w (i + (L.length + 1)) c])
    rw [pj_app w L (i + 1) c, show i + 1 + L.length = i + (L.length + 1) by omega]
theorem wsP_app (ad : Nat → Nat) (cA : Nat → ClassId) : ∀ (P : List CT) (i : Nat) (x : CT), wsP ad cA i (P ++ [x]) = wsP ad cA i P ++ [(ad (i + P.length), eV ad cA x)]
  | [], i, x => rfl
  | d :: P, i, x => by
    show (ad i, eV ad cA d) :: wsP ad cA (i + 1) (P ++ [x]) = (ad i, eV ad cA d) :: (wsP ad cA (i + 1) P ++ [(ad (i + (P.length + 1)), eV ad cA x)])
    rw [wsP_app ad cA P (i + 1) x, show i + 1 + P.length = i + (P.length + 1) by omega]
theorem okP_app {P : List CT} {x : CT} (h : okP P) (hx : okC x) : okP (P ++ [x]) := by
  intro k c hc
  rw [List.getElem?_append] at hc
  split at hc
  · exact h k c hc
  · cases hk : k - P.length with
    | zero => rw [hk] at hc; cases hc; exact hx
    | succ j => rw [hk] at hc; cases hc
theorem ExtV.cong {ad ad' : Nat → Nat} {U : State} (h : ∀ k, 8000 ≤ k → ad' k = ad k) (hE : ExtV ad U) : ExtV ad' U := ⟨hE.1, fun i q hq => by rw [h _ (by omega)]; exact hE.2 i q hq⟩
theorem ExtH.cong {ad ad' : Nat → Nat} {A : Nat → Prop} {U : State} {H : Heap} (h : ∀ k, 8000 ≤ k → ad' k = ad k) (hE : ExtH ad A U H) : ExtH ad' A U H := by
  refine ⟨?_, fun i hi => ?_, hE.2.2⟩
  · rw [h 9000 (by omega)]
    exact hE.1
  · unfold ExtS
    rw [h (10000 + i) (by omega), h (20000 + i) (by omega)]
    exact hE.2.1 i hi
section RN

variable {p : Program} {l : Launch} {e : Env} {R : Room} {s : State} {m : MethodId} {args : Array Value} {below : List Frame} {meth : Method} {c : Code} {Q : State → Prop} {cells slots nL : Nat} {D : va_G} {cA : Nat → ClassId} {ad : Nat → Nat} {A : Nat → Prop} {L : List LC} {w : St} {pc : Nat} {ls : List (Option AV)} {st : List AV} {cc : ByteArray} {own : String}


theorem ad_ag {n q : Nat} (hn : n < 8000) : ∀ k, k < n ∨ 8000 ≤ k → adU ad n q k = ad k := fun k hk => adU_ne (by omega)
theorem Cx.ext {q : Nat} (x : LC) (hC : Cx p s m args c cc nL own D cA ad A L) (hq : ∀ k, k < L.length → ad k ≠ q) (hA : A q) (hn : L.length < 8000) : Cx p s m args c cc nL own D cA (adU ad L.length q) A (L ++ [x]) := by
  refine ⟨hC.1, hC.2.1, hC.2.2.1, hC.2.2.2.1, hC.2.2.2.2.1, hC.2.2.2.2.2.1, fun i j hi hj hij => ?_, fun k hk => ?_, ExtV.cong (fun k hk => ad_ag hn k (Or.inr hk)) hC.2.2.2.2.2.2.2.2.1, ExtH.cong (fun k hk => ad_ag hn k (Or.inr hk)) hC.2.2.2.2.2.2.2.2.2⟩
  · simp only [List.length_append, List.length_cons, List.length_nil] at hi hj
    by_cases h1 : i = L.length
    · by_cases h2 : j = L.length
      · omega
      · rw [h1, adU_n, adU_ne h2] at hij
        exact absurd hij.symm (hq j (by omega))
    · by_cases h2 : j = L.length
      · rw [h2, adU_n, adU_ne h1] at hij
        exact absurd hij (hq i (by omega))
      · rw [adU_ne h1, adU_ne h2] at hij
        exact hC.2.2.2.2.2.2.1 i j (by omega) (by omega) hij
  · simp only [List.length_append, List.length_cons, List.length_nil] at hk
    by_cases h1 : k = L.length
    · rw [h1, adU_n]; exact hA
    · rw [adU_ne h1]; exact hC.2.2.2.2.2.2.2.1 k (by omega)
theorem ws_ext {q : Nat} (x : LC) (w : St) (hr : refsL L = true) (hx : refsC L.length x = true) : wsP (adU ad L.length q) cA 0 (pj w 0 (L ++ [x])) = wsP ad cA 0 (pj w 0 L) ++ [(q, eV ad cA (ctC w L.length x))] := by
  have h : ∀ k, k < L.length → adU ad L.length q k = ad k := fun k hk => adU_ne (by omega)
  rw [pj_app, wsP_app, ws_cong h w L 0 (by omega) hr, pj_len, Nat.zero_add, adU_n, eV_cong h w L.length hx]
theorem fresh_of {q : Nat} {e9 : va_E} (hD : va_D A (wsP ad cA 0 (pj w 0 L) ++ [(q, e9)])) : (∀ k, k < L.length → ad k ≠ q) ∧ A q := by
  have hlen : (wsP ad cA 0 (pj w 0 L)).length = L.length := by rw [wsP_len, pj_len]
  refine ⟨fun k hk he => ?_, ?_⟩
  · obtain ⟨c9, hc9⟩ : ∃ c9, L[k]? = some c9 := ⟨L[k], List.getElem?_eq_getElem hk⟩
    have h1 : (wsP ad cA 0 (pj w 0 L) ++ [(q, e9)])[k]? = some (ad k, eV ad cA (ctC w k c9)) := by
      rw [List.getElem?_append_left (by omega)]
      exact ws_at w hc9
    have h2 : (wsP ad cA 0 (pj w 0 L) ++ [(q, e9)])[L.length]? = some (q, e9) := by
      rw [List.getElem?_append_right (by omega), hlen, Nat.sub_self]; rfl
    have h3 := hD.1 k L.length _ _ h1 h2 he
    omega
  · have h2 : (wsP ad cA 0 (pj w 0 L) ++ [(q, e9)])[L.length]? = some (q, e9) := by
      rw [List.getElem?_append_right (by omega), hlen, Nat.sub_self]; rfl
    exact hD.2 _ _ h2

theorem r_newA (hC : Cx p s m args c cc nL own D cA ad A L) {kd n : Nat} {atype : ArrayType} (hat : newarray.typeOf atype = kdT kd) (hd : decode cc pc = .ok (.newarray atype, 2)) (hw : Cond.arrayClass (newarray.typeOf atype) ∈ gw) (hA : ∀ q, s.heap.size ≤ q → A q) (hr : refsL L = true) (hl8 : L.length < 8000) (hls : ls.all (okro L.length) = true) (hst : st.all (okr L.length) = true) (h3 : kd < 4) (hn : n < 1000000) (hz : ∀ j, w.1 L.length j = 0) (hz2 : ∀ j, w.2 L.length j = 0) (hcs : cells + 1 ≤ R.cells ∧ slots + n ≤ R.slots) (k : ∀ q : Nat, Cx p s m args c cc nL own D cA (adU ad L.length q) A (L ++ [.inr (kd, n)]) → Wd p l e R s m args below meth c Q (cells + 1) (slots + n) nL D cA (adU ad L.length q) A (L ++ [.inr (kd, n)]) w (pc + 2) ls (aR L.length :: st)) : Wd p l e R s m args below meth c Q cells slots nL D cA ad A L w (pc) (ls) (aI n :: st) := by
  intro H locs la o1 o2 o3 hP hS hl
  have hrn : rng (n : Int) := okS_h o3
  obtain ⟨a0, ha0, hb0⟩ : ∃ a0 : vp_A, (∀ cX : ClassId, vp_cell cX a0 = arrV cX n (fun _ => defaultValue (kdT kd))) ∧ eV ad cA (ctC w L.length (.inr (kd, n))) = .inl (cA kd, a0) := by
    rcases (show kd = 0 ∨ kd = 1 ∨ kd = 2 ∨ kd = 3 by omega) with rfl | rfl | rfl | rfl
    · refine ⟨(n, .inl (fun j => Int32.ofInt (w.1 L.length j))), fun cX => ?_, rfl⟩
      rw [show (fun j => Int32.ofInt (w.1 L.length j)) = fun _ => (0 : Int32) by funext j; rw [hz j]; rfl]; rfl
    · refine ⟨(n, .inl (fun j => Int32.ofInt (w.1 L.length j))), fun cX => ?_, rfl⟩
      rw [show (fun j => Int32.ofInt (w.1 L.length j)) = fun _ => (0 : Int32) by funext j; rw [hz j]; rfl]; rfl
    · refine ⟨(n, .inl (fun j => Int32.ofInt (w.1 L.length j))), fun cX => ?_, rfl⟩
      rw [show (fun j => Int32.ofInt (w.1 L.length j)) = fun _ => (0 : Int32) by funext j; rw [hz j]; rfl]; rfl
    · refine ⟨(n, .inr (.inl (w.2 L.length))), fun cX => ?_, rfl⟩
      rw [show w.2 L.length = fun _ => (0 : Int64) by funext j; exact hz2 j]; rfl
  have hN : (Int32.ofInt (n : Int)).toNatClampNeg = n := by rw [rng_clamp hrn (by omega)]; omega
  refine va_newa (atype := atype) (ty := kdT kd) (N' := n) hC.1 hC.2.1 (hC.2.2.2.2.1 _ hw) hat hC.2.2.2.2.2.1 hP (wsD hC w) hS hA ha0 (fun q => absurd ((rng_lt hrn rng_0).mp q) (by omega)) hN ?_ hcs.1 hcs.2 hd (fun q cX H1 hK1 hP1 hD1 hS1 => ?_)
  · rcases (show kd = 0 ∨ kd = 1 ∨ kd = 2 ∨ kd = 3 by omega) with rfl | rfl | rfl | rfl <;> show n * _ ≤ _ <;> simp only [kdT, componentBytes] <;> omega
  · have ecA : cX = cA kd := by
      have g1 := (hK1.2 4 (cX, kdT kd) rfl).2
      have g2 : va_RA s (cA kd) (kdT kd) := by
        rcases (show kd = 0 ∨ kd = 1 ∨ kd = 2 ∨ kd = 3 by omega) with rfl | rfl | rfl | rfl
        · exact (hC.2.2.2.2.2.1.2 0 _ rfl).2
        · exact (hC.2.2.2.2.2.1.2 1 _ rfl).2
        · exact (hC.2.2.2.2.2.1.2 2 _ rfl).2
        · exact (hC.2.2.2.2.2.1.2 3 _ rfl).2
      rcases (show kd = 0 ∨ kd = 1 ∨ kd = 2 ∨ kd = 3 by omega) with rfl | rfl | rfl | rfl
      · exact Option.some.inj (Eq.trans (Eq.symm g1) g2)
      · exact Option.some.inj (Eq.trans (Eq.symm g1) g2)
      · exact Option.some.inj (Eq.trans (Eq.symm g1) g2)
      · exact Option.some.inj (Eq.trans (Eq.symm g1) g2)
    subst ecA
    rw [← hb0] at hP1 hD1
    obtain ⟨f1, f2⟩ := fresh_of hD1
    rw [← ws_ext (q := q) (.inr (kd, n)) w hr rfl] at hP1
    have hok : okP (pj w 0 (L ++ [.inr (kd, n)])) := by
      rw [pj_app, Nat.zero_add]
      refine okP_app o1 ?_
      rcases (show kd = 0 ∨ kd = 1 ∨ kd = 2 ∨ kd = 3 by omega) with rfl | rfl | rfl | rfl
      · intro j; show okK 0 (w.1 L.length j); rw [hz j]; exact rng_0
      · intro j; show okK 1 (w.1 L.length j); rw [hz j]; exact ⟨by omega, by omega⟩
      · intro j; show okK 2 (w.1 L.length j); rw [hz j]; exact ⟨by omega, by omega⟩
      · trivial
    have e9 := k q (Cx.ext (.inr (kd, n)) hC f1 f2 hl8) H1 locs la hok o2 (okS_c trivial (okS_t o3)) hP1 hS1 (lhas_cong (ad_ag hl8) hls hl)
    rw [List.map_cons, st_cong (ad_ag hl8) hst, show cv (adU ad L.length q) (aR L.length) = .ref q by show Value.ref _ = _; rw [adU_n]] at e9
    exact e9
def dfV (f : Nat ⊕ Option Nat) : Value := match f with
  | .inl _ => .int 0
  | .inr _ => .null
def nulls (f : Nat ⊕ Option Nat) : Bool := match f with
  | .inl _ => true
  | .inr none => true
  | .inr (some _) => false
theorem fd_null (ad : Nat → Nat) {g : Nat → Int} (hz : ∀ j, g j = 0) : ∀ (fs : List (Nat ⊕ Option Nat)) (i : Nat), fs.all nulls = true → (fdC g i fs).map (fvV ad) = fs.map dfV
  | [], _, _ => rfl
  | .inl a :: fs, i, h => by
    simp only [List.all_cons, Bool.and_eq_true] at h
    show Value.int (Int32.ofInt (g i)) :: (fdC g (i + 1) fs).map (fvV ad) = Value.int 0 :: fs.map dfV
    rw [hz i, fd_null ad hz fs (i + 1) h.2]; rfl
  | .inr none :: fs, i, h => by
    simp only [List.all_cons, Bool.and_eq_true] at h
    show Value.null :: (fdC g (i + 1) fs).map (fvV ad) = Value.null :: fs.map dfV
    rw [fd_null ad hz fs (i + 1) h.2]
  | .inr (some r) :: fs, i, h => by simp [nulls] at h
theorem fd_ok {g : Nat → Int} (hz : ∀ j, g j = 0) : ∀ (fs : List (Nat ⊕ Option Nat)) (i j kd : Nat) (z : Int), (fdC g i fs)[j]? = some (.inl (kd, z)) → okK kd z
  | [], _, _, _, _, h => by cases h
  | .inl a :: fs, i, 0, kd, z, h => by
    have h : some (Sum.inl (a, g i)) = some (Sum.inl (kd, z)) := h
    cases h
    rw [hz i]
    unfold okK
    split
    · omega
    · omega
    · exact rng_0
  | .inr a :: fs, i, 0, kd, z, h => by cases h
  | .inl a :: fs, i, j + 1, kd, z, h => fd_ok hz fs (i + 1) j kd z h
  | .inr a :: fs, i, j + 1, kd, z, h => fd_ok hz fs (i + 1) j kd z h
/-- a class whose objects are made: its number, its fields' first values -/
def CK (own : String) (idx ci : Nat) (fs : List (Nat ⊕ Option Nat)) : Prop := ∃ (C : String) (T : u_T) (N : Nat) (ty0 : Nat → FieldType), vwCl[ci]? = some (C, T, N) ∧ (∀ w ∈ u_ws C T N, w ∈ gw) ∧ (∀ k, k < N → parseFieldDescriptor (T k).2.2.1 = some (ty0 k)) ∧ Cond.classLink own idx C ∈ gw ∧ Cond.instantiable C N ∈ gw ∧ Cond.initialized C ∈ gw ∧ (∀ j, j < N → defaultValue (ty0 j) = vp_V (fs.map dfV) j) ∧ fs.all nulls = true ∧ N = fs.length
theorem r_newO (hC : Cx p s m args c cc nL own D cA ad A L) {idx ci : Nat} {fs : List (Nat ⊕ Option Nat)} (hd : decode cc pc = .ok (.new idx, 3)) (hk : CK own idx ci fs) (hA : ∀ q, s.heap.size ≤ q → A q) (hr : refsL L = true) (hl8 : L.length < 8000) (hls : ls.all (okro L.length) = true) (hst : st.all (okr L.length) = true) (hz : ∀ j, w.1 L.length j = 0) (hcs : cells + 1 ≤ R.cells ∧ slots + fs.length ≤ R.slots) (k : ∀ q : Nat, Cx p s m args c cc nL own D cA (adU ad L.length q) A (L ++ [.inl (ci, fs)]) → Wd p l e R s m args below meth c Q (cells + 1) (slots + fs.length) nL D cA (adU ad L.length q) A (L ++ [.inl (ci, fs)]) w (pc + 3) ls (aR L.length :: st)) : Wd p l e R s m args below meth c Q cells slots nL D cA ad A L w (pc) (ls) (st) := by
  intro H locs la o1 o2 o3 hP hS hl
  obtain ⟨C, T, N, ty0, hc, hin, hty, hlk, hins, hini, hdf, hnl, hN⟩ := hk
  subst hN
  have hb0 : eV ad cA (ctC w L.length (.inl (ci, fs))) = .inr (ci, fs.map dfV) := by
    show Sum.inr (ci, (fdC (w.1 L.length) 0 fs).map (fvV ad)) = _
    rw [fd_null ad hz fs 0 hnl]
  refine va_new (ci := ci) (fs := fs.map dfV) (C := C) (T := T) (N := fs.length) hC.1 hC.2.1 hC.2.2.2.2.1 hin ty0 hty hC.2.2.2.1 (hC.2.2.2.2.1 _ hlk) (hC.2.2.2.2.1 _ hins) (hC.2.2.2.2.1 _ hini) hC.2.2.2.2.2.1 hP (wsD hC w) hS hA hc hdf hcs.1 hcs.2 hd (fun q H1 hP1 hD1 hS1 => ?_)
  rw [← hb0] at hP1 hD1
  obtain ⟨f1, f2⟩ := fresh_of hD1
  have hx : refsC L.length (.inl (ci, fs)) = true := by
    show fs.all (refsF L.length) = true
    refine List.all_eq_true.mpr (fun f hf => ?_)
    have := List.all_eq_true.mp hnl f hf
    rcases f with a | (_ | r)
    · rfl
    · rfl
    · simp [nulls] at this
  rw [← ws_ext (q := q) (.inl (ci, fs)) w hr hx] at hP1
  have hok : okP (pj w 0 (L ++ [.inl (ci, fs)])) := by
    rw [pj_app, Nat.zero_add]
    exact okP_app o1 (fd_ok hz fs 0)
  have e9 := k q (Cx.ext (.inl (ci, fs)) hC f1 f2 hl8) H1 locs la hok o2 (okS_c trivial o3) hP1 hS1 (lhas_cong (ad_ag hl8) hls hl)
  rw [List.map_cons, st_cong (ad_ag hl8) hst, show cv (adU ad L.length q) (aR L.length) = .ref q by show Value.ref _ = _; rw [adU_n]] at e9
  exact e9
theorem r_obj (hC : Cx p s m args c cc nL own D cA ad A L) {idx k : Nat} (hd : decode cc pc = .ok (.invokespecial idx, 3)) (hlk : Cond.methodLink own idx Lib.objectInit ∈ gw) (hi : Cond.instanceMethod Lib.objectInit ∈ gw) (hcd : Cond.code Lib.objectInit ⟨#[0xb1]⟩ 1 none ∈ gw) (hR : 1 ≤ R.frames ∧ 20 ≤ R.locals) (h8 : rsum st ≤ 8) (kk : Wd p l e R s m args below meth c Q cells slots nL D cA ad A L w (pc + 3) (ls) (st)) : Wd p l e R s m args below meth c Q cells slots nL D cA ad A L w (pc) (ls) (aR k :: st) := by
  intro H locs la o1 o2 o3 hP hS hl
  refine W.objInit (g := F0 m pc la ((aR k :: st).map (cv ad))) hC.1 hC.2.1 hC.2.2.2.1 (hC.2.2.2.2.1 _ hlk) (hC.2.2.2.2.1 _ hi) (hC.2.2.2.2.1 _ hcd) rfl (hl.1.trans hC.2.2.1.symm) (a := ad k) (rest := st.map (cv ad)) rfl hd hR.1 (by show 2 * 0 + _ + 12 ≤ _; rw [rsum_cat]; omega) ?_
  exact kk H locs la o1 o2 (okS_t o3) hP hS hl

end RN
