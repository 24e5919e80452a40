
/-! a contract over a layout holds in a larger one: the cells from m0 on are the layout's, all others stay -/
def shF (m0 : Nat) (f : Nat ⊕ Option Nat) : Nat ⊕ Option Nat := match f with
  | .inr (some r) => .inr (some (m0 + r))
  | x => x
def shC (m0 : Nat) (c : LC) : LC := match c with
  | .inl (ci, fs) => .inl (ci, fs.map (shF m0))
  | .inr x => .inr x
def shA (m0 : Nat) (v : AV) : AV := match v with
  | .inr (.inr k) => if k < 8000 then aR (m0 + k) else aR k
  | x => x
def adS (m0 n1 : Nat) (ad : Nat → Nat) : Nat → Nat := fun k => if k < n1 then ad (m0 + k) else ad k
def wS (m0 : Nat) (w : St) : St := (fun k => w.1 (m0 + k), fun k => w.2 (m0 + k))
def glue (m0 n1 : Nat) (w1 w : St) : St := (fun k => cond (and (Nat.ble m0 k) (Nat.blt k (m0 + n1))) (w1.1 (k - m0)) (w.1 k), fun k => cond (and (Nat.ble m0 k) (Nat.blt k (m0 + n1))) (w1.2 (k - m0)) (w.2 k))
theorem adS_lo {m0 n1 k : Nat} {ad : Nat → Nat} (h : k < n1) : adS m0 n1 ad k = ad (m0 + k) := if_pos h
theorem adS_hi {m0 n1 k : Nat} {ad : Nat → Nat} (h : ¬ k < n1) : adS m0 n1 ad k = ad k := if_neg h
theorem glue_in {m0 n1 k : Nat} {w1 w : St} (h : k < n1) : (glue m0 n1 w1 w).1 (m0 + k) = w1.1 k ∧ (glue m0 n1 w1 w).2 (m0 + k) = w1.2 k := by
  have e1 : Nat.ble m0 (m0 + k) = true := Nat.ble_eq_true_of_le (by omega)
  have e2 : Nat.blt (m0 + k) (m0 + n1) = true := Nat.ble_eq_true_of_le (by omega)
  have e3 : m0 + k - m0 = k := by omega
  constructor
  · show cond (and (Nat.ble m0 (m0 + k)) (Nat.blt (m0 + k) (m0 + n1))) _ _ = _
    rw [e1, e2, e3]; rfl
  · show cond (and (Nat.ble m0 (m0 + k)) (Nat.blt (m0 + k) (m0 + n1))) _ _ = _
    rw [e1, e2, e3]; rfl
theorem ble_f {a b : Nat} (h : ¬ a ≤ b) : Nat.ble a b = false := by
  cases hq : Nat.ble a b with
  | false => rfl
  | true => exact absurd (Nat.le_of_ble_eq_true hq) h
theorem glue_out {m0 n1 k : Nat} {w1 w : St} (h : k < m0 ∨ m0 + n1 ≤ k) : (glue m0 n1 w1 w).1 k = w.1 k ∧ (glue m0 n1 w1 w).2 k = w.2 k := by
  have e : and (Nat.ble m0 k) (Nat.blt k (m0 + n1)) = false := by
    rcases h with h | h
    · rw [ble_f (by omega)]; rfl
    · rw [show Nat.blt k (m0 + n1) = false from ble_f (by omega)]
      cases Nat.ble m0 k <;> rfl
  constructor
  · show cond (and (Nat.ble m0 k) (Nat.blt k (m0 + n1))) _ _ = _
    rw [e]; rfl
  · show cond (and (Nat.ble m0 k) (Nat.blt k (m0 + n1))) _ _ = _
    rw [e]; rfl
theorem fd_sh (m0 n1 : Nat) (ad : Nat → Nat) (g : Nat → Int) : ∀ (fs : List (Nat ⊕ Option Nat)) (i : Nat), fs.all (refsF n1) = true → (fdC g i (fs.map (shF m0))).map (fvV ad) = (fdC g i fs).map (fvV (adS m0 n1 ad))
  | [], _, _ => rfl
  | .inl a :: fs, i, h => by
    simp only [List.all_cons, Bool.and_eq_true] at h
    show fvV ad (.inl (a, g i)) :: (fdC g (i + 1) (fs.map (shF m0))).map (fvV ad) = fvV (adS m0 n1 ad) (.inl (a, g i)) :: _
    rw [fd_sh m0 n1 ad g fs (i + 1) h.2]
    rfl
  | .inr none :: fs, i, h => by
    simp only [List.all_cons, Bool.and_eq_true] at h
    show fvV ad (.inr none) :: (fdC g (i + 1) (fs.map (shF m0))).map (fvV ad) = fvV (adS m0 n1 ad) (.inr none) :: _
    rw [fd_sh m0 n1 ad g fs (i + 1) h.2]
    rfl
  | .inr (some r) :: fs, i, h => by
    simp only [List.all_cons, Bool.and_eq_true] at h
    have hr : r < n1 := by simpa [refsF] using h.1
    show Value.ref (ad (m0 + r)) :: (fdC g (i + 1) (fs.map (shF m0))).map (fvV ad) = Value.ref (adS m0 n1 ad r) :: _
    rw [fd_sh m0 n1 ad g fs (i + 1) h.2, adS_lo hr]
theorem fd_shok (m0 : Nat) (g : Nat → Int) : ∀ (fs : List (Nat ⊕ Option Nat)) (i j kd : Nat) (z : Int), (fdC g i (fs.map (shF m0)))[j]? = some (.inl (kd, z)) ↔ (fdC g i fs)[j]? = some (.inl (kd, z))
  | [], _, _, _, _ => Iff.rfl
  | .inl a :: fs, i, 0, kd, z => Iff.rfl
  | .inr none :: fs, i, 0, kd, z => Iff.rfl
  | .inr (some r) :: fs, i, 0, kd, z => ⟨fun h => (by cases h), fun h => (by cases h)⟩
  | .inl a :: fs, i, j + 1, kd, z => fd_shok m0 g fs (i + 1) j kd z
  | .inr none :: fs, i, j + 1, kd, z => fd_shok m0 g fs (i + 1) j kd z
  | .inr (some r) :: fs, i, j + 1, kd, z => fd_shok m0 g fs (i + 1) j kd z
/-- a shifted cell holds what the cell holds -/
theorem eV_sh {m0 n1 : Nat} {ad : Nat → Nat} {cA : Nat → ClassId} {w w1 : St} {k : Nat} {c : LC} (hc : refsC n1 c = true) (h1 : w.1 (m0 + k) = w1.1 k) (h2 : w.2 (m0 + k) = w1.2 k) : eV ad cA (ctC w (m0 + k) (shC m0 c)) = eV (adS m0 n1 ad) cA (ctC w1 k c) := by
  rcases c with ⟨ci, fs⟩ | ⟨kd, N⟩
  · show Sum.inr (ci, (fdC (w.1 (m0 + k)) 0 (fs.map (shF m0))).map (fvV ad)) = Sum.inr (ci, (fdC (w1.1 k) 0 fs).map (fvV (adS m0 n1 ad)))
    rw [h1, fd_sh m0 n1 ad _ fs 0 hc]
  · have e : ctC w (m0 + k) (shC m0 (.inr (kd, N))) = ctC w1 k (.inr (kd, N)) := by
      show ctC w (m0 + k) (.inr (kd, N)) = ctC w1 k (.inr (kd, N))
      unfold ctC
      rw [h1, h2]
    rw [e]
    show eV ad cA (.inr (kd, N, _)) = eV _ cA (.inr (kd, N, _))
    split <;> rfl
theorem okC_sh {m0 : Nat} {w w1 : St} {k : Nat} {c : LC} (h1 : w.1 (m0 + k) = w1.1 k) (h2 : w.2 (m0 + k) = w1.2 k) : okC (ctC w (m0 + k) (shC m0 c)) ↔ okC (ctC w1 k c) := by
  rcases c with ⟨ci, fs⟩ | ⟨kd, N⟩
  · show (∀ (j : Nat) (kd : Nat) (z : Int), (fdC (w.1 (m0 + k)) 0 (fs.map (shF m0)))[j]? = some (.inl (kd, z)) → okK kd z) ↔ (∀ (j : Nat) (kd : Nat) (z : Int), (fdC (w1.1 k) 0 fs)[j]? = some (.inl (kd, z)) → okK kd z)
    rw [h1]
    exact ⟨fun h j kd z hz => h j kd z ((fd_shok m0 _ fs 0 j kd z).mpr hz), fun h j kd z hz => h j kd z ((fd_shok m0 _ fs 0 j kd z).mp hz)⟩
  · have e : ctC w (m0 + k) (shC m0 (.inr (kd, N))) = ctC w1 k (.inr (kd, N)) := by
      show ctC w (m0 + k) (.inr (kd, N)) = ctC w1 k (.inr (kd, N))
      unfold ctC
      rw [h1, h2]
    rw [e]
/-- where the layout L1 lies in L -/
def Emb (m0 : Nat) (L1 L : List LC) : Prop := (∀ (k : Nat) (c : LC), L1[k]? = some c → L[m0 + k]? = some (shC m0 c)) ∧ L1.all (refsC L1.length) = true ∧ m0 + L1.length ≤ L.length ∧ L.length < 8000
section RLF

variable {p : Program} {l : Launch} {e : Env} {R : Room} {s : State} {m : MethodId} {args : Array Value} {below : List Frame} {meth : Method} {c : Code} {Q : State → Prop} {cells slots nL : Nat} {D : va_G} {cA : Nat → ClassId} {ad : Nat → Nat} {A : Nat → Prop} {L : List LC} {w : St} {pc : Nat} {ls : List (Option AV)} {st : List AV} {cc : ByteArray} {own : String}


variable {L1 : List LC} {m0 : Nat} {w1 : St}
theorem World.small {U : State} (hE : Emb m0 L1 L) (h : World D cA ad A L w U) : World D cA (adS m0 L1.length ad) (fun q => ∃ k, k < L1.length ∧ q = ad (m0 + k)) L1 (wS m0 w) U := by
  obtain ⟨h1, h2, h3, h4, h5, h6, h7⟩ := h
  have hc8 : ∀ k, 8000 ≤ k → adS m0 L1.length ad k = ad k := fun k hk => adS_hi (by have := hE.2.2; omega)
  have cell : ∀ (k : Nat) (c : LC), L1[k]? = some c → refsC L1.length c = true := fun k c hk => List.all_eq_true.mp hE.2.1 c (List.mem_of_getElem? hk)
  refine ⟨fun k c hk => ?_, fun k q hk => ?_, h3, fun i j hi hj hij => ?_, fun k hk => ⟨k, hk, adS_lo hk⟩, ExtV.cong hc8 h6, ExtH.cong hc8 (ExtH.narrow h7 (fun a ha => ?_))⟩
  · have hlt : k < L1.length := by rw [← pj_len (wS m0 w) L1 0]; exact (List.getElem?_eq_some_iff.mp hk).1
    obtain ⟨c1, hc1⟩ : ∃ c1, L1[k]? = some c1 := ⟨L1[k], List.getElem?_eq_getElem hlt⟩
    have e1 := pj_at (wS m0 w) L1 0 k c1 hc1
    rw [Nat.zero_add] at e1
    cases e1.symm.trans hk
    exact (okC_sh (m0 := m0) (w := w) (w1 := wS m0 w) (k := k) rfl rfl).mp (ok_at (hE.1 k c1 hc1) h1)
  · obtain ⟨g1, g2⟩ := wsP_inv (adS m0 L1.length ad) cA _ 0 k q hk
    rw [pj_len] at g1
    obtain ⟨c1, hc1⟩ : ∃ c1, L1[k]? = some c1 := ⟨L1[k], List.getElem?_eq_getElem g1⟩
    have e1 : (wsP (adS m0 L1.length ad) cA 0 (pj (wS m0 w) 0 L1))[k]? = some (adS m0 L1.length ad k, eV (adS m0 L1.length ad) cA (ctC (wS m0 w) k c1)) := ws_at (wS m0 w) hc1
    cases e1.symm.trans hk
    have e2 := h2 (m0 + k) _ (ws_at w (hE.1 k c1 hc1))
    rw [eV_sh (n1 := L1.length) (w1 := wS m0 w) (cell k c1 hc1) rfl rfl] at e2
    rw [adS_lo g1]
    exact e2
  · rw [adS_lo hi, adS_lo hj] at hij
    have := h4 (m0 + i) (m0 + j) (by have := hE.2.2; omega) (by have := hE.2.2; omega) hij
    omega
  · obtain ⟨k, hk, rfl⟩ := ha
    exact h5 (m0 + k) (by have := hE.2.2; omega)
/-- the heap's part of a world, put back into the larger one -/
theorem heap_back {st t : State} (hE : Emb m0 L1 L) (hinj : ∀ i j, i < L.length → j < L.length → ad i = ad j → i = j) (o0 : okP (pj w 0 L)) (hP0 : va_P D vwCl (wsP ad cA 0 (pj w 0 L)) st.heap) (o1 : okP (pj w1 0 L1)) (hP1 : va_P D vwCl (wsP (adS m0 L1.length ad) cA 0 (pj w1 0 L1)) t.heap) (hF : va_F (fun q => ∃ k, k < L1.length ∧ q = ad (m0 + k)) st t) : okP (pj (glue m0 L1.length w1 w) 0 L) ∧ va_P D vwCl (wsP ad cA 0 (pj (glue m0 L1.length w1 w) 0 L)) t.heap := by
  have cell : ∀ (k : Nat) (c : LC), L1[k]? = some c → refsC L1.length c = true := fun k c hk => List.all_eq_true.mp hE.2.1 c (List.mem_of_getElem? hk)
  have hlen := hE.2.2.1
  have key : ∀ (k : Nat) (c : LC), L[k]? = some c → okC (ctC (glue m0 L1.length w1 w) k c) ∧ va_at D vwCl (ad k, eV ad cA (ctC (glue m0 L1.length w1 w) k c)) t.heap := by
    intro k c hc
    have hk : k < L.length := (List.getElem?_eq_some_iff.mp hc).1
    by_cases hin : m0 ≤ k ∧ k < m0 + L1.length
    · obtain ⟨j, rfl⟩ : ∃ j, k = m0 + j := ⟨k - m0, by omega⟩
      have hj : j < L1.length := by omega
      obtain ⟨c1, hc1⟩ : ∃ c1, L1[j]? = some c1 := ⟨L1[j], List.getElem?_eq_getElem hj⟩
      cases (hE.1 j c1 hc1).symm.trans hc
      obtain ⟨g1, g2⟩ := glue_in (m0 := m0) (w1 := w1) (w := w) hj
      refine ⟨(okC_sh g1 g2).mpr (ok_at hc1 o1), ?_⟩
      rw [eV_sh (n1 := L1.length) (cell j c1 hc1) g1 g2]
      have e2 := hP1 j _ (ws_at w1 hc1)
      rw [adS_lo hj] at e2
      exact e2
    · obtain ⟨g1, g2⟩ := glue_out (m0 := m0) (n1 := L1.length) (k := k) (w1 := w1) (w := w) (by omega)
      have e0 : ctC (glue m0 L1.length w1 w) k c = ctC w k c := by
        unfold ctC
        rw [g1, g2]
      rw [e0]
      refine ⟨ok_at hc o0, ?_⟩
      have e2 := hP0 k _ (ws_at w hc)
      refine va_at.kept e2 (hF.2 _ e2.lt (fun h => ?_))
      obtain ⟨j, hj, hj2⟩ := h
      have := hinj k (m0 + j) hk (by omega) hj2
      omega
  refine ⟨fun k c hk => ?_, fun k q hk => ?_⟩
  · have hlt : k < L.length := by rw [← pj_len (glue m0 L1.length w1 w) L 0]; exact (List.getElem?_eq_some_iff.mp hk).1
    obtain ⟨c1, hc1⟩ : ∃ c1, L[k]? = some c1 := ⟨L[k], List.getElem?_eq_getElem hlt⟩
    have e1 := pj_at (glue m0 L1.length w1 w) L 0 k c1 hc1
    rw [Nat.zero_add] at e1
    cases e1.symm.trans hk
    exact (key k c1 hc1).1
  · obtain ⟨g1, g2⟩ := wsP_inv ad cA _ 0 k q hk
    rw [pj_len] at g1
    obtain ⟨c1, hc1⟩ : ∃ c1, L[k]? = some c1 := ⟨L[k], List.getElem?_eq_getElem g1⟩
    have e1 : (wsP ad cA 0 (pj (glue m0 L1.length w1 w) 0 L))[k]? = some (ad k, eV ad cA (ctC (glue m0 L1.length w1 w) k c1)) := ws_at _ hc1
    cases e1.symm.trans hk
    exact (key k c1 hc1).2
theorem cv_sh {v : AV} (h8 : L1.length < 8000) (hv : okr L1.length v = true) : cv ad (shA m0 v) = cv (adS m0 L1.length ad) v := by
  rcases v with z | x | k
  · rfl
  · rfl
  · simp only [okr, Bool.or_eq_true, decide_eq_true_eq] at hv
    show cv ad (if k < 8000 then aR (m0 + k) else aR k) = Value.ref (adS m0 L1.length ad k)
    rcases hv with h | h
    · rw [if_pos (by omega), adS_lo h]; rfl
    · rw [if_neg (by omega), adS_hi (by omega)]; rfl
theorem args_sh (h8 : L1.length < 8000) : ∀ {as : List AV}, as.all (okr L1.length) = true → (as.map (shA m0)).map (cv ad) = as.map (cv (adS m0 L1.length ad))
  | [], _ => rfl
  | v :: as, hs => by
    simp only [List.all_cons, Bool.and_eq_true] at hs
    rw [List.map_cons, List.map_cons, List.map_cons, cv_sh h8 hs.1, args_sh h8 hs.2]
theorem okS_sh : ∀ {as : List AV}, okS (as.map (shA m0)) → okS as
  | [], _ => fun v hv => by cases hv
  | v :: as, h => okS_c (by
      have := okS_h h
      rcases v with z | x | k
      · exact this
      · trivial
      · trivial) (okS_sh (okS_t h))
def noRef (r : Option AV) : Prop := ∀ k, r ≠ some (aR k)
theorem cv_nr {ad ad' : Nat → Nat} {r : Option AV} (h : noRef r) : r.map (cv ad) = r.map (cv ad') := by
  rcases r with _ | (z | x | k)
  · rfl
  · rfl
  · rfl
  · exact absurd rfl (h k)


theorem Cn.lift {y : MethodName} {d : Nat} {ret : Option FieldType} {as : List AV} {ok : Option AV → St → Prop} (hE : Emb m0 L1 L) (has : as.all (okr L1.length) = true) (hno : ∀ r w9, ok r w9 → noRef r) (h : Cn l y cc nL ret d L1 (wS m0 w) as ok) : Cn l y cc nL ret d L w (as.map (shA m0)) (fun r w' => ∃ w9, ok r w9 ∧ w' = glue m0 L1.length w9 w) := by
  intro D cA ad A hoks
  have h8 : L1.length < 8000 := by have := hE.2.2; omega
  have hM := h D cA (adS m0 L1.length ad) (fun q => ∃ k, k < L1.length ∧ q = ad (m0 + k)) (okS_sh hoks)
  intro p e k1 k2 k3 s m args below hf hap hP _
  obtain ⟨rfl, hW⟩ := hP
  obtain ⟨n, o, a1, a2, a3, ⟨r, w9, ho, hok, hq, hw, hF⟩, L9, hFE, hL9⟩ := hM p e k1 k2 k3 s m _ below hf hap ⟨by rw [args_sh h8 has], World.small hE hW⟩ trivial
  obtain ⟨b1, b2⟩ := heap_back hE hW.2.2.2.1 hW.1 hW.2.1 hw.1 hw.2.1 hF
  have hA : ∀ q, (∃ k, k < L1.length ∧ q = ad (m0 + k)) → A q := fun q hq => by
    obtain ⟨k, hk, rfl⟩ := hq
    exact hW.2.2.2.2.1 (m0 + k) (by have := hE.2.2; omega)
  have hF2 : va_F A s (stepsAlone p.tables e n s) := ⟨hF.1, fun q g1 g2 => hF.2 q g1 (fun g3 => g2 (hA q g3))⟩
  have hc8 : ∀ k, 8000 ≤ k → ad k = adS m0 L1.length ad k := fun k hk => (adS_hi (by have := hE.2.2; omega)).symm
  exact ⟨n, o, a1, a2, a3, ⟨r, glue m0 L1.length w9 w, ho.trans (by rw [cv_nr (hno r w9 hq)]), hok, ⟨w9, hq, rfl⟩, ⟨b1, b2, hw.2.2.1, hW.2.2.2.1, hW.2.2.2.2.1, ExtV.cong hc8 hw.2.2.2.2.2.1, (ExtH.kept hW.2.2.2.2.2.2 hF2.2).moved hFE.2.1.alike⟩, hF2⟩, L9, hFE, fun q hq => hA _ (hL9 q hq)⟩
theorem Ct.lift {y : MethodName} {d mc : Nat} {ret : Option FieldType} {as : List AV} {ok : Option AV → St → Prop} {ex : Nat → St → Prop} (hE : Emb m0 L1 L) (has : as.all (okr L1.length) = true) (hno : ∀ r w9, ok r w9 → noRef r) (h : Ct l y cc nL ret d mc L1 (wS m0 w) as ok ex) : Ct l y cc nL ret d mc L w (as.map (shA m0)) (fun r w' => ∃ w9, ok r w9 ∧ w' = glue m0 L1.length w9 w) (fun x w' => ∃ w9, ex x w9 ∧ w' = glue m0 L1.length w9 w) := by
  intro D cA ad A hoks
  have h8 : L1.length < 8000 := by have := hE.2.2; omega
  have hM := h D cA (adS m0 L1.length ad) (fun q => ∃ k, k < L1.length ∧ q = ad (m0 + k)) (okS_sh hoks)
  intro p e k1 k2 k3 s m args below hf hap hP _
  obtain ⟨rfl, hW⟩ := hP
  have hA : ∀ q, (∃ k, k < L1.length ∧ q = ad (m0 + k)) → A q := fun q hq => by
    obtain ⟨k, hk, rfl⟩ := hq
    exact hW.2.2.2.2.1 (m0 + k) (by have := hE.2.2; omega)
  have hc8 : ∀ k, 8000 ≤ k → ad k = adS m0 L1.length ad k := fun k hk => (adS_hi (by have := hE.2.2; omega)).symm
  obtain ⟨n, o, a1, a2, a3, a4⟩ := hM p e k1 k2 k3 s m _ below hf hap ⟨by rw [args_sh h8 has], World.small hE hW⟩ trivial
  refine ⟨n, o, a1, a2, a3, ?_⟩
  rcases a4 with ⟨⟨r, w9, ho, hok, hq, hw, hF⟩, L9, hFE, hL9⟩ | ⟨q, ho, E, ce, L9, ⟨x, w9, rfl, hx, hk, hp, hF⟩, g1, g2, g3, g4, g5, g6⟩
  · obtain ⟨b1, b2⟩ := heap_back hE hW.2.2.2.1 hW.1 hW.2.1 hw.1 hw.2.1 hF
    have hF2 : va_F A s (stepsAlone p.tables e n s) := ⟨hF.1, fun q g1 g2 => hF.2 q g1 (fun g3 => g2 (hA q g3))⟩
    exact Or.inl ⟨⟨r, glue m0 L1.length w9 w, ho.trans (by rw [cv_nr (hno r w9 hq)]), hok, ⟨w9, hq, rfl⟩, ⟨b1, b2, hw.2.2.1, hW.2.2.2.1, hW.2.2.2.2.1, ExtV.cong hc8 hw.2.2.2.2.2.1, (ExtH.kept hW.2.2.2.2.2.2 hF2.2).moved hFE.2.1.alike⟩, hF2⟩, L9, hFE, fun q hq => hA _ (hL9 q hq)⟩
  · obtain ⟨b1, b2⟩ := heap_back hE hW.2.2.2.1 hW.1 hW.2.1 hk hp hF
    have hF2 : va_F A s (stepsAlone p.tables e n s) := ⟨hF.1, fun q g1 g2 => hF.2 q g1 (fun g3 => g2 (hA q g3))⟩
    exact Or.inr ⟨q, ho, exN x, ce, L9, ⟨x, glue m0 L1.length w9 w, rfl, ⟨w9, hx, rfl⟩, b1, b2, hF2⟩, g1, g2, g3, g4, g5, fun z hz => hA _ (g6 z hz)⟩

end RLF
