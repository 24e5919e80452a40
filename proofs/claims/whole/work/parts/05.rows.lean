def strT : List (String × Nat × String × List Int) := [("PassagePicker$QueryReader", 45, "item", [105, 116, 101, 109]), ("PassagePicker$QueryReader", 62, "soft", [115, 111, 102, 116]), ("PassagePicker", 106, "the query's text is wrong", [116, 104, 101, 32, 113, 117, 101, 114, 121, 39, 115, 32, 116, 101, 120, 116, 32, 105, 115, 32, 119, 114, 111, 110, 103]), ("PassagePicker", 383, "there is no such question", [116, 104, 101, 114, 101, 32, 105, 115, 32, 110, 111, 32, 115, 117, 99, 104, 32, 113, 117, 101, 115, 116, 105, 111, 110]), ("PassagePicker", 386, "the number is out of its range", [116, 104, 101, 32, 110, 117, 109, 98, 101, 114, 32, 105, 115, 32, 111, 117, 116, 32, 111, 102, 32, 105, 116, 115, 32, 114, 97, 110, 103, 101]), ("PassagePicker", 378, "there is no such thing", [116, 104, 101, 114, 101, 32, 105, 115, 32, 110, 111, 32, 115, 117, 99, 104, 32, 116, 104, 105, 110, 103]), ("PassagePicker", 388, "no set of items", [110, 111, 32, 115, 101, 116, 32, 111, 102, 32, 105, 116, 101, 109, 115]), ("PassagePicker", 390, "no set of sentences", [110, 111, 32, 115, 101, 116, 32, 111, 102, 32, 115, 101, 110, 116, 101, 110, 99, 101, 115]), ("PassagePicker", 314, "the sentence may not be chosen", [116, 104, 101, 32, 115, 101, 110, 116, 101, 110, 99, 101, 32, 109, 97, 121, 32, 110, 111, 116, 32, 98, 101, 32, 99, 104, 111, 115, 101, 110]), ("PassagePicker", 320, "the sentence is not chosen", [116, 104, 101, 32, 115, 101, 110, 116, 101, 110, 99, 101, 32, 105, 115, 32, 110, 111, 116, 32, 99, 104, 111, 115, 101, 110]), ("PassagePicker", 334, "no exchange is worth more", [110, 111, 32, 101, 120, 99, 104, 97, 110, 103, 101, 32, 105, 115, 32, 119, 111, 114, 116, 104, 32, 109, 111, 114, 101]), ("PassagePicker$Writer", 74, "..", [46, 46]), ("PassagePicker$Writer", 171, "</t>", [60, 47, 116, 62]), ("PassagePicker$Writer", 179, "<s>", [60, 115, 62]), ("PassagePicker$Writer", 181, "</s>", [60, 47, 115, 62]), ("PassagePicker$Writer", 177, "<t>", [60, 116, 62]), ("PassagePicker$Writer", 183, "&lt;", [38, 108, 116, 59]), ("PassagePicker$Writer", 185, "&gt;", [38, 103, 116, 59]), ("PassagePicker$Writer", 187, "&amp;", [38, 97, 109, 112, 59]), ("PassagePicker$Writer", 189, "&quot;", [38, 113, 117, 111, 116, 59]), ("PassagePicker$Writer", 120, "", []), ("PassagePicker$Writer", 122, " ", [32]), ("PassagePicker$Writer", 124, " .. ", [32, 46, 46, 32]), ("PassagePickerModel", 254, "item", [105, 116, 101, 109]), ("PassagePickerModel", 264, "soft", [115, 111, 102, 116]), ("PassagePickerModel", 455, "..", [46, 46]), ("PassagePickerModel", 457, "", []), ("PassagePickerModel", 459, " ", [32]), ("PassagePickerModel", 461, " .. ", [32, 46, 46, 32]), ("PassagePickerModel", 418, "</t>", [60, 47, 116, 62]), ("PassagePickerModel", 423, "</s>", [60, 47, 115, 62]), ("PassagePickerModel", 439, "<s>", [60, 115, 62]), ("PassagePickerModel", 444, "<t>", [60, 116, 62]), ("PassagePickerModel", 403, "&lt;", [38, 108, 116, 59]), ("PassagePickerModel", 409, "&gt;", [38, 103, 116, 59]), ("PassagePickerModel", 411, "&amp;", [38, 97, 109, 112, 59]), ("PassagePickerModel", 413, "&quot;", [38, 113, 117, 111, 116, 59])]


def tmv (j : Nat) : Int := match j with
  | 0 => 0
  | 1 => 10
  | 2 => 13
  | _ => 14
def sBy (i : Nat) : List Int := (strT.getD i ("", 0, "", [])).2.2.2
def ExtV (ad : Nat → Nat) (U : State) : Prop := (∀ w ∈ nw, va_Nw w U) ∧ ∀ (i : Nat) (q : String × Nat × String × List Int), strT[i]? = some q → vk_R q.1 q.2.1 q.2.2.1 (ad (10000 + i)) U
def ExtS (ad : Nat → Nat) (A : Nat → Prop) (U : State) (H : Heap) (i : Nat) : Prop := va_O "java/lang/String" (ad (10000 + i)) A U H ∧ va_OF "java/lang/String" "coder" "B" (.int 0) (ad (10000 + i)) A U H ∧ va_OF "java/lang/String" "value" "[B" (.ref (ad (20000 + i))) (ad (10000 + i)) A U H ∧ va_T .byte (ad (20000 + i)) (sBy i).length (fun j => .int (Int32.ofInt ((sBy i).getD j 0))) A U H
def ExtH (ad : Nat → Nat) (A : Nat → Prop) (U : State) (H : Heap) : Prop :=
  (va_Z "PassagePicker" "TIMES" "[I" (.ref (ad 9000)) A U H ∧ va_T .int (ad 9000) 4 (fun j => .int (Int32.ofInt (tmv j))) A U H) ∧ (∀ i : Nat, i < 37 → ExtS ad A U H i) ∧
  va_Z "java/lang/String" "COMPACT_STRINGS" "Z" (.int 1) A U H ∧ vx_Zq Bundle.tN "UNASSIGNED_STACK" Bundle.steD A U H ∧ vx_Zq Bundle.tN "SUPPRESSED_SENTINEL" Bundle.listD A U H ∧ va_Zq "jdk/internal/util/Preconditions" "SIOOBE_FORMATTER" "Ljava/util/function/BiFunction;" A U H
theorem ExtV.warm {ad : Nat → Nat} {s U : State} (hW : s.WarmedH U.vm) (h : ExtV ad s) : ExtV ad U := ⟨nw_warm hW h.1, fun i q hq => vk_R.warm hW (h.2 i q hq)⟩
theorem ExtV.same {ad : Nat → Nat} {s U : State} (hv : s.vm = U.vm) (h : ExtV ad s) : ExtV ad U := ⟨nw_same hv h.1, fun i q hq => vk_R.same hv.symm (h.2 i q hq)⟩
theorem ExtH.moved {ad : Nat → Nat} {A : Nat → Prop} {u U : State} {H : Heap} (hvm : u.vm.Alike U.vm) (h : ExtH ad A u H) : ExtH ad A U H :=
  ⟨⟨va_Z.moved hvm h.1.1, va_T.moved hvm h.1.2⟩, fun i hi => ⟨va_O.moved hvm (h.2.1 i hi).1, va_OF.moved hvm (h.2.1 i hi).2.1, va_OF.moved hvm (h.2.1 i hi).2.2.1, va_T.moved hvm (h.2.1 i hi).2.2.2⟩, va_Z.moved hvm h.2.2.1, vx_Zq.moved hvm h.2.2.2.1, vx_Zq.moved hvm h.2.2.2.2.1, va_Zq.moved hvm h.2.2.2.2.2⟩
theorem ExtH.kept {ad : Nat → Nat} {A : Nat → Prop} {U : State} {H H1 : Heap} (h : ExtH ad A U H) (hq : ∀ a : Nat, a < H.size → ¬ A a → H1[a]? = H[a]?) : ExtH ad A U H1 :=
  ⟨⟨h.1.1.kept hq, h.1.2.kept hq⟩, fun i hi => ⟨(h.2.1 i hi).1.kept hq, (h.2.1 i hi).2.1.kept hq, (h.2.1 i hi).2.2.1.kept hq, (h.2.1 i hi).2.2.2.kept hq⟩, h.2.2.1.kept hq, h.2.2.2.1.kept hq, h.2.2.2.2.1.kept hq, h.2.2.2.2.2.kept hq⟩
theorem ExtH.narrow {ad : Nat → Nat} {A B : Nat → Prop} {U : State} {H : Heap} (h : ExtH ad A U H) (hq : ∀ a : Nat, B a → A a) : ExtH ad B U H :=
  ⟨⟨h.1.1.narrow hq, h.1.2.narrow hq⟩, fun i hi => ⟨(h.2.1 i hi).1.narrow hq, (h.2.1 i hi).2.1.narrow hq, (h.2.1 i hi).2.2.1.narrow hq, (h.2.1 i hi).2.2.2.narrow hq⟩, h.2.2.1.narrow hq, h.2.2.2.1.narrow hq, h.2.2.2.2.1.narrow hq, h.2.2.2.2.2.narrow hq⟩
/-- what holds all through a method's body -/
def Cx (p : Program) (s : State) (m : MethodId) (args : Array Value) (c : Code) (cc : ByteArray) (nL : Nat) (own : String) (D : va_G) (cA : Nat → ClassId) (ad : Nat → Nat) (A : Nat → Prop) (L : List LC) : Prop :=
  p.tables.exec = Jvm.exec ∧ c.code = cc ∧ c.maxLocals = nL ∧ s.vm.findClass own = some m.cls ∧ (∀ w ∈ gw, w.before args s = true) ∧ va_K D vwCl (tyL cA) s ∧ (∀ i j, i < L.length → j < L.length → ad i = ad j → i = j) ∧ (∀ k, k < L.length → A (ad k)) ∧ ExtV ad s ∧ ExtH ad A s s.heap
def okS (st : List AV) : Prop := ∀ v ∈ st, okv v
def okL (ls : List (Option AV)) : Prop := ∀ (i : Nat) (v : AV), ls[i]? = some (some v) → okv v
def lhas (ad : Nat → Nat) (la : Array Slot) (nL : Nat) (ls : List (Option AV)) : Prop := la.size = nL ∧ lv_wf la ∧ ∀ (i : Nat) (v : AV), ls[i]? = some (some v) → la[i]? = some (.val (cv ad v))
def Wd (p : Program) (l : Launch) (e : Env) (R : Room) (s : State) (m : MethodId) (args : Array Value) (below : List Frame) (meth : Method) (c : Code) (Q : State → Prop) (cells slots nL : Nat) (D : va_G) (cA : Nat → ClassId) (ad : Nat → Nat) (A : Nat → Prop) (L : List LC) (w : St) (pc : Nat) (ls : List (Option AV)) (st : List AV) : Prop :=
  ∀ (H : Heap) (locs : List Loc) (la : Array Slot), okP (pj w 0 L) → okL ls → okS st → va_P D vwCl (wsP ad cA 0 (pj w 0 L)) H → va_S A s.heap H locs → lhas ad la nL ls → W p l e R s m args below meth c H locs cells slots Q (F0 m pc la (st.map (cv ad)))
theorem okS_c {v : AV} {st : List AV} (h : okv v) (h2 : okS st) : okS (v :: st) := fun x hx => by
  rcases List.mem_cons.mp hx with rfl | hx
  · exact h
  · exact h2 x hx
theorem okS_t {v : AV} {st : List AV} (h : okS (v :: st)) : okS st := fun x hx => h x (List.mem_cons_of_mem _ hx)
theorem okS_h {v : AV} {st : List AV} (h : okS (v :: st)) : okv v := h v List.mem_cons_self
theorem cat_cv (ad : Nat → Nat) (v : AV) : (cv ad v).category = match v with
  | .inr (.inl _) => 2
  | _ => 1 := by
  rcases v with z | x | k <;> rfl
def isL (v : AV) : Bool := match v with
  | .inr (.inl _) => true
  | _ => false
def noL (ls : List (Option AV)) (i : Nat) : Bool := match i with
  | 0 => true
  | j + 1 => match ls[j]? with
    | some (some v) => !isL v
    | _ => true
theorem okL_set {ls : List (Option AV)} {i : Nat} {v : AV} (h : okL ls) (hv : okv v) : okL (ls.set i (some v)) := by
  intro j x hx
  rw [List.getElem?_set] at hx
  split at hx
  · split at hx
    · cases hx; exact hv
    · cases hx
  · exact h j x hx
theorem okL_none {ls : List (Option AV)} {i : Nat} (h : okL ls) : okL (ls.set i none) := by
  intro j x hx
  rw [List.getElem?_set] at hx
  split at hx
  · split at hx
    · cases hx
    · cases hx
  · exact h j x hx
theorem lhas_list {ad : Nat → Nat} {la : Array Slot} {nL : Nat} {ls : List (Option AV)} (h : lhas ad la nL ls) (k : List (Nat × Value)) (hk : ∀ q ∈ k, ∃ v, ls[q.1]? = some (some v) ∧ q.2 = cv ad v) : lv_has la nL k := ⟨h.1, h.2.1, fun q hq => by
  obtain ⟨v, h1, h2⟩ := hk q hq
  rw [h2]
  exact h.2.2 _ v h1⟩
/-- all listed locals, as a list of places -/
def lsV (ad : Nat → Nat) (ls : List (Option AV)) : List (Nat × Value) := (List.range ls.length).filterMap (fun i => match ls[i]? with
  | some (some v) => some (i, cv ad v)
  | _ => none)
theorem lsV_of {ad : Nat → Nat} {la : Array Slot} {nL : Nat} {ls : List (Option AV)} (h : lhas ad la nL ls) : lv_has la nL (lsV ad ls) := lhas_list h _ (fun q hq => by
  obtain ⟨i, -, hi⟩ := List.mem_filterMap.mp hq
  split at hi
  · next v hv => cases hi; exact ⟨v, hv, rfl⟩
  · cases hi)
theorem lsV_mem {ad : Nat → Nat} {ls : List (Option AV)} {i : Nat} {v : AV} (h : ls[i]? = some (some v)) : (i, cv ad v) ∈ lsV ad ls := by
  refine List.mem_filterMap.mpr ⟨i, List.mem_range.mpr (List.getElem?_eq_some_iff.mp h).1, ?_⟩
  rw [h]
theorem lhas_st1 {ad : Nat → Nat} {la : Array Slot} {nL : Nat} {ls : List (Option AV)} {i : Nat} {v : AV} (hno : noL ls i = true) (h : lv_has la nL ((i, cv ad v) :: (lsV ad ls).filter (fun q => !(q.1 == i) && !(q.1 + 1 == i && q.2.category == 2)))) : lhas ad la nL (ls.set i (some v)) := by
  refine ⟨h.1, h.2.1, fun j x hx => ?_⟩
  rw [List.getElem?_set] at hx
  split at hx
  · next hij =>
    subst hij
    split at hx
    · cases hx; exact h.2.2 _ List.mem_cons_self
    · cases hx
  · next hij =>
    refine h.2.2 (j, cv ad x) (List.mem_cons_of_mem _ (List.mem_filter.mpr ⟨lsV_mem hx, ?_⟩))
    have e1 : (j == i) = false := by simp; omega
    have e2 : (j + 1 == i && (cv ad x).category == 2) = false := by
      by_cases hj : j + 1 = i
      · subst hj
        unfold noL at hno
        simp only [hx] at hno
        rcases x with z | y | k
        · simp [cv, Value.category]
        · simp [isL] at hno
        · simp [cv, Value.category]
      · simp [hj]
    simp [e1, e2]
theorem lhas_st2 {ad : Nat → Nat} {la : Array Slot} {nL : Nat} {ls : List (Option AV)} {i : Nat} {v : AV} (hno : noL ls i = true) (h : lv_has la nL ((i, cv ad v) :: (lsV ad ls).filter (fun q => !(q.1 == i) && (!(q.1 == i + 1) && !(q.1 + 1 == i && q.2.category == 2))))) : lhas ad la nL ((ls.set i (some v)).set (i + 1) none) := by
  refine ⟨h.1, h.2.1, fun j x hx => ?_⟩
  rw [List.getElem?_set] at hx
  split at hx
  · split at hx
    · cases hx
    · cases hx
  · next hij1 =>
    rw [List.getElem?_set] at hx
    split at hx
    · next hij =>
      subst hij
      split at hx
      · cases hx; exact h.2.2 _ List.mem_cons_self
      · cases hx
    · next hij =>
      refine h.2.2 (j, cv ad x) (List.mem_cons_of_mem _ (List.mem_filter.mpr ⟨lsV_mem hx, ?_⟩))
      have e1 : (j == i) = false := by simp; omega
      have e3 : (j == i + 1) = false := by simp; omega
      have e2 : (j + 1 == i && (cv ad x).category == 2) = false := by
        by_cases hj : j + 1 = i
        · subst hj
          unfold noL at hno
          simp only [hx] at hno
          rcases x with z | y | k
          · simp [cv, Value.category]
          · simp [isL] at hno
          · simp [cv, Value.category]
        · simp [hj]
      simp [e1, e2, e3]

section RW
variable {p : Program} {l : Launch} {e : Env} {R : Room} {s : State} {m : MethodId} {args : Array Value} {below : List Frame} {meth : Method} {c : Code} {Q : State → Prop} {cells slots nL : Nat} {D : va_G} {cA : Nat → ClassId} {ad : Nat → Nat} {A : Nat → Prop} {L : List LC} {w : St} {pc : Nat} {ls : List (Option AV)} {st : List AV} {cc : ByteArray} {own : String}

theorem r_conv {w2 : St} (h : pj w 0 L = pj w2 0 L) (k : Wd p l e R s m args below meth c Q cells slots nL D cA ad A L w2 (pc) (ls) (st)) : Wd p l e R s m args below meth c Q cells slots nL D cA ad A L w (pc) (ls) (st) := by
  intro H locs la o1 o2 o3 hP hS hl
  rw [h] at o1 hP
  exact k H locs la o1 o2 o3 hP hS hl
theorem r_ls {ls2 : List (Option AV)} (h : ∀ (i : Nat) (v : AV), ls2[i]? = some (some v) → ls[i]? = some (some v)) (k : Wd p l e R s m args below meth c Q cells slots nL D cA ad A L w (pc) (ls2) (st)) : Wd p l e R s m args below meth c Q cells slots nL D cA ad A L w (pc) (ls) (st) := by
  intro H locs la o1 o2 o3 hP hS hl
  exact k H locs la o1 (fun i v hv => o2 i v (h i v hv)) o3 hP hS ⟨hl.1, hl.2.1, fun i v hv => hl.2.2 i v (h i v hv)⟩

theorem r_iconst (hC : Cx p s m args c cc nL own D cA ad A L) {n : Int} (hd : decode cc pc = .ok (.iconst n, 1)) (hn : rng n) (k : Wd p l e R s m args below meth c Q cells slots nL D cA ad A L w (pc + 1) (ls) (aI n :: st)) : Wd p l e R s m args below meth c Q cells slots nL D cA ad A L w (pc) (ls) (st) := by
  intro H locs la o1 o2 o3 hP hS hl
  refine lv_iconst hC.1 hC.2.1 hd rfl ?_
  exact k H locs la o1 o2 (okS_c (hn) o3) hP hS hl
theorem r_bipush (hC : Cx p s m args c cc nL own D cA ad A L) {n : Int} (hd : decode cc pc = .ok (.bipush n, 2)) (hn : (Int8.ofInt n).toInt32 = Int32.ofInt n ∧ rng n) (k : Wd p l e R s m args below meth c Q cells slots nL D cA ad A L w (pc + 2) (ls) (aI n :: st)) : Wd p l e R s m args below meth c Q cells slots nL D cA ad A L w (pc) (ls) (st) := by
  intro H locs la o1 o2 o3 hP hS hl
  refine lv_bipush hC.1 hC.2.1 hd hn.1 ?_
  exact k H locs la o1 o2 (okS_c (hn.2) o3) hP hS hl
theorem r_sipush (hC : Cx p s m args c cc nL own D cA ad A L) {n : Int} (hd : decode cc pc = .ok (.sipush n, 3)) (hn : (Int16.ofInt n).toInt32 = Int32.ofInt n ∧ rng n) (k : Wd p l e R s m args below meth c Q cells slots nL D cA ad A L w (pc + 3) (ls) (aI n :: st)) : Wd p l e R s m args below meth c Q cells slots nL D cA ad A L w (pc) (ls) (st) := by
  intro H locs la o1 o2 o3 hP hS hl
  refine lv_sipush hC.1 hC.2.1 hd hn.1 ?_
  exact k H locs la o1 o2 (okS_c (hn.2) o3) hP hS hl
theorem r_lconst (hC : Cx p s m args c cc nL own D cA ad A L) {n : Fin 2} {x : Int64} (hd : decode cc pc = .ok (.lconst n, 1)) (hn : Int64.ofNat (n : Nat) = x) (k : Wd p l e R s m args below meth c Q cells slots nL D cA ad A L w (pc + 1) (ls) (aL x :: st)) : Wd p l e R s m args below meth c Q cells slots nL D cA ad A L w (pc) (ls) (st) := by
  intro H locs la o1 o2 o3 hP hS hl
  refine lv_lconst hC.1 hC.2.1 hd hn ?_
  exact k H locs la o1 o2 (okS_c (trivial) o3) hP hS hl
theorem r_ldc2 (hC : Cx p s m args c cc nL own D cA ad A L) {i : Nat} {x : Int64} (hd : decode cc pc = .ok (.ldc2_w i, 3)) (hg : Cond.constantLong own i x ∈ gw) (k : Wd p l e R s m args below meth c Q cells slots nL D cA ad A L w (pc + 3) (ls) (aL x :: st)) : Wd p l e R s m args below meth c Q cells slots nL D cA ad A L w (pc) (ls) (st) := by
  intro H locs la o1 o2 o3 hP hS hl
  refine lv_ldc2 hC.1 hC.2.1 hC.2.2.2.1 (hC.2.2.2.2.1 _ hg) hd ?_
  exact k H locs la o1 o2 (okS_c (trivial) o3) hP hS hl
theorem r_ldcw (hC : Cx p s m args c cc nL own D cA ad A L) {i : Nat} {n : Int} (hd : decode cc pc = .ok (.ldc_w i, 3)) (hg : Cond.constant own i (Int32.ofInt n) ∈ gw) (hn : rng n) (k : Wd p l e R s m args below meth c Q cells slots nL D cA ad A L w (pc + 3) (ls) (aI n :: st)) : Wd p l e R s m args below meth c Q cells slots nL D cA ad A L w (pc) (ls) (st) := by
  intro H locs la o1 o2 o3 hP hS hl
  refine lv_ldcw hC.1 hC.2.1 hC.2.2.2.1 (hC.2.2.2.2.1 _ hg) hd ?_
  exact k H locs la o1 o2 (okS_c (hn) o3) hP hS hl
theorem r_ldci (hC : Cx p s m args c cc nL own D cA ad A L) {i : Nat} {n : Int} (hd : decode cc pc = .ok (.ldc i, 2)) (hg : Cond.constant own i (Int32.ofInt n) ∈ gw) (hn : rng n) (k : Wd p l e R s m args below meth c Q cells slots nL D cA ad A L w (pc + 2) (ls) (aI n :: st)) : Wd p l e R s m args below meth c Q cells slots nL D cA ad A L w (pc) (ls) (st) := by
  intro H locs la o1 o2 o3 hP hS hl
  refine lv_ldc hC.1 hC.2.1 hC.2.2.2.1 (hC.2.2.2.2.1 _ hg) hd ?_
  exact k H locs la o1 o2 (okS_c (hn) o3) hP hS hl
theorem r_ldcs (hC : Cx p s m args c cc nL own D cA ad A L) {i j : Nat} {q : String × Nat × String × List Int} (hd : decode cc pc = .ok (.ldc i, 2)) (hj : strT[j]? = some q) (hq : q.1 = own ∧ q.2.1 = i) (k : Wd p l e R s m args below meth c Q cells slots nL D cA ad A L w (pc + 2) (ls) (aR (10000 + j) :: st)) : Wd p l e R s m args below meth c Q cells slots nL D cA ad A L w (pc) (ls) (st) := by
  intro H locs la o1 o2 o3 hP hS hl
  refine va_ldcS hC.1 hC.2.1 hC.2.2.2.1 (by have h9 := hC.2.2.2.2.2.2.2.2.1.2 j q hj; rw [hq.1, hq.2] at h9; exact h9) hd ?_
  exact k H locs la o1 o2 (okS_c (trivial) o3) hP hS hl
theorem q_ldcwS {H : Heap} {locs : List Loc} {la : Array Slot} {rest : List Value} (hexec : p.tables.exec = Jvm.exec) (hb : c.code = cc) {tx : String} {index q : Nat} (hown : s.vm.findClass own = some m.cls) (hZ : vk_R own index tx q s) (hdg : decode cc pc = .ok (.ldc_w index, 3))
    (k : W p l e R s m args below meth c H locs cells slots Q (F0 m (pc + 3) la (.ref q :: rest))) : W p l e R s m args below meth c H locs cells slots Q (F0 m pc la rest) := by
  intro T hT X
  obtain ⟨t, a1, b1⟩ := k T hT X
  exact ⟨t, X.ldcStringW hexec hown (text := tx) (a := q) hZ.1 hZ.2 (g := F0 m pc la rest) rfl (by rw [hb]; exact hdg) t a1, b1⟩
theorem r_ldcsw (hC : Cx p s m args c cc nL own D cA ad A L) {i j : Nat} {q : String × Nat × String × List Int} (hd : decode cc pc = .ok (.ldc_w i, 3)) (hj : strT[j]? = some q) (hq : q.1 = own ∧ q.2.1 = i) (k : Wd p l e R s m args below meth c Q cells slots nL D cA ad A L w (pc + 3) (ls) (aR (10000 + j) :: st)) : Wd p l e R s m args below meth c Q cells slots nL D cA ad A L w (pc) (ls) (st) := by
  intro H locs la o1 o2 o3 hP hS hl
  refine q_ldcwS hC.1 hC.2.1 hC.2.2.2.1 (by have h9 := hC.2.2.2.2.2.2.2.2.1.2 j q hj; rw [hq.1, hq.2] at h9; exact h9) hd ?_
  exact k H locs la o1 o2 (okS_c (trivial) o3) hP hS hl
theorem r_iload_n (hC : Cx p s m args c cc nL own D cA ad A L) {k : Fin 4} {x : Int} (i : Nat) (hd : decode cc pc = .ok (.iload_n k, 1)) (hi : (k : Nat) = i) (hv : ls[i]? = some (some (aI x))) (k : Wd p l e R s m args below meth c Q cells slots nL D cA ad A L w (pc + 1) (ls) (aI x :: st)) : Wd p l e R s m args below meth c Q cells slots nL D cA ad A L w (pc) (ls) (st) := by
  intro H locs la o1 o2 o3 hP hS hl
  refine lv_iload_n hC.1 hC.2.1 hd hi (hl.2.2 i _ hv) ?_
  exact k H locs la o1 o2 (okS_c (o2 i _ hv) o3) hP hS hl
theorem r_iload (hC : Cx p s m args c cc nL own D cA ad A L) {i : Nat} {x : Int} (hd : decode cc pc = .ok (.iload i, 2)) (hv : ls[i]? = some (some (aI x))) (k : Wd p l e R s m args below meth c Q cells slots nL D cA ad A L w (pc + 2) (ls) (aI x :: st)) : Wd p l e R s m args below meth c Q cells slots nL D cA ad A L w (pc) (ls) (st) := by
  intro H locs la o1 o2 o3 hP hS hl
  refine lv_iload hC.1 hC.2.1 hd (hl.2.2 i _ hv) ?_
  exact k H locs la o1 o2 (okS_c (o2 i _ hv) o3) hP hS hl
theorem r_lload_n (hC : Cx p s m args c cc nL own D cA ad A L) {k : Fin 4} {x : Int64} (i : Nat) (hd : decode cc pc = .ok (.lload_n k, 1)) (hi : (k : Nat) = i) (hv : ls[i]? = some (some (aL x))) (k : Wd p l e R s m args below meth c Q cells slots nL D cA ad A L w (pc + 1) (ls) (aL x :: st)) : Wd p l e R s m args below meth c Q cells slots nL D cA ad A L w (pc) (ls) (st) := by
  intro H locs la o1 o2 o3 hP hS hl
  refine lv_lload_n hC.1 hC.2.1 hd hi (hl.2.2 i _ hv) ?_
  exact k H locs la o1 o2 (okS_c (o2 i _ hv) o3) hP hS hl
theorem r_lload (hC : Cx p s m args c cc nL own D cA ad A L) {i : Nat} {x : Int64} (hd : decode cc pc = .ok (.lload i, 2)) (hv : ls[i]? = some (some (aL x))) (k : Wd p l e R s m args below meth c Q cells slots nL D cA ad A L w (pc + 2) (ls) (aL x :: st)) : Wd p l e R s m args below meth c Q cells slots nL D cA ad A L w (pc) (ls) (st) := by
  intro H locs la o1 o2 o3 hP hS hl
  refine lv_lload hC.1 hC.2.1 hd (hl.2.2 i _ hv) ?_
  exact k H locs la o1 o2 (okS_c (o2 i _ hv) o3) hP hS hl
theorem r_aload_n (hC : Cx p s m args c cc nL own D cA ad A L) {k : Fin 4} {x : Nat} (i : Nat) (hd : decode cc pc = .ok (.aload_n k, 1)) (hi : (k : Nat) = i) (hv : ls[i]? = some (some (aR x))) (k : Wd p l e R s m args below meth c Q cells slots nL D cA ad A L w (pc + 1) (ls) (aR x :: st)) : Wd p l e R s m args below meth c Q cells slots nL D cA ad A L w (pc) (ls) (st) := by
  intro H locs la o1 o2 o3 hP hS hl
  refine lv_aload_n hC.1 hC.2.1 hd hi (hl.2.2 i _ hv) ?_
  exact k H locs la o1 o2 (okS_c (o2 i _ hv) o3) hP hS hl
theorem r_aload (hC : Cx p s m args c cc nL own D cA ad A L) {i : Nat} {x : Nat} (hd : decode cc pc = .ok (.aload i, 2)) (hv : ls[i]? = some (some (aR x))) (k : Wd p l e R s m args below meth c Q cells slots nL D cA ad A L w (pc + 2) (ls) (aR x :: st)) : Wd p l e R s m args below meth c Q cells slots nL D cA ad A L w (pc) (ls) (st) := by
  intro H locs la o1 o2 o3 hP hS hl
  refine lv_aload hC.1 hC.2.1 hd (hl.2.2 i _ hv) ?_
  exact k H locs la o1 o2 (okS_c (o2 i _ hv) o3) hP hS hl
theorem r_istore_n (hC : Cx p s m args c cc nL own D cA ad A L) {k : Fin 4} {x : Int} {ls2 : List (Option AV)} (i : Nat) (hd : decode cc pc = .ok (.istore_n k, 1)) (hi : (k : Nat) = i) (hn : i < nL) (hno : noL ls i = true) (h2 : ls.set i (some (aI x)) = ls2) (k : Wd p l e R s m args below meth c Q cells slots nL D cA ad A L w (pc + 1) (ls2) (st)) : Wd p l e R s m args below meth c Q cells slots nL D cA ad A L w (pc) (ls) (aI x :: st) := by
  intro H locs la o1 o2 o3 hP hS hl
  refine lv_istore_n hC.1 hC.2.1 hd hi (lsV_of hl) hn rfl (fun la2 hl2 => ?_)
  subst h2
  exact k H locs la2 o1 (okL_set o2 (okS_h o3)) (okS_t o3) hP hS (lhas_st1 hno hl2)
theorem r_istore (hC : Cx p s m args c cc nL own D cA ad A L) {i : Nat} {x : Int} {ls2 : List (Option AV)} (hd : decode cc pc = .ok (.istore i, 2)) (hn : i < nL) (hno : noL ls i = true) (h2 : ls.set i (some (aI x)) = ls2) (k : Wd p l e R s m args below meth c Q cells slots nL D cA ad A L w (pc + 2) (ls2) (st)) : Wd p l e R s m args below meth c Q cells slots nL D cA ad A L w (pc) (ls) (aI x :: st) := by
  intro H locs la o1 o2 o3 hP hS hl
  refine lv_istore hC.1 hC.2.1 hd (lsV_of hl) hn rfl (fun la2 hl2 => ?_)
  subst h2
  exact k H locs la2 o1 (okL_set o2 (okS_h o3)) (okS_t o3) hP hS (lhas_st1 hno hl2)
theorem r_astore_n (hC : Cx p s m args c cc nL own D cA ad A L) {k : Fin 4} {x : Nat} {ls2 : List (Option AV)} (i : Nat) (hd : decode cc pc = .ok (.astore_n k, 1)) (hi : (k : Nat) = i) (hn : i < nL) (hno : noL ls i = true) (h2 : ls.set i (some (aR x)) = ls2) (k : Wd p l e R s m args below meth c Q cells slots nL D cA ad A L w (pc + 1) (ls2) (st)) : Wd p l e R s m args below meth c Q cells slots nL D cA ad A L w (pc) (ls) (aR x :: st) := by
  intro H locs la o1 o2 o3 hP hS hl
  refine lv_astore_n hC.1 hC.2.1 hd hi (lsV_of hl) hn rfl (fun la2 hl2 => ?_)
  subst h2
  exact k H locs la2 o1 (okL_set o2 (okS_h o3)) (okS_t o3) hP hS (lhas_st1 hno hl2)
theorem r_astore (hC : Cx p s m args c cc nL own D cA ad A L) {i : Nat} {x : Nat} {ls2 : List (Option AV)} (hd : decode cc pc = .ok (.astore i, 2)) (hn : i < nL) (hno : noL ls i = true) (h2 : ls.set i (some (aR x)) = ls2) (k : Wd p l e R s m args below meth c Q cells slots nL D cA ad A L w (pc + 2) (ls2) (st)) : Wd p l e R s m args below meth c Q cells slots nL D cA ad A L w (pc) (ls) (aR x :: st) := by
  intro H locs la o1 o2 o3 hP hS hl
  refine lv_astore hC.1 hC.2.1 hd (lsV_of hl) hn rfl (fun la2 hl2 => ?_)
  subst h2
  exact k H locs la2 o1 (okL_set o2 (okS_h o3)) (okS_t o3) hP hS (lhas_st1 hno hl2)
theorem r_lstore_n (hC : Cx p s m args c cc nL own D cA ad A L) {k : Fin 4} {x : Int64} {ls2 : List (Option AV)} (i : Nat) (hd : decode cc pc = .ok (.lstore_n k, 1)) (hi : (k : Nat) = i) (hn : i + 1 < nL) (hno : noL ls i = true) (h2 : (ls.set i (some (aL x))).set (i + 1) none = ls2) (k : Wd p l e R s m args below meth c Q cells slots nL D cA ad A L w (pc + 1) (ls2) (st)) : Wd p l e R s m args below meth c Q cells slots nL D cA ad A L w (pc) (ls) (aL x :: st) := by
  intro H locs la o1 o2 o3 hP hS hl
  refine lv_lstore_n hC.1 hC.2.1 hd hi (lsV_of hl) hn rfl (fun la2 hl2 => ?_)
  subst h2
  exact k H locs la2 o1 (okL_none (okL_set o2 trivial)) (okS_t o3) hP hS (lhas_st2 hno hl2)
theorem r_lstore (hC : Cx p s m args c cc nL own D cA ad A L) {i : Nat} {x : Int64} {ls2 : List (Option AV)} (hd : decode cc pc = .ok (.lstore i, 2)) (hn : i + 1 < nL) (hno : noL ls i = true) (h2 : (ls.set i (some (aL x))).set (i + 1) none = ls2) (k : Wd p l e R s m args below meth c Q cells slots nL D cA ad A L w (pc + 2) (ls2) (st)) : Wd p l e R s m args below meth c Q cells slots nL D cA ad A L w (pc) (ls) (aL x :: st) := by
  intro H locs la o1 o2 o3 hP hS hl
  refine lv_lstore hC.1 hC.2.1 hd (lsV_of hl) hn rfl (fun la2 hl2 => ?_)
  subst h2
  exact k H locs la2 o1 (okL_none (okL_set o2 trivial)) (okS_t o3) hP hS (lhas_st2 hno hl2)
theorem r_iinc (hC : Cx p s m args c cc nL own D cA ad A L) {i : Nat} {n x : Int} {ls2 : List (Option AV)} (hd : decode cc pc = .ok (.iinc i n, 3)) (hv : ls[i]? = some (some (aI x))) (hn : i < nL) (hno : noL ls i = true) (hz : rng (x + n)) (h2 : ls.set i (some (aI (x + n))) = ls2) (k : Wd p l e R s m args below meth c Q cells slots nL D cA ad A L w (pc + 3) (ls2) (st)) : Wd p l e R s m args below meth c Q cells slots nL D cA ad A L w (pc) (ls) (st) := by
  intro H locs la o1 o2 o3 hP hS hl
  obtain ⟨q, hq⟩ := List.getElem?_of_mem (lsV_mem (ad := ad) hv)
  refine lv_iinc hC.1 hC.2.1 hd (lsV_of hl) hq (v := Int32.ofInt (x + n)) (by rw [Int32.ofInt_add]) hn rfl (fun la2 hl2 => ?_)
  subst h2
  exact k H locs la2 o1 (okL_set o2 hz) o3 hP hS (lhas_st1 hno hl2)
theorem r_iadd (hC : Cx p s m args c cc nL own D cA ad A L) {x y : Int} (hd : decode cc pc = .ok (.iadd, 1)) (hz : rng (x + y)) (k : Wd p l e R s m args below meth c Q cells slots nL D cA ad A L w (pc + 1) (ls) (aI (x + y) :: st)) : Wd p l e R s m args below meth c Q cells slots nL D cA ad A L w (pc) (ls) (aI y :: aI x :: st) := by
  intro H locs la o1 o2 o3 hP hS hl
  refine lv_iadd hC.1 hC.2.1 hd ?_
  rw [← Int32.ofInt_add]
  exact k H locs la o1 o2 (okS_c (hz) (okS_t (okS_t o3))) hP hS hl
theorem r_isub (hC : Cx p s m args c cc nL own D cA ad A L) {x y : Int} (hd : decode cc pc = .ok (.isub, 1)) (hz : rng (x - y)) (k : Wd p l e R s m args below meth c Q cells slots nL D cA ad A L w (pc + 1) (ls) (aI (x - y) :: st)) : Wd p l e R s m args below meth c Q cells slots nL D cA ad A L w (pc) (ls) (aI y :: aI x :: st) := by
  intro H locs la o1 o2 o3 hP hS hl
  refine lv_isub hC.1 hC.2.1 hd ?_
  rw [← Int32.ofInt_sub]
  exact k H locs la o1 o2 (okS_c (hz) (okS_t (okS_t o3))) hP hS hl
theorem r_imul (hC : Cx p s m args c cc nL own D cA ad A L) {x y : Int} (hd : decode cc pc = .ok (.imul, 1)) (hz : rng (x * y)) (k : Wd p l e R s m args below meth c Q cells slots nL D cA ad A L w (pc + 1) (ls) (aI (x * y) :: st)) : Wd p l e R s m args below meth c Q cells slots nL D cA ad A L w (pc) (ls) (aI y :: aI x :: st) := by
  intro H locs la o1 o2 o3 hP hS hl
  refine lv_imul hC.1 hC.2.1 hd ?_
  rw [← Int32.ofInt_mul]
  exact k H locs la o1 o2 (okS_c (hz) (okS_t (okS_t o3))) hP hS hl
def iAnd (x y : Int) : Int := (Int32.ofInt x &&& Int32.ofInt y).toInt
theorem r_iand (hC : Cx p s m args c cc nL own D cA ad A L) {x y : Int} (hd : decode cc pc = .ok (.iand, 1))  (k : Wd p l e R s m args below meth c Q cells slots nL D cA ad A L w (pc + 1) (ls) (aI (iAnd x y) :: st)) : Wd p l e R s m args below meth c Q cells slots nL D cA ad A L w (pc) (ls) (aI y :: aI x :: st) := by
  intro H locs la o1 o2 o3 hP hS hl
  refine lv_iand hC.1 hC.2.1 hd ?_
  rw [show Int32.ofInt x &&& Int32.ofInt y = Int32.ofInt (iAnd x y) from (Int32.ofInt_toInt _).symm]
  exact k H locs la o1 o2 (okS_c (rng_of _) (okS_t (okS_t o3))) hP hS hl
def iOr (x y : Int) : Int := (Int32.ofInt x ||| Int32.ofInt y).toInt
theorem r_ior (hC : Cx p s m args c cc nL own D cA ad A L) {x y : Int} (hd : decode cc pc = .ok (.ior, 1))  (k : Wd p l e R s m args below meth c Q cells slots nL D cA ad A L w (pc + 1) (ls) (aI (iOr x y) :: st)) : Wd p l e R s m args below meth c Q cells slots nL D cA ad A L w (pc) (ls) (aI y :: aI x :: st) := by
  intro H locs la o1 o2 o3 hP hS hl
  refine lv_ior hC.1 hC.2.1 hd ?_
  rw [show Int32.ofInt x ||| Int32.ofInt y = Int32.ofInt (iOr x y) from (Int32.ofInt_toInt _).symm]
  exact k H locs la o1 o2 (okS_c (rng_of _) (okS_t (okS_t o3))) hP hS hl
def iXor (x y : Int) : Int := (Int32.ofInt x ^^^ Int32.ofInt y).toInt
theorem r_ixor (hC : Cx p s m args c cc nL own D cA ad A L) {x y : Int} (hd : decode cc pc = .ok (.ixor, 1))  (k : Wd p l e R s m args below meth c Q cells slots nL D cA ad A L w (pc + 1) (ls) (aI (iXor x y) :: st)) : Wd p l e R s m args below meth c Q cells slots nL D cA ad A L w (pc) (ls) (aI y :: aI x :: st) := by
  intro H locs la o1 o2 o3 hP hS hl
  refine lv_ixor hC.1 hC.2.1 hd ?_
  rw [show Int32.ofInt x ^^^ Int32.ofInt y = Int32.ofInt (iXor x y) from (Int32.ofInt_toInt _).symm]
  exact k H locs la o1 o2 (okS_c (rng_of _) (okS_t (okS_t o3))) hP hS hl
def iShl (x y : Int) : Int := (Int32.ofInt x <<< (Int32.ofInt y &&& 31)).toInt
theorem r_ishl (hC : Cx p s m args c cc nL own D cA ad A L) {x y : Int} (hd : decode cc pc = .ok (.ishl, 1))  (k : Wd p l e R s m args below meth c Q cells slots nL D cA ad A L w (pc + 1) (ls) (aI (iShl x y) :: st)) : Wd p l e R s m args below meth c Q cells slots nL D cA ad A L w (pc) (ls) (aI y :: aI x :: st) := by
  intro H locs la o1 o2 o3 hP hS hl
  refine lv_ishl hC.1 hC.2.1 hd ?_
  rw [show Int32.ofInt x <<< (Int32.ofInt y &&& 31) = Int32.ofInt (iShl x y) from (Int32.ofInt_toInt _).symm]
  exact k H locs la o1 o2 (okS_c (rng_of _) (okS_t (okS_t o3))) hP hS hl
def iShr (x y : Int) : Int := (Int32.ofInt x >>> (Int32.ofInt y &&& 31)).toInt
theorem r_ishr (hC : Cx p s m args c cc nL own D cA ad A L) {x y : Int} (hd : decode cc pc = .ok (.ishr, 1))  (k : Wd p l e R s m args below meth c Q cells slots nL D cA ad A L w (pc + 1) (ls) (aI (iShr x y) :: st)) : Wd p l e R s m args below meth c Q cells slots nL D cA ad A L w (pc) (ls) (aI y :: aI x :: st) := by
  intro H locs la o1 o2 o3 hP hS hl
  refine lv_ishr hC.1 hC.2.1 hd ?_
  rw [show Int32.ofInt x >>> (Int32.ofInt y &&& 31) = Int32.ofInt (iShr x y) from (Int32.ofInt_toInt _).symm]
  exact k H locs la o1 o2 (okS_c (rng_of _) (okS_t (okS_t o3))) hP hS hl
def iUshr (x y : Int) : Int := ((Int32.ofInt x).toUInt32 >>> ((Int32.ofInt y).toUInt32 &&& Int32.toUInt32 31)).toInt32.toInt
theorem r_iushr (hC : Cx p s m args c cc nL own D cA ad A L) {x y : Int} (hd : decode cc pc = .ok (.iushr, 1))  (k : Wd p l e R s m args below meth c Q cells slots nL D cA ad A L w (pc + 1) (ls) (aI (iUshr x y) :: st)) : Wd p l e R s m args below meth c Q cells slots nL D cA ad A L w (pc) (ls) (aI y :: aI x :: st) := by
  intro H locs la o1 o2 o3 hP hS hl
  refine lv_iushr hC.1 hC.2.1 hd (v := Int32.ofInt (iUshr x y)) (Int32.ofInt_toInt _).symm ?_
  exact k H locs la o1 o2 (okS_c (rng_of _) (okS_t (okS_t o3))) hP hS hl
theorem ofInt_div {x y : Int} (hx : rng x) (hy : rng y) (hz : rng (x.tdiv y)) : Int32.ofInt x / Int32.ofInt y = Int32.ofInt (x.tdiv y) := by
  apply Int32.toInt_inj.mp
  rw [Int32.toInt_div, rng_toInt hx, rng_toInt hy, rng_toInt hz]
  unfold rng at hz
  exact Int.bmod_eq_of_le (by omega) (by omega)
theorem r_idiv (hC : Cx p s m args c cc nL own D cA ad A L) {x y : Int} (hd : decode cc pc = .ok (.idiv, 1)) (h0 : y ≠ 0) (hz : rng (x.tdiv y)) (k : Wd p l e R s m args below meth c Q cells slots nL D cA ad A L w (pc + 1) (ls) (aI (x.tdiv y) :: st)) : Wd p l e R s m args below meth c Q cells slots nL D cA ad A L w (pc) (ls) (aI y :: aI x :: st) := by
  intro H locs la o1 o2 o3 hP hS hl
  have hy : rng y := okS_h o3
  have hx : rng x := okS_h (okS_t o3)
  refine lv_idiv hC.1 hC.2.1 hd (fun h => h0 ((rng_eq hy rng_0).mp h)) ?_
  rw [ofInt_div hx hy hz]
  exact k H locs la o1 o2 (okS_c hz (okS_t (okS_t o3))) hP hS hl
theorem r_irem (hC : Cx p s m args c cc nL own D cA ad A L) {x y : Int} (hd : decode cc pc = .ok (.irem, 1)) (h0 : y ≠ 0) (hz : rng (x.tdiv y)) (hr : rng (x.tmod y)) (k : Wd p l e R s m args below meth c Q cells slots nL D cA ad A L w (pc + 1) (ls) (aI (x.tmod y) :: st)) : Wd p l e R s m args below meth c Q cells slots nL D cA ad A L w (pc) (ls) (aI y :: aI x :: st) := by
  intro H locs la o1 o2 o3 hP hS hl
  have hy : rng y := okS_h o3
  have hx : rng x := okS_h (okS_t o3)
  refine lv_irem hC.1 hC.2.1 hd (fun h => h0 ((rng_eq hy rng_0).mp h)) ?_
  rw [ofInt_div hx hy hz, ← Int32.ofInt_mul, ← Int32.ofInt_sub, show x - x.tdiv y * y = x.tmod y by have := Int.mul_tdiv_add_tmod x y; rw [Int.mul_comm] at this; omega]
  exact k H locs la o1 o2 (okS_c hr (okS_t (okS_t o3))) hP hS hl
theorem r_ladd (hC : Cx p s m args c cc nL own D cA ad A L) {x y : Int64} (hd : decode cc pc = .ok (.ladd, 1)) (k : Wd p l e R s m args below meth c Q cells slots nL D cA ad A L w (pc + 1) (ls) (aL (x + y) :: st)) : Wd p l e R s m args below meth c Q cells slots nL D cA ad A L w (pc) (ls) (aL y :: aL x :: st) := by
  intro H locs la o1 o2 o3 hP hS hl
  refine lv_ladd hC.1 hC.2.1 hd ?_
  exact k H locs la o1 o2 (okS_c trivial (okS_t (okS_t o3))) hP hS hl
theorem r_land (hC : Cx p s m args c cc nL own D cA ad A L) {x y : Int64} (hd : decode cc pc = .ok (.land, 1)) (k : Wd p l e R s m args below meth c Q cells slots nL D cA ad A L w (pc + 1) (ls) (aL (x &&& y) :: st)) : Wd p l e R s m args below meth c Q cells slots nL D cA ad A L w (pc) (ls) (aL y :: aL x :: st) := by
  intro H locs la o1 o2 o3 hP hS hl
  refine lv_land hC.1 hC.2.1 hd ?_
  exact k H locs la o1 o2 (okS_c trivial (okS_t (okS_t o3))) hP hS hl
theorem r_lor (hC : Cx p s m args c cc nL own D cA ad A L) {x y : Int64} (hd : decode cc pc = .ok (.lor, 1)) (k : Wd p l e R s m args below meth c Q cells slots nL D cA ad A L w (pc + 1) (ls) (aL (x ||| y) :: st)) : Wd p l e R s m args below meth c Q cells slots nL D cA ad A L w (pc) (ls) (aL y :: aL x :: st) := by
  intro H locs la o1 o2 o3 hP hS hl
  refine lv_lor hC.1 hC.2.1 hd ?_
  exact k H locs la o1 o2 (okS_c trivial (okS_t (okS_t o3))) hP hS hl
def lShl (x : Int64) (y : Int) : Int64 := x <<< ((Int32.ofInt y).toInt64 &&& 63)
def lUshr (x : Int64) (y : Int) : Int64 := (x.toUInt64 >>> ((Int32.ofInt y).toInt64.toUInt64 &&& Int64.toUInt64 63)).toInt64
theorem r_lshl (hC : Cx p s m args c cc nL own D cA ad A L) {x : Int64} {y : Int} (hd : decode cc pc = .ok (.lshl, 1)) (k : Wd p l e R s m args below meth c Q cells slots nL D cA ad A L w (pc + 1) (ls) (aL (lShl x y) :: st)) : Wd p l e R s m args below meth c Q cells slots nL D cA ad A L w (pc) (ls) (aI y :: aL x :: st) := by
  intro H locs la o1 o2 o3 hP hS hl
  refine lv_lshl hC.1 hC.2.1 hd (v := lShl x y) rfl ?_
  exact k H locs la o1 o2 (okS_c trivial (okS_t (okS_t o3))) hP hS hl
theorem r_lushr (hC : Cx p s m args c cc nL own D cA ad A L) {x : Int64} {y : Int} (hd : decode cc pc = .ok (.lushr, 1)) (k : Wd p l e R s m args below meth c Q cells slots nL D cA ad A L w (pc + 1) (ls) (aL (lUshr x y) :: st)) : Wd p l e R s m args below meth c Q cells slots nL D cA ad A L w (pc) (ls) (aI y :: aL x :: st) := by
  intro H locs la o1 o2 o3 hP hS hl
  refine lv_lushr hC.1 hC.2.1 hd (v := lUshr x y) rfl ?_
  exact k H locs la o1 o2 (okS_c trivial (okS_t (okS_t o3))) hP hS hl
def lCmp (x y : Int64) : Int := (lg_cmp x y).toInt
def i2l (x : Int) : Int64 := (Int32.ofInt x).toInt64
def l2i (x : Int64) : Int := x.toInt32.toInt
def i2b (x : Int) : Int := (Int32.ofInt x).toInt8.toInt32.toInt
theorem r_lcmp (hC : Cx p s m args c cc nL own D cA ad A L) {x y : Int64} (hd : decode cc pc = .ok (.lcmp, 1)) (k : Wd p l e R s m args below meth c Q cells slots nL D cA ad A L w (pc + 1) (ls) (aI (lCmp x y) :: st)) : Wd p l e R s m args below meth c Q cells slots nL D cA ad A L w (pc) (ls) (aL y :: aL x :: st) := by
  intro H locs la o1 o2 o3 hP hS hl
  refine W.lcmp hC.1 hC.2.1 hd ?_
  rw [show lg_cmp x y = Int32.ofInt (lCmp x y) from (Int32.ofInt_toInt _).symm]
  exact k H locs la o1 o2 (okS_c (rng_of _) (okS_t (okS_t o3))) hP hS hl
theorem r_i2l (hC : Cx p s m args c cc nL own D cA ad A L) {x : Int} (hd : decode cc pc = .ok (.i2l, 1)) (k : Wd p l e R s m args below meth c Q cells slots nL D cA ad A L w (pc + 1) (ls) (aL (i2l x) :: st)) : Wd p l e R s m args below meth c Q cells slots nL D cA ad A L w (pc) (ls) (aI x :: st) := by
  intro H locs la o1 o2 o3 hP hS hl
  refine lv_i2l hC.1 hC.2.1 hd (v := i2l x) rfl ?_
  exact k H locs la o1 o2 (okS_c trivial (okS_t o3)) hP hS hl
theorem r_l2i (hC : Cx p s m args c cc nL own D cA ad A L) {x : Int64} (hd : decode cc pc = .ok (.l2i, 1)) (k : Wd p l e R s m args below meth c Q cells slots nL D cA ad A L w (pc + 1) (ls) (aI (l2i x) :: st)) : Wd p l e R s m args below meth c Q cells slots nL D cA ad A L w (pc) (ls) (aL x :: st) := by
  intro H locs la o1 o2 o3 hP hS hl
  refine lv_l2i hC.1 hC.2.1 hd (v := Int32.ofInt (l2i x)) (Int32.ofInt_toInt _).symm ?_
  exact k H locs la o1 o2 (okS_c (rng_of _) (okS_t o3)) hP hS hl
theorem r_i2b (hC : Cx p s m args c cc nL own D cA ad A L) {x : Int} (hd : decode cc pc = .ok (.i2b, 1)) (k : Wd p l e R s m args below meth c Q cells slots nL D cA ad A L w (pc + 1) (ls) (aI (i2b x) :: st)) : Wd p l e R s m args below meth c Q cells slots nL D cA ad A L w (pc) (ls) (aI x :: st) := by
  intro H locs la o1 o2 o3 hP hS hl
  refine lv_i2b hC.1 hC.2.1 hd (v := Int32.ofInt (i2b x)) (Int32.ofInt_toInt _).symm ?_
  exact k H locs la o1 o2 (okS_c (rng_of _) (okS_t o3)) hP hS hl
theorem r_dup (hC : Cx p s m args c cc nL own D cA ad A L) {x : AV} (hd : decode cc pc = .ok (.dup, 1)) (hx : isL x = false) (k : Wd p l e R s m args below meth c Q cells slots nL D cA ad A L w (pc + 1) (ls) (x :: x :: st)) : Wd p l e R s m args below meth c Q cells slots nL D cA ad A L w (pc) (ls) (x :: st) := by
  intro H locs la o1 o2 o3 hP hS hl
  have hc : (cv ad x).category = 1 := by rcases x with z | y | k9 <;> first | rfl | (simp [isL] at hx)
  refine lv_dup hC.1 hC.2.1 hd hc ?_
  exact k H locs la o1 o2 (okS_c (okS_h o3) o3) hP hS hl
theorem r_dup2 (hC : Cx p s m args c cc nL own D cA ad A L) {x y : AV} (hd : decode cc pc = .ok (.dup2, 1)) (hx : isL x = false) (hy : isL y = false) (k : Wd p l e R s m args below meth c Q cells slots nL D cA ad A L w (pc + 1) (ls) (x :: y :: x :: y :: st)) : Wd p l e R s m args below meth c Q cells slots nL D cA ad A L w (pc) (ls) (x :: y :: st) := by
  intro H locs la o1 o2 o3 hP hS hl
  have hc : (cv ad x).category = 1 := by rcases x with z | z | k9 <;> first | rfl | (simp [isL] at hx)
  have hc2 : (cv ad y).category = 1 := by rcases y with z | z | k9 <;> first | rfl | (simp [isL] at hy)
  refine lv_dup2_11 hC.1 hC.2.1 hd hc hc2 ?_
  exact k H locs la o1 o2 (okS_c (okS_h o3) (okS_c (okS_h (okS_t o3)) o3)) hP hS hl
theorem r_pop (hC : Cx p s m args c cc nL own D cA ad A L) {x : AV} (hd : decode cc pc = .ok (.pop, 1)) (hx : isL x = false) (k : Wd p l e R s m args below meth c Q cells slots nL D cA ad A L w (pc + 1) (ls) (st)) : Wd p l e R s m args below meth c Q cells slots nL D cA ad A L w (pc) (ls) (x :: st) := by
  intro H locs la o1 o2 o3 hP hS hl
  have hc : (cv ad x).category = 1 := by rcases x with z | y | k9 <;> first | rfl | (simp [isL] at hx)
  refine lv_pop hC.1 hC.2.1 hd hc ?_
  exact k H locs la o1 o2 (okS_t o3) hP hS hl
theorem r_if_eq (hC : Cx p s m args c cc nL own D cA ad A L) {x : Int} {off : Int} {tgt : Nat} (hd : decode cc pc = .ok (.ifCond .eq off, 3)) (ht : (pc : Int) + off = (tgt : Int)) (kt : x = 0 → Wd p l e R s m args below meth c Q cells slots nL D cA ad A L w (tgt) (ls) (st)) (kf : ¬ x = 0 → Wd p l e R s m args below meth c Q cells slots nL D cA ad A L w (pc + 3) (ls) (st)) : Wd p l e R s m args below meth c Q cells slots nL D cA ad A L w (pc) (ls) (aI x :: st) := by
  intro H locs la o1 o2 o3 hP hS hl
  have hx : rng x := okS_h o3
  exact lv_if_eq hC.1 hC.2.1 hd ht (fun h => kt ((rng_eq hx rng_0).mp h) H locs la o1 o2 (okS_t o3) hP hS hl) (fun h => kf (fun q => h ((rng_eq hx rng_0).mpr q)) H locs la o1 o2 (okS_t o3) hP hS hl)
theorem r_if_ne (hC : Cx p s m args c cc nL own D cA ad A L) {x : Int} {off : Int} {tgt : Nat} (hd : decode cc pc = .ok (.ifCond .ne off, 3)) (ht : (pc : Int) + off = (tgt : Int)) (kt : ¬ x = 0 → Wd p l e R s m args below meth c Q cells slots nL D cA ad A L w (tgt) (ls) (st)) (kf : x = 0 → Wd p l e R s m args below meth c Q cells slots nL D cA ad A L w (pc + 3) (ls) (st)) : Wd p l e R s m args below meth c Q cells slots nL D cA ad A L w (pc) (ls) (aI x :: st) := by
  intro H locs la o1 o2 o3 hP hS hl
  have hx : rng x := okS_h o3
  exact lv_if_ne hC.1 hC.2.1 hd ht (fun h => kt (fun q => h ((rng_eq hx rng_0).mpr q)) H locs la o1 o2 (okS_t o3) hP hS hl) (fun h => kf ((rng_eq hx rng_0).mp h) H locs la o1 o2 (okS_t o3) hP hS hl)
theorem r_if_lt (hC : Cx p s m args c cc nL own D cA ad A L) {x : Int} {off : Int} {tgt : Nat} (hd : decode cc pc = .ok (.ifCond .lt off, 3)) (ht : (pc : Int) + off = (tgt : Int)) (kt : x < 0 → Wd p l e R s m args below meth c Q cells slots nL D cA ad A L w (tgt) (ls) (st)) (kf : ¬ x < 0 → Wd p l e R s m args below meth c Q cells slots nL D cA ad A L w (pc + 3) (ls) (st)) : Wd p l e R s m args below meth c Q cells slots nL D cA ad A L w (pc) (ls) (aI x :: st) := by
  intro H locs la o1 o2 o3 hP hS hl
  have hx : rng x := okS_h o3
  exact lv_if_lt hC.1 hC.2.1 hd ht (fun h => kt ((rng_lt hx rng_0).mp h) H locs la o1 o2 (okS_t o3) hP hS hl) (fun h => kf (fun q => h ((rng_lt hx rng_0).mpr q)) H locs la o1 o2 (okS_t o3) hP hS hl)
theorem r_if_ge (hC : Cx p s m args c cc nL own D cA ad A L) {x : Int} {off : Int} {tgt : Nat} (hd : decode cc pc = .ok (.ifCond .ge off, 3)) (ht : (pc : Int) + off = (tgt : Int)) (kt : 0 ≤ x → Wd p l e R s m args below meth c Q cells slots nL D cA ad A L w (tgt) (ls) (st)) (kf : ¬ 0 ≤ x → Wd p l e R s m args below meth c Q cells slots nL D cA ad A L w (pc + 3) (ls) (st)) : Wd p l e R s m args below meth c Q cells slots nL D cA ad A L w (pc) (ls) (aI x :: st) := by
  intro H locs la o1 o2 o3 hP hS hl
  have hx : rng x := okS_h o3
  exact lv_if_ge hC.1 hC.2.1 hd ht (fun h => kt ((rng_le rng_0 hx).mp h) H locs la o1 o2 (okS_t o3) hP hS hl) (fun h => kf (fun q => h ((rng_le rng_0 hx).mpr q)) H locs la o1 o2 (okS_t o3) hP hS hl)
theorem r_if_gt (hC : Cx p s m args c cc nL own D cA ad A L) {x : Int} {off : Int} {tgt : Nat} (hd : decode cc pc = .ok (.ifCond .gt off, 3)) (ht : (pc : Int) + off = (tgt : Int)) (kt : 0 < x → Wd p l e R s m args below meth c Q cells slots nL D cA ad A L w (tgt) (ls) (st)) (kf : ¬ 0 < x → Wd p l e R s m args below meth c Q cells slots nL D cA ad A L w (pc + 3) (ls) (st)) : Wd p l e R s m args below meth c Q cells slots nL D cA ad A L w (pc) (ls) (aI x :: st) := by
  intro H locs la o1 o2 o3 hP hS hl
  have hx : rng x := okS_h o3
  exact lv_if_gt hC.1 hC.2.1 hd ht (fun h => kt ((rng_lt rng_0 hx).mp h) H locs la o1 o2 (okS_t o3) hP hS hl) (fun h => kf (fun q => h ((rng_lt rng_0 hx).mpr q)) H locs la o1 o2 (okS_t o3) hP hS hl)
theorem r_if_le (hC : Cx p s m args c cc nL own D cA ad A L) {x : Int} {off : Int} {tgt : Nat} (hd : decode cc pc = .ok (.ifCond .le off, 3)) (ht : (pc : Int) + off = (tgt : Int)) (kt : x ≤ 0 → Wd p l e R s m args below meth c Q cells slots nL D cA ad A L w (tgt) (ls) (st)) (kf : ¬ x ≤ 0 → Wd p l e R s m args below meth c Q cells slots nL D cA ad A L w (pc + 3) (ls) (st)) : Wd p l e R s m args below meth c Q cells slots nL D cA ad A L w (pc) (ls) (aI x :: st) := by
  intro H locs la o1 o2 o3 hP hS hl
  have hx : rng x := okS_h o3
  exact lv_if_le hC.1 hC.2.1 hd ht (fun h => kt ((rng_le hx rng_0).mp h) H locs la o1 o2 (okS_t o3) hP hS hl) (fun h => kf (fun q => h ((rng_le hx rng_0).mpr q)) H locs la o1 o2 (okS_t o3) hP hS hl)
theorem r_ic_eq (hC : Cx p s m args c cc nL own D cA ad A L) {x y : Int} {off : Int} {tgt : Nat} (hd : decode cc pc = .ok (.if_icmp .eq off, 3)) (ht : (pc : Int) + off = (tgt : Int)) (kt : x = y → Wd p l e R s m args below meth c Q cells slots nL D cA ad A L w (tgt) (ls) (st)) (kf : ¬ x = y → Wd p l e R s m args below meth c Q cells slots nL D cA ad A L w (pc + 3) (ls) (st)) : Wd p l e R s m args below meth c Q cells slots nL D cA ad A L w (pc) (ls) (aI y :: aI x :: st) := by
  intro H locs la o1 o2 o3 hP hS hl
  have hy : rng y := okS_h o3
  have hx : rng x := okS_h (okS_t o3)
  exact lv_icmp_eq hC.1 hC.2.1 hd ht (fun h => kt ((rng_eq hx hy).mp h) H locs la o1 o2 (okS_t (okS_t o3)) hP hS hl) (fun h => kf (fun q => h ((rng_eq hx hy).mpr q)) H locs la o1 o2 (okS_t (okS_t o3)) hP hS hl)
theorem r_ic_ne (hC : Cx p s m args c cc nL own D cA ad A L) {x y : Int} {off : Int} {tgt : Nat} (hd : decode cc pc = .ok (.if_icmp .ne off, 3)) (ht : (pc : Int) + off = (tgt : Int)) (kt : ¬ x = y → Wd p l e R s m args below meth c Q cells slots nL D cA ad A L w (tgt) (ls) (st)) (kf : x = y → Wd p l e R s m args below meth c Q cells slots nL D cA ad A L w (pc + 3) (ls) (st)) : Wd p l e R s m args below meth c Q cells slots nL D cA ad A L w (pc) (ls) (aI y :: aI x :: st) := by
  intro H locs la o1 o2 o3 hP hS hl
  have hy : rng y := okS_h o3
  have hx : rng x := okS_h (okS_t o3)
  exact lv_icmp_ne hC.1 hC.2.1 hd ht (fun h => kt (fun q => h ((rng_eq hx hy).mpr q)) H locs la o1 o2 (okS_t (okS_t o3)) hP hS hl) (fun h => kf ((rng_eq hx hy).mp h) H locs la o1 o2 (okS_t (okS_t o3)) hP hS hl)
theorem r_ic_lt (hC : Cx p s m args c cc nL own D cA ad A L) {x y : Int} {off : Int} {tgt : Nat} (hd : decode cc pc = .ok (.if_icmp .lt off, 3)) (ht : (pc : Int) + off = (tgt : Int)) (kt : x < y → Wd p l e R s m args below meth c Q cells slots nL D cA ad A L w (tgt) (ls) (st)) (kf : ¬ x < y → Wd p l e R s m args below meth c Q cells slots nL D cA ad A L w (pc + 3) (ls) (st)) : Wd p l e R s m args below meth c Q cells slots nL D cA ad A L w (pc) (ls) (aI y :: aI x :: st) := by
  intro H locs la o1 o2 o3 hP hS hl
  have hy : rng y := okS_h o3
  have hx : rng x := okS_h (okS_t o3)
  exact lv_icmp_lt hC.1 hC.2.1 hd ht (fun h => kt ((rng_lt hx hy).mp h) H locs la o1 o2 (okS_t (okS_t o3)) hP hS hl) (fun h => kf (fun q => h ((rng_lt hx hy).mpr q)) H locs la o1 o2 (okS_t (okS_t o3)) hP hS hl)
theorem r_ic_ge (hC : Cx p s m args c cc nL own D cA ad A L) {x y : Int} {off : Int} {tgt : Nat} (hd : decode cc pc = .ok (.if_icmp .ge off, 3)) (ht : (pc : Int) + off = (tgt : Int)) (kt : y ≤ x → Wd p l e R s m args below meth c Q cells slots nL D cA ad A L w (tgt) (ls) (st)) (kf : ¬ y ≤ x → Wd p l e R s m args below meth c Q cells slots nL D cA ad A L w (pc + 3) (ls) (st)) : Wd p l e R s m args below meth c Q cells slots nL D cA ad A L w (pc) (ls) (aI y :: aI x :: st) := by
  intro H locs la o1 o2 o3 hP hS hl
  have hy : rng y := okS_h o3
  have hx : rng x := okS_h (okS_t o3)
  exact lv_icmp_ge hC.1 hC.2.1 hd ht (fun h => kt ((rng_le hy hx).mp h) H locs la o1 o2 (okS_t (okS_t o3)) hP hS hl) (fun h => kf (fun q => h ((rng_le hy hx).mpr q)) H locs la o1 o2 (okS_t (okS_t o3)) hP hS hl)
theorem r_ic_gt (hC : Cx p s m args c cc nL own D cA ad A L) {x y : Int} {off : Int} {tgt : Nat} (hd : decode cc pc = .ok (.if_icmp .gt off, 3)) (ht : (pc : Int) + off = (tgt : Int)) (kt : y < x → Wd p l e R s m args below meth c Q cells slots nL D cA ad A L w (tgt) (ls) (st)) (kf : ¬ y < x → Wd p l e R s m args below meth c Q cells slots nL D cA ad A L w (pc + 3) (ls) (st)) : Wd p l e R s m args below meth c Q cells slots nL D cA ad A L w (pc) (ls) (aI y :: aI x :: st) := by
  intro H locs la o1 o2 o3 hP hS hl
  have hy : rng y := okS_h o3
  have hx : rng x := okS_h (okS_t o3)
  exact lv_icmp_gt hC.1 hC.2.1 hd ht (fun h => kt ((rng_lt hy hx).mp h) H locs la o1 o2 (okS_t (okS_t o3)) hP hS hl) (fun h => kf (fun q => h ((rng_lt hy hx).mpr q)) H locs la o1 o2 (okS_t (okS_t o3)) hP hS hl)
theorem r_ic_le (hC : Cx p s m args c cc nL own D cA ad A L) {x y : Int} {off : Int} {tgt : Nat} (hd : decode cc pc = .ok (.if_icmp .le off, 3)) (ht : (pc : Int) + off = (tgt : Int)) (kt : x ≤ y → Wd p l e R s m args below meth c Q cells slots nL D cA ad A L w (tgt) (ls) (st)) (kf : ¬ x ≤ y → Wd p l e R s m args below meth c Q cells slots nL D cA ad A L w (pc + 3) (ls) (st)) : Wd p l e R s m args below meth c Q cells slots nL D cA ad A L w (pc) (ls) (aI y :: aI x :: st) := by
  intro H locs la o1 o2 o3 hP hS hl
  have hy : rng y := okS_h o3
  have hx : rng x := okS_h (okS_t o3)
  exact lv_icmp_le hC.1 hC.2.1 hd ht (fun h => kt ((rng_le hx hy).mp h) H locs la o1 o2 (okS_t (okS_t o3)) hP hS hl) (fun h => kf (fun q => h ((rng_le hx hy).mpr q)) H locs la o1 o2 (okS_t (okS_t o3)) hP hS hl)
theorem r_goto (hC : Cx p s m args c cc nL own D cA ad A L) {off : Int} {tgt : Nat} (hd : decode cc pc = .ok (.goto off, 3)) (ht : (pc : Int) + off = (tgt : Int)) (k : Wd p l e R s m args below meth c Q cells slots nL D cA ad A L w (tgt) (ls) (st)) : Wd p l e R s m args below meth c Q cells slots nL D cA ad A L w (pc) (ls) (st) := by
  intro H locs la o1 o2 o3 hP hS hl
  exact lv_goto hC.1 hC.2.1 hd ht (k H locs la o1 o2 o3 hP hS hl)
theorem r_tblOut (hC : Cx p s m args c cc nL own D cA ad A L) {x dflt lo hi : Int} {offs : Array Int} {len tgt : Nat} (hd : decode cc pc = .ok (.tableswitch dflt lo hi offs, len)) (h : x < lo ∨ hi < x) (ht : (pc : Int) + dflt = (tgt : Int)) (k : Wd p l e R s m args below meth c Q cells slots nL D cA ad A L w (tgt) (ls) (st)) : Wd p l e R s m args below meth c Q cells slots nL D cA ad A L w (pc) (ls) (aI x :: st) := by
  intro H locs la o1 o2 o3 hP hS hl
  exact lv_tableOut hC.1 hC.2.1 hd (by rw [rng_toInt (okS_h o3)]; exact h) ht (k H locs la o1 o2 (okS_t o3) hP hS hl)
theorem r_tblIn (hC : Cx p s m args c cc nL own D cA ad A L) {x dflt lo hi off : Int} {offs : Array Int} {len tgt : Nat} (hd : decode cc pc = .ok (.tableswitch dflt lo hi offs, len)) (h1 : ¬ x < lo) (h2 : ¬ hi < x) (ho : offs[(x - lo).toNat]? = some off) (ht : (pc : Int) + off = (tgt : Int)) (k : Wd p l e R s m args below meth c Q cells slots nL D cA ad A L w (tgt) (ls) (st)) : Wd p l e R s m args below meth c Q cells slots nL D cA ad A L w (pc) (ls) (aI x :: st) := by
  intro H locs la o1 o2 o3 hP hS hl
  have e := rng_toInt (z := x) (okS_h o3)
  exact lv_tableIn hC.1 hC.2.1 hd (by rw [e]; exact h1) (by rw [e]; exact h2) (by rw [e]; exact ho) ht (k H locs la o1 o2 (okS_t o3) hP hS hl)
theorem r_lkp (hC : Cx p s m args c cc nL own D cA ad A L) {x dflt off : Int} {ps : Array (Int × Int)} {len tgt : Nat} (hd : decode cc pc = .ok (.lookupswitch dflt ps, len)) (hp : (ps.toList.zip (ps.toList.drop 1)).all (fun (a, next) => a.1 < next.1) = true) (ho : Op.lookupswitch.offset ps.toList dflt x = off) (ht : (pc : Int) + off = (tgt : Int)) (k : Wd p l e R s m args below meth c Q cells slots nL D cA ad A L w (tgt) (ls) (st)) : Wd p l e R s m args below meth c Q cells slots nL D cA ad A L w (pc) (ls) (aI x :: st) := by
  intro H locs la o1 o2 o3 hP hS hl
  exact lv_lookup hC.1 hC.2.1 hd hp (by rw [rng_toInt (okS_h o3)]; exact ho) ht (k H locs la o1 o2 (okS_t o3) hP hS hl)
end RW
