/-! M1: what the law's entry gives: the cells outside, the classes -/
def tmS (i : Nat) : Term := .string (strT.getD i ("", 0, "", [])).1 (strT.getD i ("", 0, "", [])).2.1
def tmV (i : Nat) : Term := .field (tmS i) "java/lang/String" "value" "[B"
def sAt0 (i : Nat) : List Cond := .exactly (tmS i) "java/lang/String" :: .eq (.field (tmS i) "java/lang/String" "coder" "B") (.int 0) :: .arrayOf (tmV i) .byte :: .eq (.length (tmV i)) (.int (Int32.ofNat (sBy i).length)) :: (List.range (sBy i).length).map (fun j => .eq (.elem (tmV i) (.int (Int32.ofNat j))) (.int (Int32.ofInt ((sBy i).getD j 0))))
def tTM : Term := .static "PassagePicker" "TIMES" "[I"
def gvT : List Cond := .arrayOf tTM .int :: .eq (.length tTM) (.int (Int32.ofNat 4)) :: (List.range 4).map (fun j => .eq (.elem tTM (.int (Int32.ofNat j))) (.int (Int32.ofInt (tmv j))))
def gvM : List Cond := [.eq (.static "java/lang/String" "COMPACT_STRINGS" "Z") (.int 1), .isRef (.static "jdk/internal/util/Preconditions" "SIOOBE_FORMATTER" "Ljava/util/function/BiFunction;"), .isRef (.static Bundle.tN "UNASSIGNED_STACK" Bundle.steD), .isRef (.static Bundle.tN "SUPPRESSED_SENTINEL" Bundle.listD), .not (.castable (exN 3) (exN 2)), .not (.castable (exN 3) (exN 1)), .not (.castable (exN 2) (exN 1)), .not (.castable (exN 4) (exN 1))]
def gvL : List Cond := gvT ++ (gvM ++ (List.range 37).flatMap sAt0)
def isub : List Cond → List Cond → Bool
  | [], as => as.isEmpty
  | b :: bs, as => match as with
    | [] => true
    | a :: as' => if a = b then isub bs as' else isub bs (a :: as')
theorem isub_mem : ∀ (bs as : List Cond), isub bs as = true → ∀ c ∈ as, c ∈ bs
  | [], as, h, c, hc => by
    cases as with
    | nil => cases hc
    | cons a as => cases h
  | b :: bs, as, h, c, hc => by
    cases as with
    | nil => cases hc
    | cons a as =>
      unfold isub at h
      dsimp only at h
      split at h
      · next e =>
        rcases List.mem_cons.mp hc with rfl | hc
        · rw [e]; exact List.mem_cons_self
        · exact List.mem_cons_of_mem _ (isub_mem bs as h c hc)
      · exact List.mem_cons_of_mem _ (isub_mem bs (a :: as) h c hc)
theorem gv_sub : isub (flatC (Jvm.Cond.and given_1 narrow_1)) gvL = true := by decide +kernel
theorem gv_all {args : Array Value} {s : State} (h : (Jvm.Cond.and given_1 narrow_1).before args s = true) : ∀ c ∈ gvL, c.before args s = true := fun c hc => flat_of_before _ h c (isub_mem _ _ gv_sub c hc)
theorem st_sub : isub tables_1 (strT.map fun q => Cond.stringRef q.1 q.2.1 q.2.2.1) = true := by decide +kernel
theorem st_in {q : String × Nat × String × List Int} (h : q ∈ strT) : Cond.stringRef q.1 q.2.1 q.2.2.1 ∈ lw_tbl := List.mem_append_right _ (isub_mem _ _ st_sub _ (List.mem_map.mpr ⟨q, h, rfl⟩))
theorem gv_str {args : Array Value} {s : State} (hg : ∀ c ∈ gvL, c.before args s = true) : ∀ i : Nat, ∃ q : Nat × Nat, i < 37 → (tmS i).eval args s none [] s = some (.ref q.1) ∧ va_O "java/lang/String" q.1 (fun q => s.heap.size ≤ q) s s.heap ∧ va_OF "java/lang/String" "coder" "B" (.int 0) q.1 (fun q => s.heap.size ≤ q) s s.heap ∧ va_OF "java/lang/String" "value" "[B" (.ref q.2) q.1 (fun q => s.heap.size ≤ q) s s.heap ∧ va_T .byte q.2 (sBy i).length (fun j => .int (Int32.ofInt ((sBy i).getD j 0))) (fun q => s.heap.size ≤ q) s s.heap := by
  intro i
  by_cases hi : i < 37
  · have hA : ∀ a : Nat, a < s.heap.size → ¬ (fun q => s.heap.size ≤ q) a := fun a h => Nat.not_le.mpr h
    have hs : ∀ c ∈ sAt0 i, c.before args s = true := fun c hc => hg c (List.mem_append_right _ (List.mem_append_right _ (List.mem_flatMap.mpr ⟨i, List.mem_range.mpr hi, hc⟩)))
    have hN : (sBy i).length < 2 ^ 31 := by
      have e := sLen_ok hi
      unfold sLen at e
      omega
    have h1 := hs _ List.mem_cons_self
    have h2 := hs _ (List.mem_cons_of_mem _ List.mem_cons_self)
    have h3 := hs _ (List.mem_cons_of_mem _ (List.mem_cons_of_mem _ List.mem_cons_self))
    have h4 := hs _ (List.mem_cons_of_mem _ (List.mem_cons_of_mem _ (List.mem_cons_of_mem _ List.mem_cons_self)))
    have h5 : ∀ j : Nat, j < (sBy i).length → (Cond.eq (.elem (tmV i) (.int (Int32.ofNat j))) (.int (Int32.ofInt ((sBy i).getD j 0)))).before args s = true := fun j hj => hs _ (List.mem_cons_of_mem _ (List.mem_cons_of_mem _ (List.mem_cons_of_mem _ (List.mem_cons_of_mem _ (List.mem_map.mpr ⟨j, List.mem_range.mpr hj, rfl⟩)))))
    obtain ⟨a, c, cA, kA, q1, q2, q3, q4, q5, q6, -⟩ := Cond.exactly_spec (args := args) (first := s) (o := none) (s := s) (idx := []) (t := tmS i) (cls := "java/lang/String") h1
    obtain ⟨t, ht, hT⟩ := va_Tof (f := fun j => .int (Int32.ofInt ((sBy i).getD j 0))) (A := fun q => s.heap.size ≤ q) hN h3 (va_eqt h4) (fun j hj => va_eqt (h5 j hj)) hA
    exact ⟨(a, t), fun _ => ⟨q1, ⟨cA, q3, q5, by rw [q6]; exact q2, hA a (Array.getElem?_eq_some_iff.mp q3).1⟩, vk_OFof q1 (va_eqt h2) hA, vk_OFof q1 ht hA, hT⟩⟩
  · exact ⟨(0, 0), fun h => absurd h hi⟩
theorem ext0 {args : Array Value} {s : State} (b : Nat) (hts : ∀ w ∈ lw_tbl, w.before args s = true) (hg : ∀ c ∈ gvL, c.before args s = true) : ∃ ad : Nat → Nat, ad 8500 = b ∧ ExtV ad s ∧ ExtH ad (fun q => s.heap.size ≤ q) s s.heap := by
  have hA : ∀ a : Nat, a < s.heap.size → ¬ (fun q => s.heap.size ≤ q) a := fun a h => Nat.not_le.mpr h
  have hT : ∀ c ∈ gvT, c.before args s = true := fun c hc => hg c (List.mem_append_left _ hc)
  have hM : ∀ c ∈ gvM, c.before args s = true := fun c hc => hg c (List.mem_append_right _ (List.mem_append_left _ hc))
  have t1 := hT _ List.mem_cons_self
  have t2 := hT _ (List.mem_cons_of_mem _ List.mem_cons_self)
  have t3 : ∀ j : Nat, j < 4 → (Cond.eq (.elem tTM (.int (Int32.ofNat j))) (.int (Int32.ofInt (tmv j)))).before args s = true := fun j hj => hT _ (List.mem_cons_of_mem _ (List.mem_cons_of_mem _ (List.mem_map.mpr ⟨j, List.mem_range.mpr hj, rfl⟩)))
  obtain ⟨t, ht, hTT⟩ := va_Tof (f := fun j => .int (Int32.ofInt (tmv j))) (A := fun q => s.heap.size ≤ q) (N := 4) (by decide) t1 (va_eqt t2) (fun j hj => va_eqt (t3 j hj)) hA
  obtain ⟨f, hf⟩ := Classical.axiomOfChoice (gv_str hg)
  refine ⟨fun k => if k = 8500 then b else if k = 9000 then t else if 20000 ≤ k then (f (k - 20000)).2 else (f (k - 10000)).1, rfl, ⟨fun w hw => ?_, fun i q hq => ?_⟩, ⟨?_, ?_⟩, ?_, ?_, ?_, ?_, ?_⟩
  · have h1 := (List.mem_filter.mp hw).2
    have h2 := hts w (List.mem_filter.mp hw).1
    cases w with
    | methodLinkNest a i x hh => exact va_Nw.of rfl h2
    | fieldLinkNest a i b n d hh => exact va_Nw.of rfl h2
    | castable a b => exact va_Nw.of rfl h2
    | declares a => exact va_Nw.of rfl h2
    | _ => exact absurd h1 (by simp [isNest])
  · have hi : i < 37 := (List.getElem?_eq_some_iff.mp hq).1
    have e : (if 10000 + i = 8500 then b else if 10000 + i = 9000 then t else if 20000 ≤ 10000 + i then (f (10000 + i - 20000)).2 else (f (10000 + i - 10000)).1) = (f i).1 := by
      rw [if_neg (by omega), if_neg (by omega), if_neg (by omega), Nat.add_sub_cancel_left]
    have g := (hf i hi).1
    have e2 : strT.getD i ("", 0, "", []) = q := by rw [List.getD_eq_getElem?_getD, hq]; rfl
    unfold tmS at g
    rw [e2] at g
    show vk_R q.1 q.2.1 q.2.2.1 (if 10000 + i = 8500 then b else if 10000 + i = 9000 then t else if 20000 ≤ 10000 + i then (f (10000 + i - 20000)).2 else (f (10000 + i - 10000)).1) s
    rw [e]
    exact vk_R.of (hts _ (st_in (List.mem_of_getElem? hq))) g
  · exact va_Zof (hts _ (tb_3 (List.mem_of_getElem? (i := 179) (by decide +kernel)))) (hts _ (tb_1 (List.mem_of_getElem? (i := 1) (by decide +kernel)))) ht hA
  · exact hTT
  · intro i hi
    have e : (if 10000 + i = 8500 then b else if 10000 + i = 9000 then t else if 20000 ≤ 10000 + i then (f (10000 + i - 20000)).2 else (f (10000 + i - 10000)).1) = (f i).1 := by
      rw [if_neg (by omega), if_neg (by omega), if_neg (by omega), Nat.add_sub_cancel_left]
    have e2 : (if 20000 + i = 8500 then b else if 20000 + i = 9000 then t else if 20000 ≤ 20000 + i then (f (20000 + i - 20000)).2 else (f (20000 + i - 10000)).1) = (f i).2 := by
      rw [if_neg (by omega), if_neg (by omega), if_pos (by omega), Nat.add_sub_cancel_left]
    unfold ExtS
    dsimp only
    rw [e, e2]
    exact (hf i hi).2
  · exact va_Zof (hts _ (tb_4 (List.mem_of_getElem? (i := 102) (by decide +kernel)))) (hts _ (tb_1 (List.mem_of_getElem? (i := 14) (by decide +kernel)))) (va_eqi (hM _ List.mem_cons_self)) hA
  · exact vx_Zqof (hts _ (tb_4 (List.mem_of_getElem? (i := 190) (by decide +kernel)))) (hts _ (tb_1 (List.mem_of_getElem? (i := 18) (by decide +kernel)))) (hM _ (List.mem_cons_of_mem _ (List.mem_cons_of_mem _ List.mem_cons_self))) hA
  · exact vx_Zqof (hts _ (tb_4 (List.mem_of_getElem? (i := 192) (by decide +kernel)))) (hts _ (tb_1 (List.mem_of_getElem? (i := 18) (by decide +kernel)))) (hM _ (List.mem_cons_of_mem _ (List.mem_cons_of_mem _ (List.mem_cons_of_mem _ List.mem_cons_self)))) hA
  · exact va_Zqof (hts _ (tb_4 (List.mem_of_getElem? (i := 123) (by decide +kernel)))) (hts _ (tb_1 (List.mem_of_getElem? (i := 16) (by decide +kernel)))) (hM _ (List.mem_cons_of_mem _ List.mem_cons_self)) hA
theorem ncx0 {args : Array Value} {s : State} (hg : ∀ c ∈ gvL, c.before args s = true) : NcX s := by
  have hM : ∀ c ∈ gvM, c.before args s = true := fun c hc => hg c (List.mem_append_right _ (List.mem_append_left _ hc))
  have m4 : ∀ c ∈ gvM.drop 4, c.before args s = true := fun c hc => hM c (List.mem_of_mem_drop hc)
  intro q hq
  rcases List.mem_cons.mp hq with rfl | hq
  · exact va_Nc.of (m4 _ List.mem_cons_self)
  rcases List.mem_cons.mp hq with rfl | hq
  · exact va_Nc.of (m4 _ (List.mem_cons_of_mem _ (List.mem_cons_of_mem _ List.mem_cons_self)))
  rcases List.mem_cons.mp hq with rfl | hq
  · exact va_Nc.of (m4 _ (List.mem_cons_of_mem _ List.mem_cons_self))
  rcases List.mem_cons.mp hq with rfl | hq
  · exact va_Nc.of (m4 _ (List.mem_cons_of_mem _ (List.mem_cons_of_mem _ (List.mem_cons_of_mem _ List.mem_cons_self))))
  · cases hq
theorem kn0 {args : Array Value} {s : State} (hg : ∀ w ∈ gw, w.before args s = true) : ∀ c : Nat, ∃ x : ClassId × (Nat → Nat), ∀ q : vw_C, vwCl[c]? = some q → u_Kn s q.1 q.2.1 q.2.2 x.1 x.2
  | 0 => by
    obtain ⟨a, b, h⟩ := u_known (n := 7) hg (hin := inX0) (hg _ (in_g1 209 (by decide +kernel) rfl))
    exact ⟨(a, b), fun q hq => by cases hq; exact h⟩
  | 1 => by
    obtain ⟨a, b, h⟩ := u_known (n := 18) hg (hin := inX1) (hg _ (in_g1 54 (by decide +kernel) rfl))
    exact ⟨(a, b), fun q hq => by cases hq; exact h⟩
  | 2 => by
    obtain ⟨a, b, h⟩ := u_known (n := 7) hg (hin := inX2) (hg _ (in_g1 149 (by decide +kernel) rfl))
    exact ⟨(a, b), fun q hq => by cases hq; exact h⟩
  | 3 => by
    obtain ⟨a, b, h⟩ := u_known (n := 4) hg (hin := inX3) (hg _ (in_g1 190 (by decide +kernel) rfl))
    exact ⟨(a, b), fun q hq => by cases hq; exact h⟩
  | 4 => by
    obtain ⟨a, b, h⟩ := u_known (n := 11) hg (hin := inX4) (hg _ (in_g2 50 (by decide +kernel) rfl))
    exact ⟨(a, b), fun q hq => by cases hq; exact h⟩
  | 5 => by
    obtain ⟨a, b, h⟩ := u_known (n := 15) hg (hin := inX5) (hg _ (in_g2 44 (by decide +kernel) rfl))
    exact ⟨(a, b), fun q hq => by cases hq; exact h⟩
  | 6 => by
    obtain ⟨a, b, h⟩ := u_known (n := 2) hg (hin := inX6) (hg _ (in_g1 37 (by decide +kernel) rfl))
    exact ⟨(a, b), fun q hq => by cases hq; exact h⟩
  | 7 => by
    obtain ⟨a, b, h⟩ := u_known (n := 9) hg (hin := inX7) (hg _ (in_g2 5 (by decide +kernel) rfl))
    exact ⟨(a, b), fun q hq => by cases hq; exact h⟩
  | 8 => by
    obtain ⟨a, b, h⟩ := u_known (n := 9) hg (hin := inX8) (hg _ (in_g2 148 (by decide +kernel) rfl))
    exact ⟨(a, b), fun q hq => by cases hq; exact h⟩
  | 9 => by
    obtain ⟨a, b, h⟩ := u_known (n := 10) hg (hin := inX9) (hg _ (in_g1 29 (by decide +kernel) rfl))
    exact ⟨(a, b), fun q hq => by cases hq; exact h⟩
  | 10 => by
    obtain ⟨a, b, h⟩ := u_known (n := 69) hg (hin := inX10) (hg _ (in_g6 198 (by decide +kernel) rfl))
    exact ⟨(a, b), fun q hq => by cases hq; exact h⟩
  | _ + 11 => ⟨(0, fun _ => 0), fun q hq => by cases hq⟩
theorem arr0 {args : Array Value} {s : State} {ty : FieldType} (h : (Cond.arrayClass ty).before args s = true) : ∃ cA : ClassId, ArrOfT s cA ty ∧ s.vm.findClass ("[" ++ ty.toString) = some cA := by
  obtain ⟨cA, kA, comp, h1, h2, h3⟩ := Cond.arrayClass_spec h
  exact ⟨cA, fun n z => ⟨fun k h => (by cases h), kA, h2, comp, h3⟩, h1⟩
theorem k0 {args : Array Value} {s : State} (hg : ∀ w ∈ gw, w.before args s = true) : ∃ (D : va_G) (cA : Nat → ClassId), va_K D vwCl (tyL cA) s := by
  obtain ⟨f, hf⟩ := Classical.axiomOfChoice (kn0 hg)
  obtain ⟨a0, g0, i0⟩ := arr0 (ty := .int) (hg _ ka_int)
  obtain ⟨a1, g1, i1⟩ := arr0 (ty := .boolean) (hg _ ka_boolean)
  obtain ⟨a2, g2, i2⟩ := arr0 (ty := .byte) (hg _ ka_byte)
  obtain ⟨a3, g3, i3⟩ := arr0 (ty := .long) (hg _ ka_long)
  refine ⟨(fun c => (f c).1, fun c => (f c).2), fun k => match k with | 0 => a0 | 1 => a1 | 2 => a2 | _ => a3, fun c q hq => hf c q hq, fun k q hq => ?_⟩
  match k, hq with
  | 0, hq => cases hq; exact ⟨g0, i0⟩
  | 1, hq => cases hq; exact ⟨g1, i1⟩
  | 2, hq => cases hq; exact ⟨g2, i2⟩
  | 3, hq => cases hq; exact ⟨g3, i3⟩
  | _ + 4, hq => cases hq
