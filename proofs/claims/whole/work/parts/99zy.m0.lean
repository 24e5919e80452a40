/-! M0: facts for the law's entry, and the relation at the start -/
theorem my_X9_init : MY yX9_init cX9_init 1 none 0 := ⟨in_g1 1 (by decide +kernel) rfl, in_g1 32 (by decide +kernel) rfl, by decide, by decide, by decide +kernel, by decide⟩
theorem mt_X9_init : Cond.instanceMethod yX9_init ∈ gw := in_g1 31 (by decide +kernel) rfl
theorem ck_RL_8 : CK RL 8 9 [.inr none, .inr none, .inr none, .inr none, .inr none, .inr none, .inr none, .inr none, .inr none, .inl 0] := ⟨_, _, _, tyX9, rfl, inX9, tyX9_ok, in_g1 28 (by decide +kernel) rfl, in_g1 29 (by decide +kernel) rfl, in_g1 1 (by decide +kernel) rfl, by decide +kernel, rfl, rfl⟩
theorem my_X10_init : MY yX10_init cX10_init 1 none 0 := ⟨in_g1 11 (by decide +kernel) rfl, in_g6 201 (by decide +kernel) rfl, by decide, by decide, by decide +kernel, by decide⟩
theorem mt_X10_init : Cond.instanceMethod yX10_init ∈ gw := in_g6 200 (by decide +kernel) rfl
theorem ck_RL_89 : CK RL 89 10 [.inl 0, .inr none, .inl 0, .inr none, .inr none, .inr none, .inl 0, .inl 0, .inr none, .inr none, .inr none, .inr none, .inl 0, .inr none, .inr none, .inr none, .inl 0, .inr none, .inr none, .inr none, .inr none, .inr none, .inr none, .inr none, .inr none, .inr none, .inr none, .inr none, .inr none, .inl 0, .inl 0, .inl 0, .inl 0, .inl 0, .inl 0, .inr none, .inr none, .inr none, .inr none, .inl 0, .inr none, .inr none, .inl 1, .inl 1, .inr none, .inr none, .inr none, .inl 0, .inl 0, .inl 1, .inl 0, .inl 0, .inl 0, .inl 0, .inr none, .inr none, .inl 0, .inl 0, .inl 0, .inr none, .inl 0, .inl 0, .inl 0, .inr none, .inr none, .inr none, .inr none, .inl 1, .inl 1] := ⟨_, _, _, tyX10, rfl, inX10, tyX10_ok, in_g6 197 (by decide +kernel) rfl, in_g6 198 (by decide +kernel) rfl, in_g1 11 (by decide +kernel) rfl, by decide +kernel, rfl, rfl⟩
/-- the store behind both constructors -/
def wF : St := wI (wI (wI (wI (wI (wI (wI (wI zSt 37 4 200) 37 5 3) 37 6 60) 0 9 (-1)) 44 34 (-1)) 44 50 200) 44 51 3) 44 52 60
theorem Wn_0 (b : Nat → Int) : Wn b 0 = 0 := rfl
theorem Sn_0 (b : Nat → Int) : Sn b 0 = 0 := cn_zero fun i _ => decide_eq_false (Nat.not_lt_zero _)
theorem rel0 : Rel wF (wS 44 wF) := by
  refine ⟨⟨0, ⟨⟨by omega, fun i hi => absurd hi (Nat.not_lt_zero _)⟩, fun i hi => absurd hi (Nat.not_lt_zero _)⟩, rfl, rfl⟩, rfl, ⟨⟨([], 0, 0), ⟨rfl, rfl, rfl, fun j hj => absurd hj (Nat.not_lt_zero _)⟩, ⟨rfl, rfl, rfl, fun j hj => absurd hj (Nat.not_lt_zero _)⟩, Nat.zero_le _, fun j hj => absurd hj (Nat.not_lt_zero _)⟩, rfl, rfl⟩, ?_⟩
  have hW : ∀ {b : Nat → Int} {w : Nat}, w < Wn b 0 → False := fun {b w} h => by rw [Wn_0] at h; omega
  have hS : ∀ {b : Nat → Int} {w : Nat}, w < Sn b 0 → False := fun {b w} h => by rw [Sn_0] at h; omega
  have hM : ∀ R, M0 (Wn (wF.1 4) 0) 0 R = 0 := fun R => rfl
  refine ⟨wF.1 4, 0, 0, fun _ => 0, fun _ => 0, fun _ => 0, fun _ => 0, fun _ => false, fun _ => false, 200, 3, 60, 0, ?_, ?_, ?_, ?_, Or.inl rfl, Or.inl rfl, Or.inl rfl⟩
  · refine ⟨rfl, ⟨⟨by omega, fun i hi => absurd hi (Nat.not_lt_zero _)⟩, fun i hi => absurd hi (Nat.not_lt_zero _), ⟨fun i hi => absurd hi (Nat.not_lt_zero _), rfl⟩, fun w hw => (hW hw).elim, fun w hw => (hW hw).elim, fun w hw => (hS hw).elim, ⟨fun w hw => (hW hw).elim, fun w hw => (hS hw).elim⟩⟩, rfl, rfl, rfl, ?_, fun i hi => absurd hi (Nat.not_lt_zero _), ?_, fun w hw => (hW hw).elim, fun w hw => (hW hw).elim, fun w hw => (hW hw).elim, fun w hw => (hS hw).elim, fun k j hw _ => (hS hw).elim, rfl, rfl, rfl, ?_⟩
    · rw [Sn_0]; rfl
    · intro s hs
      have e : s = 0 := by
        have : sgn (wF.1 4) 0 0 = 0 := rfl
        omega
      subst e
      have h := ps_sgn (b := wF.1 4) (N := 0) (i := 0) (Nat.le_refl _) (sec_0 _ _)
      have h2 : ps (wF.1 4) 0 0 = 0 := h
      rw [h2]; rfl
    · rw [Sn_0]; rfl
  · exact ⟨⟨by omega, fun i hi => absurd hi (Nat.not_lt_zero _)⟩, rfl, ⟨by omega, fun i hi => absurd hi (Nat.not_lt_zero _)⟩, rfl, fun j => (show (0 : Int) ≤ 0 ∧ (0 : Int) ≤ 1 by omega), fun j => (show (0 : Int) ≤ 0 ∧ (0 : Int) ≤ 1 by omega), fun j => (show (-128 : Int) ≤ 0 ∧ (0 : Int) < 128 by omega)⟩
  · exact ⟨⟨fun w hw => (hW hw).elim, fun w hw => (hS hw).elim⟩, rfl, ⟨fun m hm => absurd hm (Nat.not_lt_zero _), fun k w hk _ => absurd hk (Nat.not_lt_zero _)⟩, rfl⟩
  · exact ⟨rfl, rfl, rfl, rfl, rfl, rfl, rfl, rfl, Nat.two_pow_pos _, by omega, by omega, fun w hw => (hS hw).elim⟩
theorem jN0 : pj wF 0 LJ = pj (jN wF (wS 44 wF) (fun _ => 0)) 0 LJ := pj_cb LJ 0 fun k _ h => by
  have h : k < 85 := by have := lJ_len; omega
  by_cases hk : k < 44
  · rw [(jN_lo hk).1, (jN_lo hk).2]
    exact ⟨rfl, rfl⟩
  · by_cases h2 : k < 84
    · obtain ⟨j, rfl⟩ : ∃ j, k = 44 + j := ⟨k - 44, by omega⟩
      have hj : j < 40 := by omega
      rw [(jN_hi hj).1, (jN_hi hj).2]
      exact ⟨rfl, rfl⟩
    · have e : k = 84 := by omega
      subst e
      exact ⟨rfl, rfl⟩
