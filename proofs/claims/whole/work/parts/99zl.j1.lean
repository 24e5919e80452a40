/-! J1: what holds between the class's store u and the reference's store v -/
def RTp (u v : St) : Prop := ∃ N : Nat, TpR (u.1 2) (v.1 1) N ∧ u.1 1 1 = N ∧ v.1 0 2 = N
def RFt (u v : St) : Prop := u.1 0 9 = v.1 0 34
def RWr (u v : St) : Prop := (∃ st : WSt, WrC st (u.1 43) (u.1 41 6) (u.1 41 7) (u.1 41 8) ∧ MrC st (v.1 35) (v.1 0 60) (v.1 0 61) (v.1 0 62) ∧ st.1.length ≤ 5760 ∧ ∀ j, j < st.1.length → 0 ≤ st.1.getD j 0 ∧ st.1.getD j 0 ≤ 255) ∧ v.1 0 67 = 0 ∧ v.1 0 68 = 0
def RPg (b : Nat → Int) (N : Nat) (u v : St) : Prop := u.1 4 = b ∧ PgA b N (u.1 5) (u.1 6) (u.1 7) (u.1 8) (u.1 9) (u.1 10) (u.1 11) (u.1 12) (u.1 13) (u.1 14) (u.1 15) (u.2 16) (u.2 17) ∧ u.1 3 14 = N ∧ u.1 3 15 = sgn b N N ∧ u.1 3 16 = Wn b N ∧ u.1 3 17 = Sn b N ∧ PgE b N (v.1 3) ∧ MsA b N (v.1 4) ∧ MwA b N (v.1 5) (v.1 6) ∧ (∀ w, w < Wn b N → v.1 7 w = so b N w) ∧ AlA b N (v.1 8) ∧ MtA b N (v.1 9) (v.1 10) ∧ MhA b N (v.1 11) ∧ v.1 0 6 = N ∧ v.1 0 7 = sgn b N N ∧ v.1 0 12 = Wn b N ∧ v.1 0 16 = Sn b N
def RQy (I : Nat) (wt tc tz : Nat → Nat) (lt : Nat → Int) (st sf : Nat → Bool) (u v : St) : Prop := QyA I wt tc tz lt st sf (u.1 19) (u.1 20) (u.1 21) (u.1 22) (u.1 18 4) (u.1 18 5) ∧ u.1 18 6 = I ∧ MqA I wt tc tz lt st sf (v.1 12) (v.1 13) (v.1 14) (v.1 17) (v.1 16) (v.1 15) ∧ v.1 0 29 = I ∧ BoA (v.1 21) ∧ BoA (v.1 22) ∧ ByA (v.1 23)
def RMt (b : Nat → Int) (N I : Nat) (tc : Nat → Nat) (R : Nat → Nat → Bool) (u v : St) : Prop := MtI (Wn b N) (Sn b N) I (soN b N) tc R (u.1 30) (u.1 31) (u.1 32) (u.2 33) ∧ u.1 29 6 = M0 (Wn b N) I R ∧ MmA (Wn b N) I tc R (v.1 24) (v.1 25) (v.1 26) (v.1 27) ∧ v.1 0 39 = M0 (Wn b N) I R
def RSt (b : Nat → Int) (N bu mo li ch : Nat) (u v : St) : Prop := u.1 37 4 = bu ∧ u.1 37 5 = mo ∧ u.1 37 6 = li ∧ u.1 37 7 = ch ∧ v.1 0 50 = bu ∧ v.1 0 51 = mo ∧ v.1 0 52 = li ∧ v.1 0 53 = ch ∧ ch < 2 ^ Sn b N ∧ mo ≤ 6 ∧ bu ≤ 700 ∧ TkA (Sn b N) (tkl b N li) (u.1 40)
def RBk (b : Nat → Int) (N I : Nat) (wt : Nat → Nat) (R : Nat → Nat → Bool) (bu mo li : Nat) (u : St) : Prop := u.1 37 10 = 0 ∨ (u.1 37 10 = 1 ∧ ∃ x : Nat, u.1 37 11 = x ∧ BsP (Sn b N) I wt (leN b N) (taN b N I R) (tkl b N li) mo bu 0 x)
def RLa (b : Nat → Int) (N I : Nat) (wt : Nat → Nat) (R : Nat → Nat → Bool) (v : St) : Prop := v.1 0 42 = 0 ∨ (v.1 0 42 = 1 ∧ StA (Sn b N) I wt (taN b N I R) (leN b N) (v.1 28) (v.1 29))
def RLk (b : Nat → Int) (N li : Nat) (v : St) : Prop := v.1 0 43 = 0 ∨ (v.1 0 43 = 1 ∧ TkA (Sn b N) (tkl b N li) (v.1 33))
def Rel (u v : St) : Prop := RTp u v ∧ RFt u v ∧ RWr u v ∧ ∃ (b : Nat → Int) (N I : Nat) (wt tc tz : Nat → Nat) (lt : Nat → Int) (st sf : Nat → Bool) (bu mo li ch : Nat), RPg b N u v ∧ RQy I wt tc tz lt st sf u v ∧ RMt b N I tc (mch b N tc tz lt st) u v ∧ RSt b N bu mo li ch u v ∧ RBk b N I wt (mch b N tc tz lt st) bu mo li u ∧ RLa b N I wt (mch b N tc tz lt st) v ∧ RLk b N li v
theorem tkl_sy (b : Nat → Int) (N li : Nat) : ∀ s o, tkl b N li s o = tkl b N li o s := fun s o => by
  unfold tkl
  rw [cmo_symm b N s o]
  exact decide_eq_decide.mpr ⟨fun h => ⟨fun e => h.1 e.symm, h.2⟩, fun h => ⟨fun e => h.1 e.symm, h.2⟩⟩
theorem tkl_ir (b : Nat → Int) (N li : Nat) : ∀ s, tkl b N li s s = false := fun s => decide_eq_false fun h => h.1 rfl
theorem facts {u v : St} {b : Nat → Int} {N I : Nat} {wt tc tz : Nat → Nat} {lt : Nat → Int} {st sf : Nat → Bool} (hP : RPg b N u v) (hQ : RQy I wt tc tz lt st sf u v) (hM : RMt b N I tc (mch b N tc tz lt st) u v) :
    N ≤ 600 ∧ QwA I wt (u.1 19) ∧ QwA I wt (v.1 12) ∧ TcA (Wn b N) I tc (mch b N tc tz lt st) (u.1 20) ∧ TcA (Wn b N) I tc (mch b N tc tz lt st) (v.1 13) ∧ (∀ k w, k < I → mch b N tc tz lt st k w = true → soN b N w < Sn b N ∧ w + tc k ≤ fW b N (soN b N w + 1)) ∧ TaA (Sn b N) (taN b N I (mch b N tc tz lt st)) (u.2 33) ∧ MBs b N I wt tc (mch b N tc tz lt st) (v.1 7) (v.1 8) (v.1 9) (v.1 10) (v.1 11) (v.1 12) (v.1 24) (v.1 25) (v.1 26) (v.1 27) ∧ LeA (Sn b N) (leN b N) (u.1 13) ∧ FtA (Sn b N) (leN b N) (v.1 9) (v.1 10) ∧ WlA (Wn b N) (FN b N) (TN b N) (u.1 6) (u.1 7) (u.1 8) := by
  obtain ⟨pb, pA, p14, p15, p16, p17, mE, ms, mw, mso, mal, mta, mha, m6, m7, m12, m16⟩ := hP
  obtain ⟨qA, q6, mqA, m29, bo1, bo2, by1⟩ := hQ
  obtain ⟨tI, t6, mmA, m39⟩ := hM
  obtain ⟨hB, hLt, hSg, hWd, hAl, hSn, hPl⟩ := pA
  have hN := hB.1
  have h100 : Wn b N ≤ 100 := by unfold Wn; omega
  have hRs : ∀ k w, k < I → mch b N tc tz lt st k w = true → soN b N w < Sn b N ∧ w + tc k ≤ fW b N (soN b N w + 1) := fun k w _ h => by
    have g := mch_iff.mp h
    exact ⟨g.2.1, g.2.2.1⟩
  have hRW : ∀ k w, k < I → mch b N tc tz lt st k w = true → w + tc k ≤ Wn b N := fun k w hk h => by
    have g := (hRs k w hk h).2
    have : fW b N (soN b N w + 1) ≤ Wn b N := cn_le _ _
    omega
  have q1 : QwA I wt (u.1 19) := ⟨qA.1, fun k hk => (qA.2 k hk).1⟩
  have q2 : QwA I wt (v.1 12) := ⟨mqA.1, fun k hk => (mqA.2 k hk).1⟩
  refine ⟨hN, q1, q2, ⟨qA.1, fun k hk => (qA.2 k hk).2.1, hRW⟩, ⟨mqA.1, fun k hk => (mqA.2 k hk).2.1, hRW⟩, hRs, TaA.of h100 tI, ⟨FtA_N hN mta, q2, mmA, fun k w hk hw h => ?_, mal, mha⟩, LeA_N hN hSn, FtA_N hN mta, WlA_N hN hSg hWd⟩
  have g := (hRs k w hk h).1
  rw [mso w hw]
  unfold so
  rw [if_pos g]
  exact ⟨rfl, g⟩
