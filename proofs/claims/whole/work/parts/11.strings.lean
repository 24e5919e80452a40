def sLen (i : Nat) : Int := ((sBy i).length : Int)
def sAt (i : Nat) (j : Int) : Int := (sBy i).getD j.toNat 0
section RS
variable {p : Program} {l : Launch} {e : Env} {R : Room} {s : State} {m : MethodId} {args : Array Value} {below : List Frame} {meth : Method} {c : Code} {Q : State → Prop} {cells slots nL : Nat} {D : va_G} {cA : Nat → ClassId} {ad : Nat → Nat} {A : Nat → Prop} {L : List LC} {w : St} {pc : Nat} {ls : List (Option AV)} {st : List AV} {cc : ByteArray} {own : String}

theorem r_slen (hC : Cx p s m args c cc nL own D cA ad A L) {k idx : Nat} (hd : decode cc pc = .ok (.invokevirtual idx, 3)) (hlk : Cond.methodLink own idx yJ0_length_8abf5 ∈ gw) (hk : k < 37) (hR : 4 ≤ R.frames ∧ 160 ≤ R.locals) (hcs : cells + 0 ≤ R.cells ∧ slots + 0 ≤ R.slots) (h8 : rsum st ≤ 8) (kk : Wd p l e R s m args below meth c Q cells slots nL D cA ad A L w (pc + 3) (ls) (aI (sLen k) :: st)) : Wd p l e R s m args below meth c Q cells slots nL D cA ad A L w (pc) (ls) (aR (10000 + k) :: st) := sorry
theorem r_sat (hC : Cx p s m args c cc nL own D cA ad A L) {k idx : Nat} {i : Int} (hd : decode cc pc = .ok (.invokevirtual idx, 3)) (hlk : Cond.methodLink own idx yJ0_charAt_5068e ∈ gw) (hk : k < 37) (h0 : 0 ≤ i) (h1 : i < sLen k) (hR : 4 ≤ R.frames ∧ 160 ≤ R.locals) (hcs : cells + 0 ≤ R.cells ∧ slots + 0 ≤ R.slots) (h8 : rsum st ≤ 8) (kk : Wd p l e R s m args below meth c Q cells slots nL D cA ad A L w (pc + 3) (ls) (aI (sAt k i) :: st)) : Wd p l e R s m args below meth c Q cells slots nL D cA ad A L w (pc) (ls) (aI i :: aR (10000 + k) :: st) := sorry

end RS
