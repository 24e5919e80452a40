
/-! values: an int by its number, a long, a cell by its place -/
abbrev AV : Type := Int ⊕ (Int64 ⊕ Nat)
abbrev aI (z : Int) : AV := Sum.inl z
abbrev aL (x : Int64) : AV := Sum.inr (Sum.inl x)
abbrev aR (k : Nat) : AV := Sum.inr (Sum.inr k)
def rng (z : Int) : Prop := -2147483648 ≤ z ∧ z < 2147483648
def cv (ad : Nat → Nat) (v : AV) : Value := match v with
  | .inl z => .int (Int32.ofInt z)
  | .inr (.inl x) => .long x
  | .inr (.inr k) => .ref (ad k)
def okv (v : AV) : Prop := match v with
  | .inl z => rng z
  | .inr _ => True
/-- kinds: 0 int, 1 boolean, 2 byte -/
def okK (kd : Nat) (z : Int) : Prop := match kd with
  | 1 => 0 ≤ z ∧ z ≤ 1
  | 2 => -128 ≤ z ∧ z < 128
  | _ => rng z
theorem okK_rng {kd : Nat} {z : Int} (h : okK kd z) : rng z := by
  unfold okK at h
  unfold rng
  split at h
  · omega
  · omega
  · exact h
theorem rng_toInt {z : Int} (h : rng z) : (Int32.ofInt z).toInt = z := by
  rw [Int32.toInt_ofInt]
  unfold rng at h
  have e : (Int32.size : Int) = 4294967296 := rfl
  exact Int.bmod_eq_of_le (by rw [e]; omega) (by rw [e]; omega)
theorem rng_of (x : Int32) : rng x.toInt := ⟨Int32.le_toInt x, Int32.toInt_lt x⟩
theorem rng_lt {a b : Int} (ha : rng a) (hb : rng b) : Int32.ofInt a < Int32.ofInt b ↔ a < b := by
  rw [Int32.lt_iff_toInt_lt, rng_toInt ha, rng_toInt hb]
theorem rng_le {a b : Int} (ha : rng a) (hb : rng b) : Int32.ofInt a ≤ Int32.ofInt b ↔ a ≤ b := by
  rw [Int32.le_iff_toInt_le, rng_toInt ha, rng_toInt hb]
theorem rng_eq {a b : Int} (ha : rng a) (hb : rng b) : Int32.ofInt a = Int32.ofInt b ↔ a = b := by
  rw [← Int32.toInt_inj, rng_toInt ha, rng_toInt hb]
theorem rng_0 : rng 0 := by unfold rng; omega
theorem ofInt_0 : Int32.ofInt 0 = 0 := rfl
theorem rng_clamp {z : Int} (h : rng z) (h0 : 0 ≤ z) : (Int32.ofInt z).toNatClampNeg = z.toNat := by
  have e := rng_toInt h
  show (Int32.ofInt z).toInt.toNat = z.toNat
  rw [e]
theorem rng_in {z : Int} {n : Nat} (h : rng z) (h0 : 0 ≤ z) (h1 : z < n) : vp_in (Int32.ofInt z) n := by
  rw [vp_in_iff, rng_toInt h]
  exact ⟨h0, h1⟩
/-! the store: ints of a cell (fields, elements), longs of a cell -/
abbrev St : Type := (Nat → Nat → Int) × (Nat → Nat → Int64)
def wI (w : St) (k j : Nat) (z : Int) : St := (fun a b => cond (and (Nat.beq a k) (Nat.beq b j)) z (w.1 a b), w.2)
def wA (w : St) (k : Nat) (f : Nat → Int) : St := (fun a => cond (Nat.beq a k) f (w.1 a), w.2)
def wB (w : St) (k : Nat) (f : Nat → Int64) : St := (w.1, fun a => cond (Nat.beq a k) f (w.2 a))
def uI (f : Nat → Int) (j : Int) (z : Int) : Nat → Int := fun b => if b = j.toNat then z else f b
def uL (f : Nat → Int64) (j : Int) (z : Int64) : Nat → Int64 := fun b => if b = j.toNat then z else f b
/-- the layout of a cell: an object of a class, its fields (a kind, null, or a cell's place); or an array: its kind (3: long) and length -/
abbrev LC : Type := (Nat × List (Nat ⊕ Option Nat)) ⊕ (Nat × Nat)
/-- what a cell holds -/
abbrev CT : Type := (Nat × List ((Nat × Int) ⊕ Option Nat)) ⊕ (Nat × Nat × ((Nat → Int) ⊕ (Nat → Int64)))
def fdC (g : Nat → Int) : Nat → List (Nat ⊕ Option Nat) → List ((Nat × Int) ⊕ Option Nat)
  | _, [] => []
  | j, .inl kd :: fs => .inl (kd, g j) :: fdC g (j + 1) fs
  | j, .inr r :: fs => .inr r :: fdC g (j + 1) fs
def ctC (w : St) (k : Nat) (c : LC) : CT := match c with
  | .inl (ci, fs) => .inl (ci, fdC (w.1 k) 0 fs)
  | .inr (kd, n) => .inr (kd, n, match kd with
    | 3 => .inr (w.2 k)
    | _ => .inl (w.1 k))
def pj (w : St) : Nat → List LC → List CT
  | _, [] => []
  | k, c :: L => ctC w k c :: pj w (k + 1) L
def okC (c : CT) : Prop := match c with
  | .inl (_, fs) => ∀ (j : Nat) (kd : Nat) (z : Int), fs[j]? = some (.inl (kd, z)) → okK kd z
  | .inr (kd, _, .inl f) => ∀ j, okK kd (f j)
  | .inr (_, _, .inr _) => True
def okP (P : List CT) : Prop := ∀ (k : Nat) (c : CT), P[k]? = some c → okC c
def fvV (ad : Nat → Nat) (x : (Nat × Int) ⊕ Option Nat) : Value := match x with
  | .inl q => .int (Int32.ofInt q.2)
  | .inr none => .null
  | .inr (some r) => .ref (ad r)
def eV (ad : Nat → Nat) (cA : Nat → ClassId) (c : CT) : va_E := match c with
  | .inl (ci, fs) => .inr (ci, fs.map (fvV ad))
  | .inr (kd, n, .inl f) => .inl (cA kd, n, .inl (fun j => Int32.ofInt (f j)))
  | .inr (kd, n, .inr f) => .inl (cA kd, n, .inr (.inl f))
def wsP (ad : Nat → Nat) (cA : Nat → ClassId) : Nat → List CT → va_W
  | _, [] => []
  | k, x :: P => (ad k, eV ad cA x) :: wsP ad cA (k + 1) P
theorem pj_at (w : St) : ∀ (L : List LC) (i k : Nat) (c : LC), L[k]? = some c → (pj w i L)[k]? = some (ctC w (i + k) c)
  | [], _, _, _, h => by cases h
  | c0 :: L, i, 0, c, h => by cases h; rfl
  | c0 :: L, i, k + 1, c, h => by
    have e := pj_at w L (i + 1) k c h
    rw [show i + (k + 1) = i + 1 + k by omega]
    exact e
theorem pj_len (w : St) : ∀ (L : List LC) (i : Nat), (pj w i L).length = L.length
  | [], _ => rfl
  | _ :: L, i => congrArg (· + 1) (pj_len w L (i + 1))
theorem wsP_at (ad : Nat → Nat) (cA : Nat → ClassId) : ∀ (P : List CT) (i k : Nat) (c : CT), P[k]? = some c → (wsP ad cA i P)[k]? = some (ad (i + k), eV ad cA c)
  | [], _, _, _, h => by cases h
  | c0 :: P, i, 0, c, h => by cases h; rfl
  | c0 :: P, i, k + 1, c, h => by
    have e := wsP_at ad cA P (i + 1) k c h
    rw [show i + (k + 1) = i + 1 + k by omega]
    exact e
theorem wsP_len (ad : Nat → Nat) (cA : Nat → ClassId) : ∀ (P : List CT) (i : Nat), (wsP ad cA i P).length = P.length
  | [], _ => rfl
  | _ :: P, i => congrArg (· + 1) (wsP_len ad cA P (i + 1))
theorem wsP_set (ad : Nat → Nat) (cA : Nat → ClassId) : ∀ (P : List CT) (i k : Nat) (c : CT), (wsP ad cA i P).set k (ad (i + k), eV ad cA c) = wsP ad cA i (P.set k c)
  | [], _, _, _ => rfl
  | c0 :: P, i, 0, c => rfl
  | c0 :: P, i, k + 1, c => by
    show (ad i, eV ad cA c0) :: (wsP ad cA (i + 1) P).set k (ad (i + (k + 1)), eV ad cA c) = (ad i, eV ad cA c0) :: wsP ad cA (i + 1) (P.set k c)
    rw [show i + (k + 1) = i + 1 + k by omega, wsP_set ad cA P (i + 1) k c]
theorem wsP_inv (ad : Nat → Nat) (cA : Nat → ClassId) : ∀ (P : List CT) (i k : Nat) (q : Nat × va_E), (wsP ad cA i P)[k]? = some q → k < P.length ∧ q.1 = ad (i + k)
  | [], _, _, _, h => by cases h
  | c0 :: P, i, 0, q, h => by cases h; exact ⟨Nat.zero_lt_succ _, rfl⟩
  | c0 :: P, i, k + 1, q, h => by
    obtain ⟨e1, e2⟩ := wsP_inv ad cA P (i + 1) k q h
    refine ⟨Nat.succ_lt_succ e1, ?_⟩
    rw [show i + (k + 1) = i + 1 + k by omega]
    exact e2
theorem fdC_at (g : Nat → Int) : ∀ (fs : List (Nat ⊕ Option Nat)) (i j : Nat) (kd : Nat), fs[j]? = some (.inl kd) → (fdC g i fs)[j]? = some (.inl (kd, g (i + j)))
  | [], _, _, _, h => by cases h
  | .inl a :: fs, i, 0, kd, h => by cases h; rfl
  | .inr a :: fs, i, 0, kd, h => by cases h
  | .inl a :: fs, i, j + 1, kd, h => by
    rw [show i + (j + 1) = i + 1 + j by omega]
    exact fdC_at g fs (i + 1) j kd h
  | .inr a :: fs, i, j + 1, kd, h => by
    rw [show i + (j + 1) = i + 1 + j by omega]
    exact fdC_at g fs (i + 1) j kd h
theorem fdC_ref (g : Nat → Int) : ∀ (fs : List (Nat ⊕ Option Nat)) (i j : Nat) (r : Option Nat), fs[j]? = some (.inr r) → (fdC g i fs)[j]? = some (.inr r)
  | [], _, _, _, h => by cases h
  | .inl a :: fs, i, 0, kd, h => by cases h
  | .inr a :: fs, i, 0, kd, h => by cases h; rfl
  | .inl a :: fs, i, j + 1, kd, h => fdC_ref g fs (i + 1) j kd h
  | .inr a :: fs, i, j + 1, kd, h => fdC_ref g fs (i + 1) j kd h
theorem fdC_cong {g g' : Nat → Int} : ∀ (fs : List (Nat ⊕ Option Nat)) (i : Nat), (∀ j, i ≤ j → g j = g' j) → fdC g i fs = fdC g' i fs
  | [], _, _ => rfl
  | .inl a :: fs, i, h => by
    show Sum.inl (a, g i) :: fdC g (i + 1) fs = Sum.inl (a, g' i) :: fdC g' (i + 1) fs
    rw [h i (Nat.le_refl _), fdC_cong fs (i + 1) (fun j hj => h j (by omega))]
  | .inr a :: fs, i, h => by
    show Sum.inr a :: fdC g (i + 1) fs = Sum.inr a :: fdC g' (i + 1) fs
    rw [fdC_cong fs (i + 1) (fun j hj => h j (by omega))]
theorem fdC_set (g : Nat → Int) (z : Int) : ∀ (fs : List (Nat ⊕ Option Nat)) (i j kd : Nat), fs[j]? = some (.inl kd) → (fdC g i fs).set j (.inl (kd, z)) = fdC (fun b => cond (Nat.beq b (i + j)) z (g b)) i fs
  | [], _, _, _, h => by cases h
  | .inl a :: fs, i, 0, kd, h => by
    cases h
    show Sum.inl (a, z) :: fdC g (i + 1) fs = Sum.inl (a, cond (Nat.beq i (i + 0)) z (g i)) :: fdC _ (i + 1) fs
    rw [show Nat.beq i (i + 0) = true from Nat.beq_refl i]
    congr 1
    exact fdC_cong fs (i + 1) (fun b hb => by
      have e : Nat.beq b (i + 0) = false := by
        cases hq : Nat.beq b (i + 0) with
        | false => rfl
        | true => have := Nat.eq_of_beq_eq_true hq; omega
      rw [e]; rfl)
  | .inr a :: fs, i, 0, kd, h => by cases h
  | .inl a :: fs, i, j + 1, kd, h => by
    show Sum.inl (a, g i) :: (fdC g (i + 1) fs).set j (.inl (kd, z)) = Sum.inl (a, cond (Nat.beq i (i + (j + 1))) z (g i)) :: fdC _ (i + 1) fs
    rw [fdC_set g z fs (i + 1) j kd h, show i + 1 + j = i + (j + 1) by omega]
    have e : Nat.beq i (i + (j + 1)) = false := by
      cases hq : Nat.beq i (i + (j + 1)) with
      | false => rfl
      | true => have := Nat.eq_of_beq_eq_true hq; omega
    rw [e]; rfl
  | .inr a :: fs, i, j + 1, kd, h => by
    show Sum.inr a :: (fdC g (i + 1) fs).set j (.inl (kd, z)) = Sum.inr a :: fdC _ (i + 1) fs
    rw [fdC_set g z fs (i + 1) j kd h, show i + 1 + j = i + (j + 1) by omega]
theorem beq_ne {a b : Nat} (h : a ≠ b) : Nat.beq a b = false := by
  cases hq : Nat.beq a b with
  | false => rfl
  | true => exact absurd (Nat.eq_of_beq_eq_true hq) h
theorem pj_cong {w w' : St} : ∀ (L : List LC) (i : Nat), (∀ k, i ≤ k → w.1 k = w'.1 k ∧ w.2 k = w'.2 k) → pj w i L = pj w' i L
  | [], _, _ => rfl
  | c :: L, i, h => by
    show ctC w i c :: pj w (i + 1) L = ctC w' i c :: pj w' (i + 1) L
    rw [pj_cong L (i + 1) (fun k hk => h k (by omega))]
    congr 1
    unfold ctC
    rw [(h i (Nat.le_refl _)).1, (h i (Nat.le_refl _)).2]
theorem pj_set {w w' : St} {k : Nat} (hne : ∀ b, b ≠ k → w.1 b = w'.1 b ∧ w.2 b = w'.2 b) : ∀ (L : List LC) (i j : Nat) (c : LC), L[j]? = some c → i + j = k → (pj w i L).set j (ctC w' k c) = pj w' i L
  | [], _, _, _, h, _ => by cases h
  | c0 :: L, i, 0, c, h, hk => by
    cases h
    subst hk
    show ctC w' (i + 0) c0 :: pj w (i + 1) L = ctC w' i c0 :: pj w' (i + 1) L
    rw [pj_cong L (i + 1) (fun b hb => hne b (by omega))]
    rfl
  | c0 :: L, i, j + 1, c, h, hk => by
    show ctC w i c0 :: (pj w (i + 1) L).set j (ctC w' k c) = ctC w' i c0 :: pj w' (i + 1) L
    rw [pj_set hne L (i + 1) j c h (by omega)]
    congr 1
    unfold ctC
    rw [(hne i (by omega)).1, (hne i (by omega)).2]
theorem okP_set {P : List CT} {k : Nat} {c : CT} (h : okP P) (hc : okC c) : okP (P.set k c) := by
  intro j d hd
  rw [List.getElem?_set] at hd
  split at hd
  · split at hd
    · cases hd; exact hc
    · cases hd
  · exact h j d hd
/-! the words -/
def gw : List Cond := lw_tbl.filter goodWord
def isNest (w : Cond) : Bool := match w with
  | .methodLinkNest .. => true
  | .fieldLinkNest .. => true
  | .castable .. => true
  | .declares .. => true
  | _ => false
def nw : List Cond := lw_tbl.filter isNest
theorem in_gw {w : Cond} (i : Nat) (h : lw_tbl[i]? = some w) (hg : goodWord w = true) : w ∈ gw := List.mem_filter.mpr ⟨List.mem_of_getElem? h, hg⟩
theorem in_nw {w : Cond} (i : Nat) (h : lw_tbl[i]? = some w) (hg : isNest w = true) : w ∈ nw := List.mem_filter.mpr ⟨List.mem_of_getElem? h, hg⟩
theorem gw_good {w : Cond} (h : w ∈ gw) : goodWord w = true := (List.mem_filter.mp h).2
theorem good_gw {c0 z : Cond} (hz : z ∈ gw) : GoodIn (c0 :: gw) (z :: gw) := by
  intro w hw
  rcases List.mem_cons.mp hw with rfl | hw
  · exact ⟨List.mem_cons_of_mem _ hz, good_of_word (gw_good hz)⟩
  · exact ⟨List.mem_cons_of_mem _ hw, good_of_word (gw_good hw)⟩
theorem nw_warm {s U : State} (hW : s.WarmedH U.vm) (h : ∀ w ∈ nw, va_Nw w s) : ∀ w ∈ nw, va_Nw w U := by
  intro w hw
  have h1 := (List.mem_filter.mp hw).2
  have h2 := h w hw
  cases w with
  | methodLinkNest a i x hh => exact va_Nw.warmM hW h2
  | fieldLinkNest a i b n d hh => exact va_Nw.warmF hW h2
  | castable a b => exact va_Nw.warmC hW h2
  | declares a => exact va_Nw.warmD hW h2
  | _ => exact absurd h1 (by simp [isNest])
theorem nw_same {s U : State} (hv : s.vm = U.vm) (h : ∀ w ∈ nw, va_Nw w s) : ∀ w ∈ nw, va_Nw w U := by
  intro w hw
  have h1 := (List.mem_filter.mp hw).2
  have h2 := h w hw
  cases w with
  | methodLinkNest a i x hh => exact va_Nw.same rfl hv h2
  | fieldLinkNest a i b n d hh => exact va_Nw.same rfl hv h2
  | castable a b => exact va_Nw.same rfl hv h2
  | declares a => exact va_Nw.same rfl hv h2
  | _ => exact absurd h1 (by simp [isNest])
/-- the array classes by their kinds -/
def tyL (cA : Nat → ClassId) : List (ClassId × FieldType) := [(cA 0, .int), (cA 1, .boolean), (cA 2, .byte), (cA 3, .long)]
