/-! B44: page -/
theorem sgb_a : ∀ c : Nat, c < 256 → iAnd (sgb (c : Int)) 255 = c := by decide +kernel
theorem sgb_and {c : Int} (h : 0 ≤ c ∧ c ≤ 255) : iAnd (sgb c) 255 = c := by
  have := sgb_a c.toNat (by omega)
  rw [show ((c.toNat : Nat) : Int) = c by omega] at this
  exact this
theorem b_page {t b0 la sa wb we ws al sb se ss sf9 sw qw qt qz ql bg en to tk : Nat → Int} {lo hi tl : Nat → Int64} {N I li : Nat} {wt tc tz : Nat → Nat} {lt : Nat → Int} {st sf : Nat → Bool} {qs qf z1 z2 z3 z4 z5 z6 z7 : Int} {Q : Int → (Nat → Int) → (Nat → Int) → (Nat → Int) → (Nat → Int) → (Nat → Int) → (Nat → Int) → (Nat → Int) → (Nat → Int) → (Nat → Int) → (Nat → Int) → (Nat → Int) → (Nat → Int) → (Nat → Int) → (Nat → Int) → (Nat → Int) → (Nat → Int) → Int → Int → Int → Int → Int → Int → Int → Int → (Nat → Int64) → (Nat → Int64) → (Nat → Int64) → Prop} (hT : Byt t N) (hY : QyA I wt tc tz lt st sf qw qt qz ql qs qf)
    (hq : ∀ b la sa wb we ws al sb se ss sf9 sw bg en to tk lo hi tl, (∀ i, i < N → b i = t i) → PgA b N la sa wb we ws al sb se ss sf9 sw lo hi → MtI (Wn b N) (Sn b N) I (soN b N) tc (mch b N tc tz lt st) bg en to tl → TkA (Sn b N) (tkl b N li) tk → Q (Sn b N) b la sa wb we ws al sb se ss sf9 sw bg en to tk 0 N (sgn b N N) (Wn b N) (Sn b N) (M0 (Wn b N) I (mch b N tc tz lt st)) 0 0 lo hi tl) : wp_Picker_page t b0 la sa wb we ws al sb se ss sf9 sw qt qz ql bg en to tk N z1 z2 z3 z4 qs I z5 li z6 z7 lo hi tl Q := by
  unfold wp_Picker_page
  refine b_readFrom hT fun b la sa wb we ws al sb se ss sf9 sw lo hi hb hP => b_findAll hP.1 hP.2.2.2.1 hP.2.2.2.2.2.2 hY fun bg en to tl hM => ?_
  unfold wp_Sets_startAnew
  exact b_tooLike hP.2.2.2.2.2.2 fun tk hk => hq b la sa wb we ws al sb se ss sf9 sw bg en to tk lo hi tl hb hP hM hk
theorem b_Mpage {t mt b pg sa wf wt9 so0 lk fr to hwa mw mq mz ml ms mfs mi mf9 ml9 im : Nat → Int} {N I : Nat} {wt tc tz : Nat → Nat} {lt : Nat → Int} {st sf : Nat → Bool} {thr z1 z2 z3 z4 z5 z6 z7 z8 : Int} {Q : Int → (Nat → Int) → (Nat → Int) → (Nat → Int) → (Nat → Int) → (Nat → Int) → (Nat → Int) → (Nat → Int) → (Nat → Int) → (Nat → Int) → (Nat → Int) → (Nat → Int) → (Nat → Int) → (Nat → Int) → Int → Int → Int → Int → Int → Int → Int → Int → Int → Int → Prop} (hT : TpR t mt N) (hbt : ∀ i, i < N → b i = t i) (hB : Byt b N) (hY : MqA I wt tc tz lt st sf mw mq mz ml ms mfs)
    (hq : ∀ pg sa wf wt9 so0 lk fr to hwa mi mf9 ml9 im, PgE b N pg → MsA b N sa → MwA b N wf wt9 → (∀ w, w < Wn b N → so0 w = so b N w) → AlA b N lk → MtA b N fr to → MhA b N hwa → MmA (Wn b N) I tc (mch b N tc tz lt st) mi mf9 ml9 im → Q (Sn b N) pg sa wf wt9 so0 lk fr to hwa mi mf9 ml9 im 0 0 N (sgn b N N) (Wn b N) (Sn b N) (M0 (Wn b N) I (mch b N tc tz lt st)) 0 0 0) : wp_M_page mt pg sa wf wt9 so0 lk fr to hwa mq mz ms ml mi mf9 ml9 im thr N z1 z2 z3 z4 I z5 z6 z7 z8 Q := by
  have hN := hB.1
  unfold wp_M_page
  refine ⟨fun pg x => ∃ i : Nat, x = i ∧ i ≤ N ∧ ∀ j, j < i → pg j = b j, fun _ x => N - x.toNat, ⟨0, rfl, by omega, fun j hj => by omega⟩, ?_⟩
  rintro pg _ ⟨i, rfl, hi, hj⟩
  refine ⟨fun h1 => ?_, fun h1 => ⟨⟨by omega, by omega⟩, ⟨by omega, by omega⟩, ⟨by omega, by omega⟩, ⟨i + 1, by omega, by omega, fun j hj2 => ?_⟩, by (try dsimp only); omega⟩⟩
  · have hp : PgE b N pg := fun j hj2 => hj j (by omega)
    exact b_MSigns hN hp fun sa hm => b_MWords hB hp hm fun wf wt9 lk hW hA => b_MSent hB hp hm (fun w hw => (hW w hw).1) hA fun so0 fr to hwa hS hF hH => b_MMatches hB hp hm hW hS hY fun mi mf9 ml9 im hM => hq pg sa wf wt9 so0 lk fr to hwa mi mf9 ml9 im hp hm hW hS hA hF hH hM
  · by_cases e : j = i
    · rw [uI_e (by omega), Int.toNat_natCast, hT.2 i (by omega), sgb_and (hT.1.2 i (by omega)), e, hbt i (by omega)]
    · rw [uI_n (by omega) (by omega)]; exact hj j (by omega)
