/-! THE REFERENCE'S YEAR, what it ends with -/
theorem cy_2 {d : Nat} {q : Int → mzM → Prop} {w : Wd} {μ0 : mzM} {x3 x4 : Int} {o b dr : Nat} {W : Nat → Int} (hW : WOk w) (I : MW μ0 1 w) (ho : o < 4096) (hd : dr < 4096)
    (hq : ∀ μ', YF μ0 μ' → μ' 0 13 = o → μ' 0 14 = (dr ||| spS w (nd o b) (wN w) : Nat) → (∀ p, p < wN w → μ' 6 p = W p) → mzWp (d + 3) 38 309 [mzR 0, none, mzI b, mzI x3, mzI x4, none, none, mzI 0, none] [] μ' (mzQi q)) :
    ∀ (c p : Nat) (m : mzM), p + c = wN w → YF μ0 m → m 0 13 = o → m 0 14 = (dr ||| spS w (nd o b) p : Nat) → (∀ j, j < wN w → m 6 j = W j) → mzWp (d + 3) 38 232 [mzR 0, none, mzI b, mzI x3, mzI x4, none, none, mzI p, none] [] m (mzQi q) := by
  have hN := hW.1
  intro c
  induction c with
  | zero =>
    intro p m hp f e13 e14 e6
    have : p = wN w := by omega
    subst this
    have hm0 : m 1 0 = wN w := (f.mw I).1
    exact g38_232 _ _ _ _ _ ⟨by omega, fun _ => hq m f e13 e14 e6, fun z => by omega⟩
  | succ c ih =>
    intro p m hp f e13 e14 e6
    have hpn : p < wN w := by omega
    have p12 : p < 12 := by omega
    have Im := f.mw I
    have hm0 : m 1 0 = wN w := Im.1
    have ew : mzW ((p : Int) + 1) = ((p + 1 : Nat) : Int) := w1 (by omega)
    have ol : dr ||| spS w (nd o b) p < 4096 := Nat.or_lt_two_pow (n := 12) hd (Nat.lt_of_lt_of_le (spS_lt hW (nd o b) p (by omega)) (pow12 hN))
    have skip : ¬ (wT w p 0 = 4 ∧ (nd o b).testBit p = true ∧ 0 ≤ wT w p 7) → mzWp (d + 3) 38 232 [mzR 0, none, mzI b, mzI x3, mzI x4, none, none, mzI (mzW ((p : Int) + 1)), none] [] m (mzQi q) := by
      intro a
      rw [ew]
      refine ih (p + 1) m (by omega) f e13 ?_ e6
      rw [e14, spS, if_neg a, Nat.or_zero]
    refine g38_232 _ _ _ _ _ ⟨by omega, fun z => by omega, fun _ => c_of (t := 0) p12 (by omega) ?_⟩
    rw [Im.T hpn (by omega), e13, nNot (by omega)]
    have nl : nd o b < 4096 := nd_lt ho
    refine ⟨fun z => skip (fun a => z a.1), fun z => c_has (by omega) (by omega) (fun t => ⟨fun z => absurd z (by decide), fun _ => c_of (t := 7) p12 (by omega) ?_⟩) (fun t => ⟨fun _ => skip (fun a => by rw [t] at a; exact absurd a.2.1 (by decide)), fun z => absurd rfl z⟩)⟩
    rw [Im.T hpn (by omega)]
    refine ⟨fun z7 => skip (fun a => by have := a.2.2; omega), fun z7 => c_of (t := 7) p12 (by omega) ?_⟩
    rw [Im.T hpn (by omega)]
    obtain ⟨k, hk⟩ : ∃ k : Nat, wT w p 7 = k := ⟨_, (Int.toNat_of_nonneg z7).symm⟩
    have kb := (hW.T hpn (t := 7) (by omega)).2
    have e : thi (wN w) 7 = (wN w : Int) - 1 := by simp [thi]
    have kl : k < 12 := by omega
    have hp2 : 2 ^ k < 4096 := by have := Nat.pow_lt_pow_right (a := 2) (by omega) kl; omega
    rw [hk, e14, nPow (by omega), nOr (by omega) (by omega), ew]
    refine ih (p + 1) _ (by omega) (f.st (by omega)) (by rw [S_ne (by omega)]; exact e13) ?_ (fun j hj => by rw [S_ne (by omega)]; exact e6 j hj)
    rw [S_eq, spS, if_pos ⟨z, t, z7⟩, hk, Int.toNat_natCast, Nat.or_assoc]
theorem cy_3 {d : Nat} {q : Int → mzM → Prop} {w : Wd} {μ0 : mzM} {x4 : Int} {o b dr x3 : Nat} {W : Nat → Int} (hW : WOk w) (I : MW μ0 1 w) (ho : o < 4096) (hd : dr < 4096)
    (hq : ∀ r μ', YF μ0 μ' → μ' 0 13 = (nd o dr : Nat) → μ' 0 14 = dr → (∀ p, p < wN w → μ' 6 p = if dr.testBit p = true then 0 else W p) → (r = 0 → x4 = 0 ∧ nd o dr = b ∧ dr = x3) → q r μ') :
    ∀ (c p : Nat) (m : mzM), p + c = wN w → YF μ0 m → m 0 13 = o → m 0 14 = dr → (∀ j, j < wN w → m 6 j = if j < p ∧ dr.testBit j = true then 0 else W j) → mzWp (d + 3) 38 309 [mzR 0, none, mzI b, mzI x3, mzI x4, none, none, mzI p, none] [] m (mzQi q) := by
  have hN := hW.1
  intro c
  induction c with
  | zero =>
    intro p m hp f e13 e14 e6
    have : p = wN w := by omega
    subst this
    have hm0 : m 1 0 = wN w := (f.mw I).1
    have ea : mzAnd (m 0 13) (mzXor (m 0 14) (-1)) = (nd o dr : Nat) := by rw [e13, e14, nNot (by omega)]
    have fin : ∀ r, (r = 0 → x4 = 0 ∧ nd o dr = b ∧ dr = x3) → q r (mzS m 0 13 (mzAnd (m 0 13) (mzXor (m 0 14) (-1)))) := by
      intro r hr
      refine hq r _ (f.st (by omega)) (by rw [S_eq]; exact ea) (by rw [S_ne (by omega)]; exact e14) (fun j hj => ?_) hr
      rw [S_ne (by omega), e6 j hj]
      by_cases c : dr.testBit j = true
      · rw [if_pos ⟨hj, c⟩, if_pos c]
      · rw [if_neg (fun a => c a.2), if_neg c]
    refine g38_309 _ _ _ _ _ ⟨by omega, fun _ => ⟨fun z => ⟨or10, fin 1 (fun c => absurd c (by decide))⟩, fun z => ⟨fun z2 => ⟨or10, fin 1 (fun c => absurd c (by decide))⟩, fun z2 => ⟨fun z3 => ⟨or00, fin 0 (fun _ => ⟨z, ?_, ?_⟩)⟩, fun z3 => ⟨or10, fin 1 (fun c => absurd c (by decide))⟩⟩⟩⟩, fun z => by omega⟩
    · rw [ea] at z2; exact Int.ofNat.inj z2
    · rw [e14] at z3; exact Int.ofNat.inj z3
  | succ c ih =>
    intro p m hp f e13 e14 e6
    have hpn : p < wN w := by omega
    have hm0 : m 1 0 = wN w := (f.mw I).1
    have ew : mzW ((p : Int) + 1) = ((p + 1 : Nat) : Int) := w1 (by omega)
    refine g38_309 _ _ _ _ _ ⟨by omega, fun z => by omega, fun _ => ?_⟩
    rw [e14]
    refine c_has (by omega) (by omega) (fun t => ⟨fun z => absurd z (by decide), fun _ => ⟨by omega, ?_⟩⟩) (fun t => ⟨fun _ => ?_, fun z => absurd rfl z⟩)
    · rw [ew, Int.toNat_natCast]
      refine ih (p + 1) _ (by omega) (f.st (by omega)) (by rw [S_ne (by omega)]; exact e13) (by rw [S_ne (by omega)]; exact e14) (fun j hj => ?_)
      by_cases cj : j = p
      · rw [cj, S_eq, if_pos ⟨by omega, t⟩]
      · rw [S_ne (by omega), e6 j hj]
        by_cases c2 : j < p
        · by_cases c3 : dr.testBit j = true
          · rw [if_pos ⟨c2, c3⟩, if_pos ⟨by omega, c3⟩]
          · rw [if_neg (fun a => c3 a.2), if_neg (fun a => c3 a.2)]
        · rw [if_neg (fun a => c2 a.1), if_neg (fun a => by omega)]
    · rw [ew]
      refine ih (p + 1) _ (by omega) f e13 e14 (fun j hj => ?_)
      rw [e6 j hj]
      by_cases cj : j = p
      · rw [cj, t, if_neg (fun a => absurd a.2 (by decide)), if_neg (fun a => absurd a.2 (by decide))]
      · by_cases c2 : j < p
        · by_cases c3 : dr.testBit j = true
          · rw [if_pos ⟨c2, c3⟩, if_pos ⟨by omega, c3⟩]
          · rw [if_neg (fun a => c3 a.2), if_neg (fun a => c3 a.2)]
        · rw [if_neg (fun a => c2 a.1), if_neg (fun a => by omega)]
-- one that is drowned
theorem dr_th {h pu p : Nat} {st : St} (h1 : st.1.testBit p = false) (h2 : st.2.1.testBit p = true) : (thS h pu st).testBit p = false := by
  unfold thS
  rw [Nat.testBit_or, nd_bit, h1, h2]
  simp
theorem dr_o {w : Wd} {H : Nat → Int} {h pu p : Nat} {st : St} (h1 : st.1.testBit p = false) (h2 : st.2.1.testBit p = true) : o1b w H h pu st p = false := by
  unfold o1b
  rw [dr_th h1 h2, if_neg (by decide), Nat.testBit_or, h2]
  simp
theorem dr_w {w : Wd} {H : Nat → Int} {h pu p : Nat} {st : St} (h1 : st.1.testBit p = false) (h2 : st.2.1.testBit p = true) : w1S w H h pu st p = st.2.2 p := by
  unfold w1S
  rw [dr_th h1 h2, if_neg (by decide), Nat.testBit_or, h2, if_pos (by simp)]
theorem nd_dr {w : Wd} {H : Nat → Int} {h pu : Nat} {st : St} {s : Nat} (hy : YI (wN w) st) : nd (o1S w H h pu st) (st.2.1 ||| s) = nd (o1S w H h pu st) s := by
  refine Nat.eq_of_testBit_eq (fun i => ?_)
  rw [nd_bit, nd_bit, Nat.testBit_or]
  cases hd : st.2.1.testBit i with
  | false => simp
  | true =>
    unfold o1S
    rw [mk_bit, dr_o (hy.2.2.1 i hd) hd]
    simp
/-- a year in which nothing moves -/
theorem th0 {h : Nat} {st : St} : thS h 0 st = st.1 := by
  unfold thS
  refine Nat.eq_of_testBit_eq (fun i => ?_)
  rw [Nat.testBit_or, nd_bit, nd_bit]
  simp
theorem yr_same {w : Wd} {H : Nat → Int} {h : Nat} {st : St} (hy : YI (wN w) st) (e1 : nd (o1S w H h 0 st) (st.2.1 ||| spS w (nd (o1S w H h 0 st) st.1) (wN w)) = st.1) (e2 : st.2.1 ||| spS w (nd (o1S w H h 0 st) st.1) (wN w) = st.2.1) (e3 : ∀ p, p < wN w → (thS h 0 st).testBit p = false → (h ||| st.2.1).testBit p = false → w1S w H h 0 st p = st.2.2 p) : yrS w H h 0 st = st := by
  rw [nd_dr hy] at e1
  unfold yrS
  refine Prod.ext e1 (Prod.ext e2 (funext fun p => ?_))
  show (if p < wN w then _ else _) = _
  by_cases hp : p < wN w
  · rw [if_pos hp]
    by_cases hs : (spS w (nd (o1S w H h 0 st) st.1) (wN w)).testBit p = true
    · rw [if_pos hs]
      have hd : st.2.1.testBit p = true := by
        rw [← e2, Nat.testBit_or, hs]
        simp
      exact (hy.2.2.2 p hp hd).symm
    · rw [if_neg hs]
      obtain ⟨R1, R2, R3, R4, R5, R6⟩ := yr_R w H h 0 st p hp
      cases ht : (thS h 0 st).testBit p with
      | true =>
        cases fa : faS w p (thS h 0 st) with
        | false => exact (R3 ht (Nat.zero_testBit p) fa).2
        | true =>
          exfalso
          have o0 := (R2 ht (Nat.zero_testBit p) fa).1
          have : st.1.testBit p = true := by rw [← th0 (h := h)]; exact ht
          rw [← e1, nd_bit] at this
          unfold o1S at this
          rw [mk_bit, o0] at this
          simp at this
      | false =>
        cases hd : (h ||| st.2.1).testBit p with
        | true => exact (R4 ht hd).2
        | false => exact e3 p hp ht hd
  · rw [if_neg hp]
/-- the second and third loop together -/
theorem cy_23 {d : Nat} {q : Int → mzM → Prop} {w : Wd} {μ0 μ1 : mzM} {x4 : Int} {o b dr : Nat} {W : Nat → Int} (hW : WOk w) (I : MW μ0 1 w) (ho : o < 4096) (hd : dr < 4096) (f1 : YF μ0 μ1) (a13 : μ1 0 13 = o) (a14 : μ1 0 14 = dr) (a6 : ∀ p, p < wN w → μ1 6 p = W p)
    (hq : ∀ r μ', YF μ0 μ' → μ' 0 13 = (nd o (dr ||| spS w (nd o b) (wN w)) : Nat) → μ' 0 14 = (dr ||| spS w (nd o b) (wN w) : Nat) → (∀ p, p < wN w → μ' 6 p = if (dr ||| spS w (nd o b) (wN w)).testBit p = true then 0 else W p) → (r = 0 → x4 = 0 ∧ nd o (dr ||| spS w (nd o b) (wN w)) = b ∧ dr ||| spS w (nd o b) (wN w) = dr) → q r μ') : mzWp (d + 3) 38 232 [mzR 0, none, mzI b, mzI dr, mzI x4, none, none, mzI 0, none] [] μ1 (mzQi q) := by
  have p1 := pow12 hW.1
  have sl := Nat.lt_of_lt_of_le (spS_lt hW (nd o b) (wN w) (Nat.le_refl _)) p1
  have dl : dr ||| spS w (nd o b) (wN w) < 4096 := Nat.or_lt_two_pow (n := 12) hd sl
  refine cy_2 (x3 := dr) hW I ho hd (fun μ2 f2 b13 b14 b6 => ?_) (wN w) 0 μ1 (Nat.zero_add _) f1 a13 (by rw [a14]; show _ = ((dr ||| 0 : Nat) : Int); rw [Nat.or_zero]) a6
  exact cy_3 hW I ho dl hq (wN w) 0 μ2 (Nat.zero_add _) f2 b13 b14 (fun j hj => by rw [b6 j hj, if_neg (fun a => Nat.not_lt_zero _ a.1)])
theorem c_year {d : Nat} {q : Int → mzM → Prop} {w : Wd} {H : Nat → Int} {h pu : Nat} {st : St} {μ : mzM} (hW : WOk w) (I : MW μ 1 w) (hH : HM μ (wN w) H) (hh : h < 4096) (hpu : pu < 2 ^ wN w) (hy : YI (wN w) st) (Y : YM μ (wN w) h st)
    (hq : ∀ r μ', YF μ μ' → YM μ' (wN w) h (yrS w H h pu st) → (r = 0 → pu = 0 → yrS w H h pu st = st) → q r μ') : mzCl (d + 3) 38 [mzR 0, mzI pu] μ (mzQi q) := by
  have p1 := pow12 hW.1
  have pl : pu < 4096 := Nat.lt_of_lt_of_le hpu p1
  have sl : st.1 < 4096 := Nat.lt_of_lt_of_le hy.1 p1
  have dl : st.2.1 < 4096 := Nat.lt_of_lt_of_le hy.2.1 p1
  have t2 := thS_lt (h := h) hy.1 hpu
  have tl : thS h pu st < 4096 := Nat.lt_of_lt_of_le t2 p1
  have ol : o1S w H h pu st < 4096 := Nat.lt_of_lt_of_le (mk_lt _ _) p1
  refine g38_e _ _ ?_
  have eth : mzOr (μ 0 13) (mzAnd (mzAnd (pu : Int) (mzXor (μ 0 15) (-1))) (mzXor (μ 0 14) (-1))) = (thS h pu st : Nat) := by
    have n1 : nd pu h < 4096 := nd_lt pl
    have n2 : nd (nd pu h) st.2.1 < 4096 := nd_lt n1
    rw [Y.1, Y.2.1, Y.2.2.1, nNot (by omega), nNot (by omega), nOr (by omega) (by omega)]
    rfl
  rw [eth, Y.1, Y.2.1]
  have C0 : CyI μ (wN w) h (thS h pu st) (o1b w H h pu st) (w1S w H h pu st) st 0 0 (mzS μ 0 13 (thS h pu st : Nat)) := ⟨YF.rf.st (Or.inr ⟨rfl, Or.inl rfl⟩), by rw [S_eq, oP_0 t2], by rw [S_ne (Or.inr (by decide))]; exact Y.2.1, by rw [S_ne (Or.inr (by decide))]; exact Y.2.2.1, fun j hj => by rw [S_ne (Or.inl (by decide)), if_neg (Nat.not_lt_zero _)]; exact Y.2.2.2 j hj, fun _ j hj => absurd hj (Nat.not_lt_zero _)⟩
  refine cy_l hW I hH hh pl tl dl (yr_R w H h pu st) (fun x4 μ1 C => ?_) (wN w) 0 0 _ (Nat.zero_add _) C0
  obtain ⟨f1, a13, a14, -, a6, a4⟩ := C
  have a13 : μ1 0 13 = (o1S w H h pu st : Nat) := by rw [a13, oP_n]; rfl
  have a6 : ∀ p, p < wN w → μ1 6 p = w1S w H h pu st p := fun p hp => by rw [a6 p hp, if_pos hp]
  refine cy_23 (o := o1S w H h pu st) hW I ol dl f1 a13 a14 a6 (fun r μ3 f3 c13 c14 c6 c4 => ?_)
  refine hq r μ3 f3 ⟨?_, c14, ?_, fun p hp => ?_⟩ (fun r0 pu0 => ?_)
  · rw [c13, nd_dr hy]; rfl
  · rw [f3 0 15 (by decide) (Or.inr (by decide))]; exact Y.2.2.1
  · rw [c6 p hp]
    show _ = if p < wN w then (if (spS w (nd (o1S w H h pu st) st.1) (wN w)).testBit p = true then 0 else w1S w H h pu st p) else st.2.2 p
    rw [if_pos hp, Nat.testBit_or]
    cases hd2 : st.2.1.testBit p with
    | false => simp
    | true =>
      rw [dr_w (hy.2.2.1 p hd2) hd2, hy.2.2.2 p hp hd2]
      simp
  · obtain ⟨x0, n0, d0⟩ := c4 r0
    subst pu0
    exact yr_same hy n0 d0 (a4 x0)
