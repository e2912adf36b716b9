/-! THE REFERENCE'S YEARS -/
theorem c_heldNow {d : Nat} {q : Int → mzM → Prop} {μ : mzM} {w : Wd} (hW : WOk w) (I : MW μ 1 w) (h : q (hw w) μ) : mzCl (d + 1) 32 [mzR 0] μ (mzQi q) := by
  have hN := hW.1
  have L : ∀ (c i : Nat) (x1 x2 : Int), i + c = wN w → x2 = i → x1 = hB (wT w) i → mzWp (d + 1) 32 4 [mzR 0, mzI x1, mzI x2] [] μ (mzQi q) := by
    intro c
    induction c with
    | zero =>
      intro i x1 x2 hi h2 h1
      have : i = wN w := by omega
      subst this
      exact g32_4 _ _ _ ⟨by omega, fun _ => by rw [h1]; exact h, fun z => by have := I.1; omega⟩
    | succ c ih =>
      intro i x1 x2 hi h2 h1
      subst h2
      have hb := lt4096 (hB_lt (wT w) i) (by omega)
      have t9 := T9 hW (p := i) (by omega)
      have hp2 : 2 ^ i < 4096 := by have := Nat.pow_lt_pow_right (a := 2) (by omega) (show i < 12 by omega); omega
      refine g32_4 _ _ _ ⟨by omega, fun z => by have := I.1; omega, fun _ => c_of (t := 9) (by omega) (by omega) ?_⟩
      rw [I.T (by omega) (by omega)]
      refine ih (i + 1) _ _ (by omega) (by rw [wid (by omega) (by omega)]; omega) ?_
      rw [h1, show hB (wT w) (i + 1) = hB (wT w) i ||| (if wT w i 9 = 0 then 0 else 2 ^ i) from rfl]
      by_cases c0 : wT w i 9 = 0
      · have e := nShl (a := 0) (p := i) (by omega) (by omega)
        rw [Nat.zero_mul] at e
        have e2 := nOr (a := hB (wT w) i) (b := 0) (by omega) (by omega)
        rw [c0, if_pos rfl, Nat.or_zero]
        rw [Nat.or_zero] at e2
        exact (congrArg _ e).trans e2
      · have e1 : wT w i 9 = 1 := by
          cases hc : (hw w).testBit i
          · rw [hc] at t9; exact absurd t9 c0
          · rw [hc] at t9; exact t9
        rw [if_neg c0, e1, nPow (by omega), nOr (by omega) (by omega)]
  exact g32_e _ (L (wN w) 0 0 0 (by omega) rfl rfl)
theorem c_gets {d : Nat} {q : Int → mzM → Prop} {p s : Nat} {μ : mzM} {w : Wd} (hW : WOk w) (I : MW μ 1 w) (hp : p < wN w) (hs : s < 4096) (h : q (gtS (wP w) p s (wN w)) μ) : mzCl (d + 1) 34 [mzR 0, mzI p, mzI s] μ (mzQi q) := by
  have hN := hW.1
  have L : ∀ (c i : Nat) (x3 x4 : Int), i + c = wN w → x4 = i → x3 = gtS (wP w) p s i → mzWp (d + 1) 34 5 [mzR 0, mzI p, mzI s, mzI x3, mzI x4] [] μ (mzQi q) := by
    intro c
    induction c with
    | zero =>
      intro i x3 x4 hi h4 h3
      have : i = wN w := by omega
      subst this
      exact g34_5 _ _ _ _ _ ⟨by omega, fun _ => by rw [h3]; exact h, fun z => by have := I.1; omega⟩
    | succ c ih =>
      intro i x3 x4 hi h4 h3
      subst h4
      have gb := gtS_bd hW.2.2.2.2.2.1 p s i
      have pb := hW.2.2.2.2.2.1 i p
      refine g34_5 _ _ _ _ _ ⟨by omega, fun z => by have := I.1; omega, fun _ => c_has (by omega) (by omega) (fun t => ⟨fun z => absurd z (by decide), fun _ => ?_⟩) (fun t => ⟨fun _ => ?_, fun z => absurd rfl z⟩)⟩
      · rw [w12c (by omega) (by omega), Int.toNat_natCast, I.P (by omega) hp]
        refine ⟨by omega, ih (i + 1) _ _ (by omega) (w1 (by omega)) ?_⟩
        rw [gtS, if_pos t, h3, wid (by omega) (by omega)]
      · refine ih (i + 1) _ _ (by omega) (w1 (by omega)) ?_
        rw [gtS, if_neg (by rw [t]; decide), h3, wid (by omega) (by omega)]
  exact g34_e _ _ _ (L (wN w) 0 0 0 (by omega) rfl rfl)
theorem c_company {d : Nat} {q : Int → mzM → Prop} {p s : Nat} {μ : mzM} {w : Wd} (hW : WOk w) (I : MW μ 1 w) (hp : p < wN w) (hs : s < 4096) (h : q (coS (wP w) p s (wN w)) μ) : mzCl (d + 1) 35 [mzR 0, mzI p, mzI s] μ (mzQi q) := by
  have hN := hW.1
  have L : ∀ (c i : Nat) (x3 x4 : Int), i + c = wN w → x4 = i → x3 = coS (wP w) p s i → mzWp (d + 1) 35 5 [mzR 0, mzI p, mzI s, mzI x3, mzI x4] [] μ (mzQi q) := by
    intro c
    induction c with
    | zero =>
      intro i x3 x4 hi h4 h3
      have : i = wN w := by omega
      subst this
      exact g35_5 _ _ _ _ _ ⟨by omega, fun _ => by rw [h3]; exact h, fun z => by have := I.1; omega⟩
    | succ c ih =>
      intro i x3 x4 hi h4 h3
      subst h4
      have cl := coS_le (wP w) p s i
      refine g35_5 _ _ _ _ _ ⟨by omega, fun z => by have := I.1; omega, fun _ => c_has (by omega) (by omega) (fun t => ⟨fun z => absurd z (by decide), fun _ => ?_⟩) (fun t => ⟨fun _ => ?_, fun z => absurd rfl z⟩)⟩
      · rw [w12c (by omega) (by omega), Int.toNat_natCast, I.P (by omega) hp]
        refine ⟨by omega, fun z => ih (i + 1) _ _ (by omega) (w1 (by omega)) ?_, fun z => ih (i + 1) _ _ (by omega) (w1 (by omega)) ?_⟩
        · rw [coS, if_neg (fun c => by omega), h3, wid (by omega) (by omega)]; omega
        · rw [coS, if_pos ⟨t, z⟩, h3, wid (by omega) (by omega)]; omega
      · refine ih (i + 1) _ _ (by omega) (w1 (by omega)) ?_
        rw [coS, if_neg (fun c => by rw [t] at c; exact absurd c.1 (by decide)), h3, wid (by omega) (by omega)]; omega
  exact g35_e _ _ _ (L (wN w) 0 0 0 (by omega) rfl rfl)
theorem c_goes {d : Nat} {q : Int → mzM → Prop} {p s : Nat} {H : Nat → Int} {μ : mzM} {w : Wd} (hW : WOk w) (I : MW μ 1 w) (hp : p < wN w) (hs : s < 4096) (hH : μ 7 p = H p) (h : q (if goS w H p s = true then 1 else 0) μ) : mzCl (d + 2) 36 [mzR 0, mzI p, mzI s] μ (mzQi q) := by
  have hN := hW.1
  unfold goS at h
  refine g36_e _ _ _ (c_gets hW I hp hs ⟨by omega, ?_⟩)
  rw [Int.toNat_natCast, hH]
  refine ⟨fun z => ⟨or00, ?_⟩, fun z => c_of (t := 0) (by omega) (by omega) ?_⟩
  · rw [decide_eq_false (by omega), Bool.false_and, if_neg (by decide)] at h; exact h
  · rw [decide_eq_true (by omega), Bool.true_and] at h
    rw [I.T hp (by omega)]
    refine ⟨fun z2 => ⟨or10, ?_⟩, fun z2 => c_company hW I hp hs ⟨fun z3 => ⟨or00, ?_⟩, fun z3 => ⟨or10, ?_⟩⟩⟩
    · rw [decide_eq_true z2, Bool.true_or, if_pos rfl] at h; exact h
    · rw [decide_eq_false (fun c => c z2), Bool.false_or, decide_eq_false (by omega), if_neg (by decide)] at h; exact h
    · rw [decide_eq_false (fun c => c z2), Bool.false_or, decide_eq_true (by omega), if_pos rfl] at h; exact h
theorem c_falls {d : Nat} {q : Int → mzM → Prop} {p s : Nat} {μ : mzM} {w : Wd} (hW : WOk w) (I : MW μ 1 w) (hp : p < wN w) (hs : s < 4096) (h : q (if faS w p s = true then 1 else 0) μ) : mzCl (d + 2) 37 [mzR 0, mzI p, mzI s] μ (mzQi q) := by
  have hN := hW.1
  unfold faS at h
  have of : ∀ {q' : Int → mzM → Prop} (t : Nat), t < 10 → q' (wT w p t) μ → mzCl (d + 1) 5 [mzR 0, mzI p, mzI t] μ (mzQi q') := fun t ht z => c_of (by omega) ht (by rw [I.T hp ht]; exact z)
  refine g37_e _ _ _ (of 0 (by omega) ⟨fun z => c_gets hW I hp hs (of 2 (by omega) ⟨fun z2 => ⟨or00, ?_⟩, fun z2 => ⟨or10, ?_⟩⟩), fun z => ⟨fun z2 => ⟨or00, ?_⟩, fun z2 => of 8 (by omega) ⟨fun z3 => ⟨or00, ?_⟩, fun z3 => c_gets hW I hp hs (of 2 (by omega) ⟨fun z4 => ⟨or00, ?_⟩, fun z4 => ⟨or10, ?_⟩⟩)⟩⟩⟩)
  · rw [decide_eq_false (by omega), if_neg (by decide)] at h; exact h
  · rw [decide_eq_true (by omega), if_pos rfl] at h; exact h
  · rw [decide_eq_false (by omega), if_neg (by decide)] at h; exact h
  · rw [decide_eq_false (by omega), if_neg (by decide)] at h; exact h
  · rw [decide_eq_false (by omega), if_neg (by decide)] at h; exact h
  · rw [decide_eq_true (by omega), if_pos rfl] at h; exact h
