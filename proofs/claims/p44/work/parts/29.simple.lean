/-! PAIRS: small calls -/
theorem MI.bec {μ : mzM} {w' : Wd} {j : Nat} {v : Int} (h : MW (mzS μ 1 j v) 1 w') : MI (mzS (mzS μ 1 j v) 0 4 0) w' := ⟨h.st0, Or.inl S_eq⟩
theorem c_bec {d : Nat} {q : Int → mzM → Prop} {a : Int} {j : Nat} {v : Int} {μ : mzM} {w' : Wd} (ha : a = j) (hj : j < 318) (h : MW (mzS μ 1 j v) 1 w') (hq : ∀ μ', FM μ μ' → MI μ' w' → (∀ k i, k ≠ 0 → (k ≠ 1 ∨ i ≠ j) → μ' k i = μ k i) → q (μ 1 j) μ') : mzCl d 24 [mzR 0, mzI a, mzI v] μ (mzQi q) := by
  subst ha
  refine g24_e _ _ _ ?_
  rw [Int.toNat_natCast]
  exact ⟨⟨by omega, by omega⟩, ⟨by omega, by omega⟩, or00, hq _ ((FM.rf.st (by unfold scM; omega)).st (by unfold scM; omega)) (MI.bec h) (fun k i h1 h2 => by rw [S_ne (by omega), S_ne (by omega)])⟩
/-- what one world's numbers say of 0 -/
theorem WOk.T {w : Wd} (h : WOk w) {p t : Nat} (hp : p < wN w) (ht : t < 10) : tlo t ≤ wT w p t ∧ wT w p t ≤ thi (wN w) t := h.2.2.2.2.1 p hp t ht
theorem setT_ok {w : Wd} {p t : Nat} {v : Int} (h : WOk w) (ht : t < 10) (hv : tlo t ≤ v ∧ v ≤ thi (wN w) t) : WOk (setT w p t v) := by
  obtain ⟨h0, h1, h2, h3, h4, h5, h6, h7, h8, h9⟩ := h
  refine ⟨h0, h1, h2, h3, fun a ha c hc => ?_, h5, h6, h7, h8, h9⟩
  show tlo c ≤ (if a = p ∧ c = t then v else wT w a c) ∧ (if a = p ∧ c = t then v else wT w a c) ≤ thi (wN w) c
  by_cases e : a = p ∧ c = t
  · rw [if_pos e, e.2]; exact hv
  · rw [if_neg e]; exact h4 a ha c hc
theorem hB_bit {T : Nat → Nat → Int} {n p : Nat} (hp : p < n) : (hB T n).testBit p = decide (T p 9 ≠ 0) := by rw [hB_mk, mk_bit, decide_eq_true hp]; rfl
theorem hw_lt {w : Wd} (h : WOk w) : hw w < 4096 := Nat.lt_of_lt_of_le (hB_lt _ _) (pow12 h.1)
theorem T9 {w : Wd} (h : WOk w) {p : Nat} (hp : p < wN w) : wT w p 9 = if (hw w).testBit p then 1 else 0 := by
  have := h.T hp (t := 9) (by omega)
  have e1 : tlo 9 = 0 := rfl
  have e2 : thi (wN w) 9 = 1 := by simp [thi]
  rw [hB_bit hp]
  by_cases c : wT w p 9 = 0
  · rw [decide_eq_false (by omega)]; exact c
  · rw [decide_eq_true c]
    show wT w p 9 = 1
    omega
-- heights
theorem c_height {d : Nat} {q : Int → mzM → Prop} {p : Nat} {μ : mzM} {b : Int} {w : Wd} (hp : p < 12) (h0 : μ 1 (4 + 10 * p + 0) = wT w p 0) (h1 : μ 1 (4 + 10 * p + 1) = b) (h8 : μ 1 (4 + 10 * p + 8) = wT w p 8) (hb : 1 ≤ b ∧ b ≤ 99) (hs : 0 ≤ wT w p 8 ∧ wT w p 8 ≤ 9) (h : q (heS w p b) μ) : mzCl (d + 1) 21 [mzR 0, mzI p] μ (mzQi q) := by
  have c1 : ∀ {q' : Int → mzM → Prop}, q' b μ → mzCl d 5 [mzR 0, mzI p, mzI 1] μ (mzQi q') := fun z => c_of (t := 1) hp (by omega) (by rw [h1]; exact z)
  have c0 : ∀ {q' : Int → mzM → Prop}, q' (wT w p 0) μ → mzCl d 5 [mzR 0, mzI p, mzI 0] μ (mzQi q') := fun z => c_of (t := 0) hp (by omega) (by rw [h0]; exact z)
  have c8 : ∀ {q' : Int → mzM → Prop}, q' (wT w p 8) μ → mzCl d 5 [mzR 0, mzI p, mzI 8] μ (mzQi q') := fun z => c_of (t := 8) hp (by omega) (by rw [h8]; exact z)
  have ed : mzDiv b 2 = b / 2 := by
    have := nDiv2 b.toNat (by omega)
    rw [show ((b.toNat : Nat) : Int) = b by omega] at this
    omega
  have ew : mzW (b - mzW (10 * wT w p 8)) = b - 10 * wT w p 8 := by unfold mzW; omega
  unfold heS at h
  refine g21_e _ _ (c1 (c0 ⟨fun z => c0 ⟨fun z2 => ⟨fun z3 => ?_, fun z3 => ?_⟩, fun z2 => c8 ⟨fun z3 => ?_, fun z3 => ?_⟩⟩, fun z => ⟨by decide, fun z3 => ?_, fun z3 => ?_⟩⟩))
  · rw [if_neg z, if_neg z2, if_neg (by omega)] at h; exact h
  · omega
  · rw [ew] at z3 ⊢
    rw [if_neg z, if_pos z2, if_neg (by omega)] at h; exact h
  · rw [ew] at z3
    rw [if_neg z, if_pos z2, if_pos (by omega)] at h; exact h
  · rw [ed] at z3 ⊢
    rw [if_pos z, if_neg (by omega)] at h; exact h
  · rw [ed] at z3
    rw [if_pos z, if_pos (by omega)] at h; exact h
theorem k_heightOf {d : Nat} {q : Int → mzM → Prop} {p : Nat} {μ : mzM} {b : Int} {w : Wd} (hp : p < 12) (h0 : μ (52 + p) 0 = wT w p 0) (h8 : μ (52 + p) 8 = wT w p 8) (hb : 1 ≤ b ∧ b ≤ 99) (hs : 0 ≤ wT w p 8 ∧ wT w p 8 ≤ 9) (h : q (heS w p b) μ) : mzCl (d + 1) 97 [mzR 26, mzI p, mzI b] μ (mzQi q) := by
  have ed : mzDiv b 2 = b / 2 := by
    have := nDiv2 b.toNat (by omega)
    rw [show ((b.toNat : Nat) : Int) = b by omega] at this
    omega
  have ew : mzW (b - mzW (10 * wT w p 8)) = b - 10 * wT w p 8 := by unfold mzW; omega
  unfold heS at h
  refine g97_e _ _ _ ⟨by omega, ⟨by omega, by omega, by omega⟩, ?_⟩
  rw [Int.toNat_natCast, h0, h8, ew, ed]
  refine ⟨fun z => ⟨by omega, ⟨hp, by omega, by omega⟩, ?_⟩, fun z => ⟨fun z2 => ⟨by decide, ?_⟩, fun z2 => ?_⟩⟩
  · rw [if_neg (by omega), if_pos z] at h
    unfold mzMx
    by_cases c : b - 10 * wT w p 8 < 1
    · rw [if_pos c] at h
      by_cases c2 : (1 : Int) < b - 10 * wT w p 8
      · omega
      · rw [if_neg c2]; exact h
    · rw [if_neg c] at h
      by_cases c2 : (1 : Int) < b - 10 * wT w p 8
      · rw [if_pos c2]; exact h
      · rw [if_neg c2, show (1 : Int) = b - 10 * wT w p 8 by omega]; exact h
  · rw [if_pos z2] at h
    unfold mzMx
    by_cases c : b / 2 < 1
    · rw [if_pos c] at h
      by_cases c2 : (1 : Int) < b / 2
      · omega
      · rw [if_neg c2]; exact h
    · rw [if_neg c] at h
      by_cases c2 : (1 : Int) < b / 2
      · rw [if_pos c2]; exact h
      · rw [if_neg c2, show (1 : Int) = b / 2 by omega]; exact h
  · rw [if_neg z2, if_neg z, if_neg (by omega)] at h; exact h
/-- placeOf -/
def poS (w : Wd) (p t : Int) : Int × Wd := if (0 ≤ p ∧ p < wN w) ∧ 0 ≤ t ∧ t ≤ 10 then (if t = 9 then heS w p.toNat (wT w p.toNat 1) else if t = 10 then wT w p.toNat 9 else wT w p.toNat t.toNat, w) else (-1000001, w)
theorem poS_w (w : Wd) (p t : Int) : (poS w p t).2 = w := by unfold poS; split <;> rfl
theorem MW.T {μ : mzM} {a : Nat} {w : Wd} (h : MW μ a w) {p t : Nat} (hp : p < wN w) (ht : t < 10) : μ a (4 + 10 * p + t) = wT w p t := h.2.2.2.2.1 p t hp ht
theorem CW.T {μ : mzM} {w : Wd} (h : CW μ 0 w) {p t : Nat} (hp : p < wN w) (ht : t < 9) : μ (52 + p) t = wT w p t := h.2.2.2.2.2.1 p t hp ht
theorem T1_ok {w : Wd} (h : WOk w) {p : Nat} (hp : p < wN w) : 1 ≤ wT w p 1 ∧ wT w p 1 ≤ 99 := h.T hp (t := 1) (by omega)
theorem T8_ok {w : Wd} (h : WOk w) {p : Nat} (hp : p < wN w) : 0 ≤ wT w p 8 ∧ wT w p 8 ≤ 9 := h.T hp (t := 8) (by omega)
theorem c_placeOf {d : Nat} {q : Int → mzM → Prop} {p t : Int} {μ : mzM} {w : Wd} (hW : WOk w) (I : MI μ w) (h : ∀ μ', FM μ μ' → MI μ' (poS w p t).2 → q (poS w p t).1 μ') : mzCl (d + 2) 22 [mzR 0, mzI p, mzI t] μ (mzQi q) := by
  rw [poS_w] at h
  unfold poS at h
  refine g22_e _ _ _ (c_isPlace I.1.1 hW.1 (fun a1 a2 => ⟨fun z => absurd z (by decide), fun _ => c_in (fun b1 b2 => ⟨fun _ => ⟨fun z1 => ⟨fun z2 => ?_, fun z2 => ?_⟩, fun z1 => ?_⟩, fun z => absurd z (by decide)⟩) (fun b => ⟨fun z => absurd rfl z, fun _ => c_fd (by omega) I ?_⟩)⟩) (fun a => ⟨fun _ => c_fd (by omega) I ?_, fun z => absurd rfl z⟩))
  · obtain ⟨p, rfl⟩ : ∃ n : Nat, p = n := ⟨p.toNat, by omega⟩
    rw [if_pos ⟨⟨a1, a2⟩, b1, b2⟩, if_neg z2, if_pos (by omega)] at h
    exact c_of (t := 9) (by have := hW.1; omega) (by omega) (by rw [I.1.T (by omega) (by omega)]; exact h μ FM.rf I)
  · obtain ⟨p, rfl⟩ : ∃ n : Nat, p = n := ⟨p.toNat, by omega⟩
    rw [if_pos ⟨⟨a1, a2⟩, b1, b2⟩, if_pos z2] at h
    have hp : p < wN w := by omega
    exact c_height (by have := hW.1; omega) (I.1.T hp (by omega)) (I.1.T hp (by omega)) (I.1.T hp (by omega)) (T1_ok hW hp) (T8_ok hW hp) (h μ FM.rf I)
  · obtain ⟨p, rfl⟩ : ∃ n : Nat, p = n := ⟨p.toNat, by omega⟩
    obtain ⟨t, rfl⟩ : ∃ n : Nat, t = n := ⟨t.toNat, by omega⟩
    rw [if_pos ⟨⟨a1, a2⟩, b1, b2⟩, if_neg (by omega), if_neg (by omega)] at h
    exact c_of (by have := hW.1; omega) (by omega) (by rw [I.1.T (by omega) (by omega)]; exact h μ FM.rf I)
  · rw [if_neg (by omega)] at h; exact h
  · rw [if_neg (by omega)] at h; exact h
theorem k_placeOf {d : Nat} {q : Int → mzM → Prop} {p t : Int} {μ : mzM} {w : Wd} (hW : WOk w) (C : CW μ 0 w) (h : ∀ μ', FC μ μ' → CW μ' 0 (poS w p t).2 → q (poS w p t).1 μ') : mzCl (d + 2) 132 [mzR 14, mzI p, mzI t] μ (mzQi q) := by
  rw [poS_w] at h
  unfold poS at h
  have fd : ¬ ((0 ≤ p ∧ p < wN w) ∧ 0 ≤ t ∧ t ≤ 10) → mzCl (d + 1) 173 [mzR 14, mzI (-1000001)] μ (mzQi q) := fun c => k_fd (by omega) hW.1 C (by rw [if_neg c] at h; exact h)
  refine g132_e _ _ _ (k_isPlace C.1 (fun a1 a2 => ⟨fun z => absurd z (by decide), fun _ => ⟨fun z => fd (by omega), fun b1 => ⟨fun b2 => ⟨fun z1 => ⟨fun z2 => ⟨by have := hW.1; omega, ?_⟩, fun z2 => ?_⟩, fun z1 => ⟨by have := hW.1; omega, ?_⟩⟩, fun z => fd (by omega)⟩⟩⟩) (fun a => ⟨fun _ => fd (by omega), fun z => absurd rfl z⟩))
  · obtain ⟨p, rfl⟩ : ∃ n : Nat, p = n := ⟨p.toNat, by omega⟩
    obtain ⟨t, rfl⟩ : ∃ n : Nat, t = n := ⟨t.toNat, by omega⟩
    rw [if_pos ⟨⟨a1, a2⟩, b1, b2⟩, if_neg z1, if_neg z2] at h
    rw [Int.toNat_natCast, Int.toNat_natCast]
    exact ⟨⟨by have := hW.1; omega, by omega, by omega⟩, by rw [C.T (by omega) (by omega)]; exact h μ FC.rf C⟩
  · obtain ⟨p, rfl⟩ : ∃ n : Nat, p = n := ⟨p.toNat, by omega⟩
    have hp : p < wN w := by omega
    rw [if_pos ⟨⟨a1, a2⟩, b1, b2⟩, if_neg (by omega), if_pos z2, Int.toNat_natCast, T9 hW hp] at h
    have e3 : μ 26 3 = (hw w : Int) := C.2.2.2.1
    rw [e3, nBit (by have := hw_lt hW; omega) (by have := hW.1; omega)]
    exact h μ FC.rf C
  · obtain ⟨p, rfl⟩ : ∃ n : Nat, p = n := ⟨p.toNat, by omega⟩
    have hp : p < wN w := by omega
    rw [if_pos ⟨⟨a1, a2⟩, b1, b2⟩, if_pos z1] at h
    rw [Int.toNat_natCast, C.T hp (by omega)]
    exact ⟨⟨by have := hW.1; omega, by omega, by omega⟩, k_heightOf (by have := hW.1; omega) (C.T hp (by omega)) (C.T hp (by omega)) (T1_ok hW hp) (T8_ok hW hp) (h μ FC.rf C)⟩
theorem p_placeOf {d : Nat} {μ : mzM} {w : Wd} {q : Int → Int → mzM → Prop} {p t : Int} (R : RW μ w) (h : ∀ a μ' w', RW μ' w' → q a a μ') : mzCl (d + 2) 132 [mzR 14, mzI p, mzI t] μ (mzQi fun a m1 => mzCl (d + 2) 22 [mzR 0, mzI p, mzI t] m1 (mzQi fun c m2 => q a c m2)) :=
  pair (poS w p t) R (by rw [poS_w]; exact R.1) (fun q' z => k_placeOf R.1 R.2.2.1 z) (fun m1 q' _ I z => c_placeOf R.1 I z) h
