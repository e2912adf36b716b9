/-! PAIRS: push, pushOf, clear, seed, spot, as -/
def piS (w : Wd) (y : Int) : Nat → Nat
  | 0 => 0
  | k + 1 => piS w y k ||| if wY w k = y then 2 ^ (wL w k).toNat else 0
theorem WOk.Pu {w : Wd} (h : WOk w) {i : Nat} (hi : i < wK w) : 0 ≤ wY w i ∧ wY w i ≤ 49 ∧ 0 ≤ wL w i ∧ wL w i < wN w := h.2.2.2.2.2.2.2.1 i hi
theorem piS_lt {w : Wd} (h : WOk w) (y : Int) : ∀ k, k ≤ wK w → piS w y k < 2 ^ wN w := by
  intro k
  induction k with
  | zero => intro _; exact Nat.pow_pos (by omega)
  | succ k ih =>
    intro hk
    unfold piS
    refine Nat.or_lt_two_pow (ih (by omega)) ?_
    have := h.Pu (i := k) (by omega)
    split
    · exact Nat.pow_lt_pow_right (by omega) (by omega)
    · exact Nat.pow_pos (by omega)
abbrev puS (w : Wd) (y : Int) : Nat := piS w y (wK w)
theorem lt4096 {a n : Nat} (h : a < 2 ^ n) (hn : n ≤ 12) : a < 4096 := Nat.lt_of_lt_of_le h (pow12 hn)
theorem puS_lt {w : Wd} (h : WOk w) (y : Int) : puS w y < 2 ^ wN w := piS_lt h y _ (Nat.le_refl _)
theorem MW.Y {μ : mzM} {a : Nat} {w : Wd} (h : MW μ a w) {i : Nat} (hi : i < wK w) : μ a (268 + 2 * i) = wY w i ∧ μ a (268 + 2 * i + 1) = wL w i := h.2.2.2.2.2.2.1 i hi
theorem CW.Y {μ : mzM} {w : Wd} (h : CW μ 0 w) {i : Nat} (hi : i < wK w) : μ 35 i = wY w i ∧ μ 38 i = wL w i := h.2.2.2.2.2.2.2.1 i hi
theorem CW.K {μ : mzM} {w : Wd} (h : CW μ 0 w) : μ 26 2 = wK w := h.2.2.1
theorem c_pushesOf {d : Nat} {q : Int → mzM → Prop} {y : Int} {μ : mzM} {w : Wd} (hW : WOk w) (I : MW μ 1 w) (h : q (puS w y) μ) : mzCl d 39 [mzR 0, mzI y] μ (mzQi q) := by
  have hN := hW.1
  have hK := hW.2.2.2.1
  have L : ∀ (c i : Nat) (x2 x3 : Int), i + c = wK w → x3 = i → x2 = piS w y i → mzWp d 39 4 [mzR 0, mzI y, mzI x2, mzI x3] [] μ (mzQi q) := by
    intro c
    induction c with
    | zero =>
      intro i x2 x3 hi h3 h2
      have : i = wK w := by omega
      subst this
      exact g39_4 _ _ _ _ ⟨by omega, fun _ => by rw [h2]; exact h, fun z => by have := I.2.2.1; omega⟩
    | succ c ih =>
      intro i x2 x3 hi h3 h2
      subst h3
      have e0 : mzW (268 + mzW (2 * (i : Int))) = ((268 + 2 * i : Nat) : Int) := by unfold mzW; omega
      have e1 : mzW (((268 + 2 * i : Nat) : Int) + 1) = ((268 + 2 * i + 1 : Nat) : Int) := by unfold mzW; omega
      have e2 : mzW ((i : Int) + 1) = ((i + 1 : Nat) : Int) := by rw [wid (by omega) (by omega)]; omega
      have hp := lt4096 (piS_lt hW y i (by omega)) hN
      have pu := hW.Pu (i := i) (by omega)
      obtain ⟨l, hl⟩ : ∃ l : Nat, wL w i = l := ⟨(wL w i).toNat, by omega⟩
      refine g39_4 _ _ _ _ ⟨by omega, fun z => by have := I.2.2.1; omega, fun _ => ?_⟩
      rw [e0, Int.toNat_natCast, e1, Int.toNat_natCast, (I.Y (by omega)).1, (I.Y (by omega)).2, e2, h2, hl, nPow (by omega)]
      have hp2 : 2 ^ l < 4096 := by have := Nat.pow_lt_pow_right (a := 2) (by omega) (show l < 12 by omega); omega
      refine ⟨by omega, fun z => ih (i + 1) _ _ (by omega) rfl ?_, fun z => ⟨by omega, ih (i + 1) _ _ (by omega) rfl ?_⟩⟩
      · have := nOr (a := piS w y i) (b := 0) (by omega) (by omega)
        rw [Nat.or_zero] at this
        rw [piS, if_neg z, Nat.or_zero]
        exact this
      · rw [nOr (by omega) (by omega), piS, if_pos z, hl, Int.toNat_natCast]
  exact g39_e _ _ (L (wK w) 0 _ _ (by omega) rfl rfl)
theorem k_pushedIn {d : Nat} {q : Int → mzM → Prop} {y : Int} {μ : mzM} {w : Wd} (hW : WOk w) (C : CW μ 0 w) (h : q (puS w y) μ) : mzCl d 98 [mzR 26, mzI y] μ (mzQi q) := by
  have hN := hW.1
  have hK := hW.2.2.2.1
  have eK := C.K
  have L : ∀ (c i : Nat) (x2 x3 : Int), i + c = wK w → x3 = i → x2 = piS w y i → mzWp d 98 4 [mzR 26, mzI y, mzI x2, mzI x3] [] μ (mzQi q) := by
    intro c
    induction c with
    | zero =>
      intro i x2 x3 hi h3 h2
      have : i = wK w := by omega
      subst this
      exact g98_4 _ _ _ _ ⟨fun _ => by rw [h2]; exact h, fun z => by omega⟩
    | succ c ih =>
      intro i x2 x3 hi h3 h2
      subst h3
      have e2 : mzW ((i : Int) + 1) = ((i + 1 : Nat) : Int) := by rw [wid (by omega) (by omega)]; omega
      have hp := lt4096 (piS_lt hW y i (by omega)) hN
      have pu := hW.Pu (i := i) (by omega)
      obtain ⟨l, hl⟩ : ∃ l : Nat, wL w i = l := ⟨(wL w i).toNat, by omega⟩
      refine g98_4 _ _ _ _ ⟨fun z => by omega, fun _ => ?_⟩
      rw [Int.toNat_natCast, (C.Y (by omega)).1, (C.Y (by omega)).2, e2, h2, hl, nPow (by omega)]
      have hp2 : 2 ^ l < 4096 := by have := Nat.pow_lt_pow_right (a := 2) (by omega) (show l < 12 by omega); omega
      refine ⟨by omega, fun z => ih (i + 1) _ _ (by omega) rfl ?_, fun z => ⟨by omega, ih (i + 1) _ _ (by omega) rfl ?_⟩⟩
      · rw [piS, if_neg z, Nat.or_zero]
      · rw [nOr (by omega) (by omega), piS, if_pos z, hl, Int.toNat_natCast]
  exact g98_e _ _ (L (wK w) 0 _ _ (by omega) rfl rfl)
/-- push -/
def pshS (w : Wd) (y p : Int) : Int × Wd := if (0 ≤ y ∧ y ≤ 49) ∧ 0 ≤ p ∧ p < wN w then (if (puS w y).testBit p.toNat = true then (-1000005, w) else if wK w = 20 then (-1000002, w) else ((wK w + 1 : Nat), addPu w y p)) else (-1000001, w)
theorem addPu_ok {w : Wd} {y p : Int} (h : WOk w) (hy : 0 ≤ y ∧ y ≤ 49) (hp : 0 ≤ p ∧ p < wN w) (hK : wK w < 20) : WOk (addPu w y p) := by
  obtain ⟨g0, g1, g2, g3, g4, g5, g6, g7, g8, g9⟩ := h
  refine ⟨g0, g1, g2, hK, g4, g5, g6, fun i hi => ?_, g8, g9⟩
  have hi2 : i < wK w + 1 := hi
  show 0 ≤ (if i = wK w then y else wY w i) ∧ (if i = wK w then y else wY w i) ≤ 49 ∧ 0 ≤ (if i = wK w then p else wL w i) ∧ (if i = wK w then p else wL w i) < wN w
  by_cases c : i = wK w
  · simp only [if_pos c]; exact ⟨hy.1, hy.2, hp.1, hp.2⟩
  · simp only [if_neg c]; exact g7 i (by omega)
theorem pshS_ok {w : Wd} {y p : Int} (h : WOk w) : WOk (pshS w y p).2 := by
  unfold pshS
  split
  · rename_i c
    split
    · exact h
    · split
      · exact h
      · have := h.2.2.2.1
        exact addPu_ok h c.1 c.2 (by omega)
  · exact h
theorem c_push {d : Nat} {q : Int → mzM → Prop} {y p : Int} {μ : mzM} {w : Wd} (hW : WOk w) (I : MI μ w) (h : ∀ μ', FM μ μ' → MI μ' (pshS w y p).2 → q (pshS w y p).1 μ') : mzCl (d + 2) 41 [mzR 0, mzI y, mzI p] μ (mzQi q) := by
  unfold pshS at h
  have hN := hW.1
  have hK := hW.2.2.2.1
  have eK : μ 1 2 = wK w := I.1.2.2.1
  refine g41_e _ _ _ (c_in (fun a1 a2 => ⟨fun z => absurd z (by decide), fun _ => c_isPlace I.1.1 hN (fun b1 b2 => ⟨fun _ => c_pushesOf hW I.1 ?_, fun z => absurd z (by decide)⟩) (fun b => ⟨fun z => absurd rfl z, fun _ => c_fd (by omega) I (by rw [if_neg (by omega)] at h; exact h)⟩)⟩) (fun a => ⟨fun _ => c_fd (by omega) I (by rw [if_neg (by omega)] at h; exact h), fun z => absurd rfl z⟩))
  rw [if_pos ⟨⟨a1, a2⟩, b1, b2⟩] at h
  obtain ⟨p, rfl⟩ : ∃ n : Nat, p = n := ⟨p.toNat, by omega⟩
  rw [Int.toNat_natCast] at h
  have hl := lt4096 (puS_lt hW y) hN
  refine c_has (by omega) (by omega) (fun t => ⟨fun z => absurd z (by decide), fun _ => c_fd (by omega) I (by rw [if_pos t] at h; exact h)⟩) (fun t => ⟨fun _ => ⟨by omega, fun z => ?_, fun z => c_fd (by omega) I (by rw [if_neg (by rw [t]; decide), if_pos (by omega)] at h; exact h)⟩, fun z => absurd rfl z⟩)
  rw [if_neg (by rw [t]; decide), if_neg (by omega)] at h
  have e0 : mzW (268 + mzW (2 * (μ 1 2))) = ((268 + 2 * wK w : Nat) : Int) := by rw [eK]; unfold mzW; omega
  have e1 : mzW (((268 + 2 * wK w : Nat) : Int) + 1) = ((268 + 2 * wK w + 1 : Nat) : Int) := by unfold mzW; omega
  rw [e0, e1, Int.toNat_natCast, Int.toNat_natCast, S_ne (a := 1) (b := 2) (by omega), S_ne (a := 1) (b := 2) (by omega), eK, wid (by omega) (by omega)]
  refine ⟨by omega, by omega, by omega, by omega, by omega, ?_⟩
  exact h _ (((FM.rf.st (by unfold scM; omega)).st (by unfold scM; omega)).st (by unfold scM; omega)) ⟨I.1.addPu hN (by omega), FR.r I.2 rfl rfl rfl (by rw [S_ne (by omega), S_ne (by omega), S_ne (by omega)]) (fun _ => by rw [S_ne (by omega), S_ne (by omega), S_ne (by omega)])⟩
theorem CW.addPu' {μ : mzM} {w : Wd} {y p : Int} (h : CW μ 0 w) (hN : wN w ≤ 12) : CW (mzS (mzS (mzS μ 35 (wK w) y) 38 (wK w) p) 26 2 ((wK w + 1 : Nat) : Int)) 0 (addPu w y p) := by
  obtain ⟨h0, h1, h2, h3, h4, h5, h6, h7, h8⟩ := h
  refine ⟨?_, ?_, S_eq, ?_, ?_, fun p' t' hp' ht' => ?_, fun f' t' hf' ht' => ?_, fun i hi => ⟨?_, ?_⟩, fun i hi => ?_⟩
  · rw [S_ne (by omega), S_ne (by omega), S_ne (by omega)]; exact h0
  · rw [S_ne (by omega), S_ne (by omega), S_ne (by omega)]; exact h1
  · rw [S_ne (by omega), S_ne (by omega), S_ne (by omega)]; exact h3
  · rw [S_ne (by omega), S_ne (by omega), S_ne (by omega)]; exact h4
  · have hp2 : p' < wN w := hp'
    rw [S_ne (by omega), S_ne (by omega), S_ne (by omega)]; exact h5 p' t' hp' ht'
  · rw [S_ne (by omega), S_ne (by omega), S_ne (by omega)]; exact h6 f' t' hf' ht'
  · have hi2 : i < wK w + 1 := hi
    show mzS (mzS (mzS μ 35 (wK w) y) 38 (wK w) p) 26 2 ((wK w + 1 : Nat) : Int) 35 i = if i = wK w then y else wY w i
    rw [S_ne (by omega), S_ne (by omega)]
    by_cases c : i = wK w
    · rw [if_pos c, c, S_eq]
    · rw [if_neg c, S_ne (by omega)]; exact (h7 i (by omega)).1
  · have hi2 : i < wK w + 1 := hi
    show mzS (mzS (mzS μ 35 (wK w) y) 38 (wK w) p) 26 2 ((wK w + 1 : Nat) : Int) 38 i = if i = wK w then p else wL w i
    rw [S_ne (by omega)]
    by_cases c : i = wK w
    · rw [if_pos c, c, S_eq]
    · rw [if_neg c, S_ne (by omega), S_ne (by omega)]; exact (h7 i (by omega)).2
  · rw [S_ne (by omega), S_ne (by omega), S_ne (by omega)]; exact h8 i hi
theorem k_push {d : Nat} {q : Int → mzM → Prop} {y p : Int} {μ : mzM} {w : Wd} (hW : WOk w) (C : CW μ 0 w) (h : ∀ μ', FC μ μ' → CW μ' 0 (pshS w y p).2 → q (pshS w y p).1 μ') : mzCl (d + 1) 139 [mzR 14, mzI y, mzI p] μ (mzQi q) := by
  unfold pshS at h
  have hN := hW.1
  have hK := hW.2.2.2.1
  have eK := C.K
  have fd : ¬ ((0 ≤ y ∧ y ≤ 49) ∧ 0 ≤ p ∧ p < wN w) → mzCl d 173 [mzR 14, mzI (-1000001)] μ (mzQi q) := fun c => k_fd (by omega) hW.1 C (by rw [if_neg c] at h; exact h)
  refine g139_e _ _ _ ⟨fun z => fd (by omega), fun a1 => ⟨fun z => fd (by omega), fun a2 => k_isPlace C.1 (fun b1 b2 => ⟨fun _ => k_pushedIn hW C ?_, fun z => absurd z (by decide)⟩) (fun b => ⟨fun z => absurd rfl z, fun _ => fd (by omega)⟩)⟩⟩
  rw [if_pos ⟨⟨a1, a2⟩, b1, b2⟩] at h
  obtain ⟨p, rfl⟩ : ∃ n : Nat, p = n := ⟨p.toNat, by omega⟩
  rw [Int.toNat_natCast] at h
  have hl := lt4096 (puS_lt hW y) hN
  rw [nBit (by omega) (by omega), eK, Int.toNat_natCast, wid (by omega) (by omega)]
  refine ⟨fun t => ⟨fun z => ⟨by omega, by omega, ?_⟩, fun z => k_fd (by omega) hW.1 C ?_⟩, fun t => k_fd (by omega) hW.1 C ?_⟩
  · rw [if_neg (fun c => by rw [if_pos c] at t; exact absurd t (by decide)), if_neg (by omega)] at h
    exact h _ (((FC.rf.st (by unfold scC isW; omega)).st (by unfold scC isW; omega)).st (by unfold scC isW; omega)) (C.addPu' hN)
  · rw [if_neg (fun c => by rw [if_pos c] at t; exact absurd t (by decide)), if_pos (by omega)] at h
    exact h
  · rw [if_pos (Classical.byContradiction (fun c => by rw [if_neg c] at t; exact absurd rfl t))] at h
    exact h
theorem p_push {d : Nat} {μ : mzM} {w : Wd} {q : Int → Int → mzM → Prop} {y p : Int} (R : RW μ w) (h : ∀ a μ' w', RW μ' w' → q a a μ') : mzCl (d + 2) 139 [mzR 14, mzI y, mzI p] μ (mzQi fun a m1 => mzCl (d + 2) 41 [mzR 0, mzI y, mzI p] m1 (mzQi fun c m2 => q a c m2)) :=
  pair (pshS w y p) R (pshS_ok R.1) (fun q' z => k_push R.1 R.2.2.1 z) (fun m1 q' _ I z => c_push R.1 I z) h
/-- pushOf -/
def pofS (w : Wd) (i t : Int) : Int × Wd := (if (0 ≤ i ∧ i < wK w) ∧ 0 ≤ t ∧ t ≤ 1 then (if t = 0 then wY w i.toNat else wL w i.toNat) else -1000001, w)
theorem c_pushOf {d : Nat} {q : Int → mzM → Prop} {i t : Int} {μ : mzM} {w : Wd} (hW : WOk w) (I : MI μ w) (h : ∀ μ', FM μ μ' → MI μ' (pofS w i t).2 → q (pofS w i t).1 μ') : mzCl (d + 2) 42 [mzR 0, mzI i, mzI t] μ (mzQi q) := by
  unfold pofS at h
  have hK := hW.2.2.2.1
  have eK : μ 1 2 = wK w := I.1.2.2.1
  refine g42_e _ _ _ ⟨by omega, ?_⟩
  rw [eK, wid (by omega) (by omega)]
  refine c_in (fun a1 a2 => ⟨fun z => absurd z (by decide), fun _ => c_in (fun b1 b2 => ⟨fun z => absurd z (by decide), fun _ => ?_⟩) (fun b => ⟨fun _ => c_fd (by omega) I (by rw [if_neg (by omega)] at h; exact h), fun z => absurd rfl z⟩)⟩) (fun a => ⟨fun _ => c_fd (by omega) I (by rw [if_neg (by omega)] at h; exact h), fun z => absurd rfl z⟩)
  rw [if_pos ⟨⟨a1, by omega⟩, b1, b2⟩] at h
  obtain ⟨i, rfl⟩ : ∃ n : Nat, i = n := ⟨i.toNat, by omega⟩
  rw [Int.toNat_natCast] at h
  by_cases c : t = 0
  · subst c
    have e0 : mzW (mzW (268 + mzW (2 * (i : Int))) + 0) = ((268 + 2 * i : Nat) : Int) := by unfold mzW; omega
    rw [e0, Int.toNat_natCast, (I.1.Y (by omega)).1]
    exact ⟨by omega, h μ FM.rf I⟩
  · have : t = 1 := by omega
    subst this
    have e0 : mzW (mzW (268 + mzW (2 * (i : Int))) + 1) = ((268 + 2 * i + 1 : Nat) : Int) := by unfold mzW; omega
    rw [e0, Int.toNat_natCast, (I.1.Y (by omega)).2]
    exact ⟨by omega, h μ FM.rf I⟩
theorem k_pushOf {d : Nat} {q : Int → mzM → Prop} {i t : Int} {μ : mzM} {w : Wd} (hW : WOk w) (C : CW μ 0 w) (h : ∀ μ', FC μ μ' → CW μ' 0 (pofS w i t).2 → q (pofS w i t).1 μ') : mzCl (d + 1) 140 [mzR 14, mzI i, mzI t] μ (mzQi q) := by
  unfold pofS at h
  have hK := hW.2.2.2.1
  have eK := C.K
  have fd : ¬ ((0 ≤ i ∧ i < wK w) ∧ 0 ≤ t ∧ t ≤ 1) → mzCl d 173 [mzR 14, mzI (-1000001)] μ (mzQi q) := fun c => k_fd (by omega) hW.1 C (by rw [if_neg c] at h; exact h)
  refine g140_e _ _ _ ⟨fun z => fd (by omega), fun a1 => ⟨fun z => fd (by omega), fun a2 => ⟨fun z => fd (by omega), fun b1 => ⟨fun b2 => ⟨fun z => ⟨by omega, ?_⟩, fun z => ⟨by omega, ?_⟩⟩, fun z => fd (by omega)⟩⟩⟩⟩
  · rw [if_pos ⟨⟨a1, by omega⟩, b1, b2⟩, if_neg z] at h
    rw [(C.Y (by omega)).2]
    exact h μ FC.rf C
  · rw [if_pos ⟨⟨a1, by omega⟩, b1, b2⟩, if_pos z] at h
    rw [(C.Y (by omega)).1]
    exact h μ FC.rf C
theorem p_pushOf {d : Nat} {μ : mzM} {w : Wd} {q : Int → Int → mzM → Prop} {i t : Int} (R : RW μ w) (h : ∀ a μ' w', RW μ' w' → q a a μ') : mzCl (d + 2) 140 [mzR 14, mzI i, mzI t] μ (mzQi fun a m1 => mzCl (d + 2) 42 [mzR 0, mzI i, mzI t] m1 (mzQi fun c m2 => q a c m2)) :=
  pair (pofS w i t) R R.1 (fun q' z => k_pushOf R.1 R.2.2.1 z) (fun m1 q' _ I z => c_pushOf R.1 I z) h
/-- clear -/
theorem CW.noPu' {μ : mzM} {w : Wd} (h : CW μ 0 w) (hN : wN w ≤ 12) : CW (mzS μ 26 2 0) 0 (noPu w) := by
  obtain ⟨g0, g1, g2, g3, g4, g5, g6, g7, g8⟩ := id h
  refine h.put (Or.inl rfl) ?_ ?_ S_eq ?_ ?_ rfl hN (fun a t ht => rfl) (fun _ _ => rfl) (fun j hj => absurd hj (Nat.not_lt_zero j)) (fun j hj => ?_)
  · rw [S_ne (by omega)]; exact g0
  · rw [S_ne (by omega)]; exact g1
  · rw [S_ne (by omega)]; exact g3
  · rw [S_ne (by omega)]; exact g4
  · rw [S_ne (by omega)]; exact g8 j hj
theorem noPu_ok {w : Wd} (h : WOk w) : WOk (noPu w) := by
  obtain ⟨g0, g1, g2, g3, g4, g5, g6, g7, g8, g9⟩ := h
  exact ⟨g0, g1, g2, Nat.zero_le _, g4, g5, g6, fun i hi => absurd hi (Nat.not_lt_zero i), g8, g9⟩
theorem p_clear {d : Nat} {μ : mzM} {w : Wd} {q : Int → Int → mzM → Prop} (R : RW μ w) (h : ∀ a μ' w', RW μ' w' → q a a μ') : mzCl d 141 [mzR 14] μ (mzQi fun a m1 => mzCl d 43 [mzR 0] m1 (mzQi fun c m2 => q a c m2)) :=
  pair (wK w, noPu w) R (noPu_ok R.1) (fun q' z => g141_e _ (by rw [R.2.2.1.K]; exact z _ (FC.rf.st (by unfold scC isW; omega)) (R.2.2.1.noPu' R.1.1)))
    (fun m1 q' _ I z => g43_e _ ⟨by omega, by omega, by rw [I.1.2.2.1]; exact z _ (FM.rf.st (by unfold scM; omega)) ⟨I.1.noPu, FR.r I.2 rfl rfl rfl (S_ne (by omega)) (fun _ => S_ne (by omega))⟩⟩) h
/-- seed -/
theorem CW.setZ' {μ : mzM} {w : Wd} {z : Int} (h : CW μ 0 w) (hN : wN w ≤ 12) : CW (mzS μ 26 4 z) 0 (setZ w z) := by
  obtain ⟨g0, g1, g2, g3, g4, g5, g6, g7, g8⟩ := id h
  refine h.put (Or.inl rfl) ?_ ?_ ?_ ?_ S_eq rfl hN (fun a t ht => rfl) (fun _ _ => rfl) (fun j hj => ⟨?_, ?_⟩) (fun j hj => ?_)
  · rw [S_ne (by omega)]; exact g0
  · rw [S_ne (by omega)]; exact g1
  · rw [S_ne (by omega)]; exact g2
  · rw [S_ne (by omega)]; exact g3
  · rw [S_ne (by omega)]; exact (g7 j hj).1
  · rw [S_ne (by omega)]; exact (g7 j hj).2
  · rw [S_ne (by omega)]; exact g8 j hj
theorem setZ_ok {w : Wd} {z : Int} (h : WOk w) (hz : -2147483648 ≤ z ∧ z < 2147483648) : WOk (setZ w z) := by
  obtain ⟨g0, g1, g2, g3, g4, g5, g6, g7, g8, g9⟩ := h
  exact ⟨g0, g1, g2, g3, g4, g5, g6, g7, g8, hz⟩
theorem p_seed {d : Nat} {μ : mzM} {w : Wd} {q : Int → Int → mzM → Prop} {z : Int} (hz : -2147483648 ≤ z ∧ z < 2147483648) (R : RW μ w) (h : ∀ a μ' w', RW μ' w' → q a a μ') : mzCl d 159 [mzR 14, mzI z] μ (mzQi fun a m1 => mzCl d 72 [mzR 0, mzI z] m1 (mzQi fun c m2 => q a c m2)) :=
  pair (wZ w, setZ w z) R (setZ_ok R.1 hz) (fun q' y => g159_e _ _ (by rw [show μ 26 4 = wZ w from R.2.2.1.2.2.2.2.1]; exact y _ (FC.rf.st (by unfold scC isW; omega)) (R.2.2.1.setZ' R.1.1)))
    (fun m1 q' _ I y => g72_e _ _ ⟨by omega, by omega, by rw [I.1.2.2.2.1]; exact y _ (FM.rf.st (by unfold scM; omega)) ⟨I.1.setZ, FR.r I.2 rfl rfl rfl (S_ne (by omega)) (fun _ => S_ne (by omega))⟩⟩) h
