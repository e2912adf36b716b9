/-! PAIRS: change, step, tie, tieOf, cut, hold -/
theorem MI.setT {μ : mzM} {w : Wd} (hW : WOk w) (I : MI μ w) {p t : Nat} {v : Int} (hp : p < wN w) (ht : t < 10) : MW (mzS μ 1 (4 + 10 * p + t) v) 1 (setT w p t v) := I.1.setT hW.1 (Nat.lt_of_lt_of_le hp hW.1) ht
theorem w10p {p : Nat} {t : Int} {k : Nat} (h : p < 12) (hk : t = k) (hk2 : k < 10) : mzW ((mzW (4 + (mzW (10 * (p : Int))))) + t) = ((4 + 10 * p + k : Nat) : Int) := by subst hk; unfold mzW; omega
/-- change -/
abbrev chO (w : Wd) (p t v : Int) : Prop := (0 ≤ p ∧ p < wN w) ∧ (1 ≤ t ∧ t ≤ 7) ∧ (tlo t.toNat ≤ v ∧ v ≤ thi (wN w) t.toNat) ∧ (t = 7 → v ≠ p)
def chS (w : Wd) (p t v : Int) : Int × Wd := if chO w p t v then (wT w p.toNat t.toNat, setT w p.toNat t.toNat v) else (-1000001, w)
theorem chS_ok {w : Wd} {p t v : Int} (h : WOk w) : WOk (chS w p t v).2 := by
  unfold chS
  split
  · rename_i c
    obtain ⟨c1, c2, c3, -⟩ := c
    exact setT_ok h (by omega) c3
  · exact h
theorem lims {n : Nat} : (tlo 1 = 1 ∧ thi n 1 = 99) ∧ (tlo 2 = 0 ∧ thi n 2 = 99) ∧ (tlo 3 = 0 ∧ thi n 3 = 9) ∧ (tlo 4 = 1 ∧ thi n 4 = 99) ∧ (tlo 5 = 1 ∧ thi n 5 = 99) ∧ (tlo 6 = 0 ∧ thi n 6 = 10) ∧ (tlo 7 = -1 ∧ thi n 7 = (n : Int) - 1) := by simp [tlo, thi]
theorem c_may {d : Nat} {q : Int → mzM → Prop} {p t v : Int} {μ : mzM} {w : Wd} (hW : WOk w) (I : MI μ w) (hp : 0 ≤ p ∧ p < wN w) (h1 : chO w p t v → q 1 μ) (h0 : ¬ chO w p t v → q 0 μ) : mzCl (d + 2) 23 [mzR 0, mzI p, mzI t, mzI v] μ (mzQi q) := by
  obtain ⟨l1, l2, l3, l4, l5, l6, l7⟩ := @lims (wN w)
  have e : ∀ k : Nat, t = k → t.toNat = k := fun k hk => by omega
  refine g23_e _ _ _ _ ⟨⟨fun z => ?_, fun z => ?_, fun z => ?_, fun z => ?_, fun z => ?_, fun z => ?_, trivial⟩, fun z => ⟨fun z7 => ⟨or00, h0 (fun c => by unfold chO at c; omega)⟩, fun z7 => ⟨fun y => ⟨or00, h0 (fun c => c.2.2.2 z7 y)⟩, fun y => ⟨fun y1 => ⟨or10, h1 ?_⟩, fun y1 => c_isPlace I.1.1 hW.1 (fun a1 a2 => ⟨fun z => absurd z (by decide), fun _ => ⟨or10, h1 ?_⟩⟩) (fun a => ⟨fun _ => ⟨or00, h0 (fun c => ?_)⟩, fun z => absurd rfl z⟩)⟩⟩⟩⟩
  · have := e 1 z
    exact c_in (fun a1 a2 => ⟨or10, h1 (by unfold chO; rw [this]; omega)⟩) (fun a => ⟨or00, h0 (fun c => by unfold chO at c; rw [this] at c; omega)⟩)
  · have := e 2 z
    exact c_in (fun a1 a2 => ⟨or10, h1 (by unfold chO; rw [this]; omega)⟩) (fun a => ⟨or00, h0 (fun c => by unfold chO at c; rw [this] at c; omega)⟩)
  · have := e 3 z
    exact c_in (fun a1 a2 => ⟨or10, h1 (by unfold chO; rw [this]; omega)⟩) (fun a => ⟨or00, h0 (fun c => by unfold chO at c; rw [this] at c; omega)⟩)
  · have := e 4 z
    exact c_in (fun a1 a2 => ⟨or10, h1 (by unfold chO; rw [this]; omega)⟩) (fun a => ⟨or00, h0 (fun c => by unfold chO at c; rw [this] at c; omega)⟩)
  · have := e 5 z
    exact c_in (fun a1 a2 => ⟨or10, h1 (by unfold chO; rw [this]; omega)⟩) (fun a => ⟨or00, h0 (fun c => by unfold chO at c; rw [this] at c; omega)⟩)
  · have := e 6 z
    exact c_in (fun a1 a2 => ⟨or10, h1 (by unfold chO; rw [this]; omega)⟩) (fun a => ⟨or00, h0 (fun c => by unfold chO at c; rw [this] at c; omega)⟩)
  · have := e 7 z7
    unfold chO
    rw [this]
    omega
  · have := e 7 z7
    unfold chO
    rw [this]
    omega
  · have := e 7 z7
    unfold chO at c
    rw [this] at c
    omega
theorem c_change {d : Nat} {q : Int → mzM → Prop} {p t v : Int} {μ : mzM} {w : Wd} (hW : WOk w) (I : MI μ w) (h : ∀ μ', FM μ μ' → MI μ' (chS w p t v).2 → q (chS w p t v).1 μ') : mzCl (d + 3) 25 [mzR 0, mzI p, mzI t, mzI v] μ (mzQi q) := by
  unfold chS at h
  have fd : ∀ {D : Nat}, ¬ chO w p t v → mzCl D 1 [mzR 0, mzI (-1000001)] μ (mzQi q) := fun c => c_fd (by omega) I (by rw [if_neg c] at h; exact h)
  refine g25_e _ _ _ _ (c_isPlace I.1.1 hW.1 (fun a1 a2 => ⟨fun z => absurd z (by decide), fun _ => c_may hW I ⟨a1, a2⟩ (fun c => ⟨fun z => absurd z (by decide), fun _ => ?_⟩) (fun c => ⟨fun _ => fd c, fun z => absurd rfl z⟩)⟩) (fun a => ⟨fun _ => fd (fun c => by have := c.1; omega), fun z => absurd rfl z⟩))
  rw [if_pos c] at h
  obtain ⟨c1, c2, c3, c4⟩ := c
  obtain ⟨p, rfl⟩ : ∃ n : Nat, p = n := ⟨p.toNat, by omega⟩
  obtain ⟨t, rfl⟩ : ∃ n : Nat, t = n := ⟨t.toNat, by omega⟩
  have hp : p < wN w := by omega
  rw [Int.toNat_natCast, Int.toNat_natCast] at h
  refine c_bec (j := 4 + 10 * p + t) (w10p (by have := hW.1; omega) rfl (by omega)) (by have := hW.1; omega) (I.setT hW hp (by omega)) (fun μ' f i _ => ?_)
  rw [I.1.T hp (by omega)]
  exact h μ' f i
theorem cst7 : mzCst 201 1 = 1 ∧ mzCst 201 2 = 0 ∧ mzCst 201 3 = 0 ∧ mzCst 201 4 = 1 ∧ mzCst 201 5 = 1 ∧ mzCst 201 6 = 0 ∧ mzCst 201 7 = -1 ∧ mzCst 202 1 = 99 ∧ mzCst 202 2 = 99 ∧ mzCst 202 3 = 9 ∧ mzCst 202 4 = 99 ∧ mzCst 202 5 = 99 ∧ mzCst 202 6 = 10 ∧ mzCst 202 7 = 11 := by decide
theorem cst_lims {n t : Nat} (h : 1 ≤ t ∧ t ≤ 7) : mzCst 201 t = tlo t ∧ (t ≠ 7 → mzCst 202 t = thi n t) ∧ (t = 7 → mzCst 202 t = 11 ∧ thi n t = (n : Int) - 1) := by
  have c : t = 1 ∨ t = 2 ∨ t = 3 ∨ t = 4 ∨ t = 5 ∨ t = 6 ∨ t = 7 := by omega
  rcases c with rfl | rfl | rfl | rfl | rfl | rfl | rfl <;> simp [tlo, thi, cst7]
theorem k_change {d : Nat} {q : Int → mzM → Prop} {p t v : Int} {μ : mzM} {w : Wd} (hW : WOk w) (C : CW μ 0 w) (h : ∀ μ', FC μ μ' → CW μ' 0 (chS w p t v).2 → q (chS w p t v).1 μ') : mzCl (d + 1) 133 [mzR 14, mzI p, mzI t, mzI v] μ (mzQi q) := by
  unfold chS at h
  have fd : ¬ chO w p t v → mzCl d 173 [mzR 14, mzI (-1000001)] μ (mzQi q) := fun c => k_fd (by omega) hW.1 C (by rw [if_neg c] at h; exact h)
  have ok : chO w p t v → ((0 : Int) ≤ p ∧ (p : Int) < 12) ∧ ((p.toNat < 12 ∧ (0 : Int) ≤ t ∧ (t : Int) < 9) ∧ (((0 : Int) ≤ p ∧ (p : Int) < 12) ∧ ((p.toNat < 12 ∧ (0 : Int) ≤ t ∧ (t : Int) < 9) ∧ (q (μ (52 + p.toNat) t.toNat) (mzS μ (52 + p.toNat) t.toNat v))))) := by
    intro c
    rw [if_pos c] at h
    obtain ⟨c1, c2, c3, c4⟩ := c
    have := hW.1
    have hp : p.toNat < wN w := by omega
    refine ⟨by omega, ⟨by omega, by omega, by omega⟩, by omega, ⟨by omega, by omega, by omega⟩, ?_⟩
    rw [C.T hp (by omega)]
    exact h _ (FC.rf.st (by unfold scC isW; omega)) (C.setT hW.1 (by omega) (by omega))
  have l : 1 ≤ t → t ≤ 7 → mzCst 201 t.toNat = tlo t.toNat ∧ (t.toNat ≠ 7 → mzCst 202 t.toNat = thi (wN w) t.toNat) ∧ (t.toNat = 7 → mzCst 202 t.toNat = 11 ∧ thi (wN w) t.toNat = (wN w : Int) - 1) := fun a b => cst_lims (by omega)
  have h26 : μ 26 0 = wN w := C.1
  have := hW.1
  refine g133_e _ _ _ _ (k_isPlace C.1 (fun a1 a2 => ⟨fun z => absurd z (by decide), fun _ => ⟨fun z => fd (fun c => by have := c.2.1; omega), fun b1 => ⟨fun z => fd (fun c => by have := c.2.1; omega), fun b2 => ⟨by omega, fun z => fd (fun c => ?_), fun b3 => ⟨by omega, fun b4 => ⟨fun b5 => ok ?_, fun b5 => ⟨fun z => fd (fun c => c.2.2.2 b5 z), fun b6 => ⟨fun b7 => ok ?_, fun z => fd (fun c => ?_)⟩⟩⟩, fun z => fd (fun c => ?_)⟩⟩⟩⟩⟩) (fun a => ⟨fun _ => fd (fun c => by have := c.1; omega), fun z => absurd rfl z⟩))
  · have := c.2.2.1.1
    have := (l b1 b2).1
    omega
  · have l1 := (l b1 b2).1
    have l2 := (l b1 b2).2.1 (by omega)
    exact ⟨⟨a1, a2⟩, ⟨b1, b2⟩, by omega, fun z => absurd z b5⟩
  · have l1 := (l b1 b2).1
    have l2 := (l b1 b2).2.2 (by omega)
    exact ⟨⟨a1, a2⟩, ⟨b1, b2⟩, by omega, fun _ => b6⟩
  · have l2 := (l b1 b2).2.2 (by omega)
    have := c.2.2.1.2
    omega
  · have := c.2.2.1.2
    by_cases e : t.toNat = 7
    · have l2 := (l b1 b2).2.2 e
      omega
    · have l2 := (l b1 b2).2.1 e
      omega
theorem p_change {d : Nat} {μ : mzM} {w : Wd} {q : Int → Int → mzM → Prop} {p t v : Int} (R : RW μ w) (h : ∀ a μ' w', RW μ' w' → q a a μ') : mzCl (d + 3) 133 [mzR 14, mzI p, mzI t, mzI v] μ (mzQi fun a m1 => mzCl (d + 3) 25 [mzR 0, mzI p, mzI t, mzI v] m1 (mzQi fun c m2 => q a c m2)) :=
  pair (chS w p t v) R (chS_ok R.1) (fun q' z => k_change R.1 R.2.2.1 z) (fun m1 q' _ I z => c_change R.1 I z) h
/-- step -/
def seS (w : Wd) (p : Int) : Int × Wd := if 0 ≤ p ∧ p < wN w then (if wT w p.toNat 8 = 9 then (-1000002, w) else (wT w p.toNat 8 + 1, setT w p.toNat 8 (wT w p.toNat 8 + 1))) else (-1000001, w)
theorem seS_ok {w : Wd} {p : Int} (h : WOk w) : WOk (seS w p).2 := by
  unfold seS
  split
  · split
    · exact h
    · have := T8_ok h (p := p.toNat) (by omega)
      have e1 : tlo 8 = 0 := rfl
      have e2 : thi (wN w) 8 = 9 := by simp [thi]
      exact setT_ok h (by omega) (by omega)
  · exact h
theorem c_step {d : Nat} {q : Int → mzM → Prop} {p : Int} {μ : mzM} {w : Wd} (hW : WOk w) (I : MI μ w) (h : ∀ μ', FM μ μ' → MI μ' (seS w p).2 → q (seS w p).1 μ') : mzCl (d + 2) 26 [mzR 0, mzI p] μ (mzQi q) := by
  unfold seS at h
  refine g26_e _ _ (c_isPlace I.1.1 hW.1 (fun a1 a2 => ⟨fun _ => ?_, fun z => absurd z (by decide)⟩) (fun a => ⟨fun z => absurd rfl z, fun _ => c_fd (by omega) I (by rw [if_neg (by omega)] at h; exact h)⟩))
  obtain ⟨p, rfl⟩ : ∃ n : Nat, p = n := ⟨p.toNat, by omega⟩
  have hp : p < wN w := by omega
  have hN := hW.1
  have t8 := T8_ok hW hp
  rw [if_pos ⟨a1, a2⟩, Int.toNat_natCast] at h
  refine c_of (t := 8) (by omega) (by omega) ?_
  rw [I.1.T hp (by omega)]
  refine ⟨fun z => c_of (t := 8) (by omega) (by omega) ?_, fun z => c_fd (by omega) I (by rw [if_pos z] at h; exact h)⟩
  rw [I.1.T hp (by omega), wid (z := wT w p 8 + 1) (by omega) (by omega)]
  rw [if_neg z] at h
  refine c_bec (j := 4 + 10 * p + 8) (w10p (by omega) rfl (by omega)) (by omega) (I.setT hW hp (by omega)) (fun μ' f i _ => ?_)
  rw [I.1.T hp (by omega), wid (by omega) (by omega)]
  exact h μ' f i
theorem k_step {d : Nat} {q : Int → mzM → Prop} {p : Int} {μ : mzM} {w : Wd} (hW : WOk w) (C : CW μ 0 w) (h : ∀ μ', FC μ μ' → CW μ' 0 (seS w p).2 → q (seS w p).1 μ') : mzCl (d + 1) 134 [mzR 14, mzI p] μ (mzQi q) := by
  unfold seS at h
  have hN := hW.1
  refine g134_e _ _ (k_isPlace C.1 (fun a1 a2 => ⟨fun _ => ?_, fun z => absurd z (by decide)⟩) (fun a => ⟨fun z => absurd rfl z, fun _ => k_fd (by omega) hW.1 C (by rw [if_neg (by omega)] at h; exact h)⟩))
  obtain ⟨p, rfl⟩ : ∃ n : Nat, p = n := ⟨p.toNat, by omega⟩
  have hp : p < wN w := by omega
  have t8 := T8_ok hW hp
  rw [if_pos ⟨a1, a2⟩, Int.toNat_natCast] at h
  rw [Int.toNat_natCast, C.T hp (by omega), S_eq, wid (by omega) (by omega)]
  refine ⟨by omega, ⟨by omega, by omega, by omega⟩, fun z => ⟨by omega, ⟨by omega, by omega, by omega⟩, ⟨by omega, by omega, by omega⟩, by omega, ⟨by omega, by omega, by omega⟩, ?_⟩, fun z => k_fd (by omega) hW.1 C (by rw [if_pos (by omega)] at h; exact h)⟩
  rw [if_neg (by omega)] at h
  exact h _ (FC.rf.st (by unfold scC isW; omega)) (C.setT hW.1 (by omega) (by omega))
theorem p_step {d : Nat} {μ : mzM} {w : Wd} {q : Int → Int → mzM → Prop} {p : Int} (R : RW μ w) (h : ∀ a μ' w', RW μ' w' → q a a μ') : mzCl (d + 2) 134 [mzR 14, mzI p] μ (mzQi fun a m1 => mzCl (d + 2) 26 [mzR 0, mzI p] m1 (mzQi fun c m2 => q a c m2)) :=
  pair (seS w p) R (seS_ok R.1) (fun q' z => k_step R.1 R.2.2.1 z) (fun m1 q' _ I z => c_step R.1 I z) h
