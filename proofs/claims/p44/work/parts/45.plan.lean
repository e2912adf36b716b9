/-! PAIRS: run, runOf, when, settles -/
def PC (μ0 μ : mzM) (w : Wd) (n : Nat) : Prop := EF μ0 μ ∧ GM μ w ∧ HC μ (wN w) (H0 w) ∧ YC μ (wN w) (hw w) (pnS w n)
theorem k_pyear {d n : Nat} {q : Int → mzM → Prop} {w : Wd} {μ0 μ : mzM} (hW : WOk w) (C : CW μ0 0 w) (P : PC μ0 μ w n) (hq : ∀ r μ', PC μ0 μ' w (n + 1) → q r μ') : mzCl (d + 2) 109 [mzR 16, mzI (puS w n : Nat)] μ (mzQi q) :=
  k_yr (k := n) (pus := pnP w) hW (P.1.cw hW.1 C) P.2.1 P.2.2.1 (hw_lt hW) (pnP_lt hW n) P.2.2.2 fun r μ' f y _ => hq r μ' ⟨P.1.tr f.nf.ef, f.nf.gm hW.1 P.2.1, f.nf.hc P.2.2.1, y⟩
theorem k_plan {d n : Nat} {q : mzM → Prop} {w : Wd} {μ : mzM} (hn : n ≤ 99) (hW : WOk w) (C : CW μ 0 w) (hq : ∀ μ', PC μ μ' w n → q μ') : mzCl (d + 5) 178 [mzR 14, mzI n] μ (mzQv q) := k_passPlan hn hW C fun μ' f g h y => hq μ' ⟨f, g, h, y⟩
def ruS (w : Wd) (n t : Int) : Int × Wd := (if (0 ≤ n ∧ n ≤ 99) ∧ 0 ≤ t ∧ t ≤ 1 then (if t = 0 then ((pnS w n.toNat).1 : Int) else ((pnS w n.toNat).2.1 : Int)) else -1000001, w)
theorem c_run {d : Nat} {q : Int → mzM → Prop} {n t : Int} {μ : mzM} {w : Wd} (hW : WOk w) (I : MI μ w) (h : ∀ μ', FM μ μ' → MI μ' (ruS w n t).2 → q (ruS w n t).1 μ') : mzCl (d + 5) 44 [mzR 0, mzI n, mzI t] μ (mzQi q) := by
  unfold ruS at h
  refine g44_e _ _ _ (c_in (fun a1 a2 => ⟨fun z => absurd z (by decide), fun _ => c_in (fun b1 b2 => ⟨fun _ => ?_, fun z => absurd z (by decide)⟩) (fun b => ⟨fun z => absurd rfl z, fun _ => c_fd (by omega) I ?_⟩)⟩) (fun a => ⟨fun _ => c_fd (by omega) I ?_, fun z => absurd rfl z⟩))
  · rw [if_pos ⟨⟨a1, a2⟩, b1, b2⟩] at h
    obtain ⟨n, rfl⟩ : ∃ k : Nat, n = k := ⟨n.toNat, by omega⟩
    rw [Int.toNat_natCast] at h
    refine c_plan (by omega) hW I.1 (fun m P => ⟨fun z => ?_, fun z => ?_⟩)
    · rw [if_neg z] at h
      rw [P.2.1.2.1]
      exact h m P.1.fm (P.1.mi I)
    · rw [if_pos z] at h
      rw [P.2.1.1]
      exact h m P.1.fm (P.1.mi I)
  · rw [if_neg (by omega)] at h; exact h
  · rw [if_neg (by omega)] at h; exact h
theorem k_run {d : Nat} {q : Int → mzM → Prop} {n t : Int} {μ : mzM} {w : Wd} (hW : WOk w) (C : CW μ 0 w) (h : ∀ μ', FC μ μ' → CW μ' 0 (ruS w n t).2 → q (ruS w n t).1 μ') : mzCl (d + 6) 142 [mzR 14, mzI n, mzI t] μ (mzQi q) := by
  unfold ruS at h
  have fd : ¬ ((0 ≤ n ∧ n ≤ 99) ∧ 0 ≤ t ∧ t ≤ 1) → mzCl (d + 5) 173 [mzR 14, mzI (-1000001)] μ (mzQi q) := fun c => k_fd (by omega) hW.1 C (by rw [if_neg c] at h; exact h)
  refine g142_e _ _ _ ⟨fun z => fd (by omega), fun a1 => ⟨fun z => fd (by omega), fun a2 => ⟨fun z => fd (by omega), fun b1 => ⟨fun b2 => ?_, fun z => fd (by omega)⟩⟩⟩⟩
  rw [if_pos ⟨⟨a1, a2⟩, b1, b2⟩] at h
  obtain ⟨n, rfl⟩ : ∃ k : Nat, n = k := ⟨n.toNat, by omega⟩
  rw [Int.toNat_natCast] at h
  refine k_plan (by omega) hW C (fun m P => ⟨fun z => ?_, fun z => ?_⟩)
  · rw [if_neg z] at h
    rw [P.2.2.2.2.1]
    exact h m P.1.fc (P.1.cw hW.1 C)
  · rw [if_pos z] at h
    rw [P.2.2.2.1]
    exact h m P.1.fc (P.1.cw hW.1 C)
theorem p_run {d : Nat} {μ : mzM} {w : Wd} {q : Int → Int → mzM → Prop} {n t : Int} (R : RW μ w) (h : ∀ a μ' w', RW μ' w' → q a a μ') : mzCl (d + 6) 142 [mzR 14, mzI n, mzI t] μ (mzQi fun a m1 => mzCl (d + 6) 44 [mzR 0, mzI n, mzI t] m1 (mzQi fun c m2 => q a c m2)) :=
  pair (ruS w n t) R R.1 (fun q' z => k_run R.1 R.2.2.1 z) (fun m1 q' _ I z => c_run R.1 I z) h
def roS (w : Wd) (n p t : Int) : Int × Wd := (if (0 ≤ n ∧ n ≤ 99) ∧ (0 ≤ p ∧ p < wN w) ∧ 0 ≤ t ∧ t ≤ 1 then (if t = 0 then (pnS w n.toNat).2.2 p.toNat else gtS (wP w) p.toNat (pnS w n.toNat).1 (wN w)) else -1000001, w)
theorem c_runOf {d : Nat} {q : Int → mzM → Prop} {n p t : Int} {μ : mzM} {w : Wd} (hW : WOk w) (I : MI μ w) (h : ∀ μ', FM μ μ' → MI μ' (roS w n p t).2 → q (roS w n p t).1 μ') : mzCl (d + 5) 45 [mzR 0, mzI n, mzI p, mzI t] μ (mzQi q) := by
  have hN := hW.1
  unfold roS at h
  refine g45_e _ _ _ _ (c_in (fun a1 a2 => ⟨fun z => absurd z (by decide), fun _ => c_isPlace I.1.1 hW.1 (fun b1 b2 => ⟨fun z => absurd z (by decide), fun _ => c_in (fun e1 e2 => ⟨fun _ => ?_, fun z => absurd z (by decide)⟩) (fun b => ⟨fun z => absurd rfl z, fun _ => c_fd (by omega) I ?_⟩)⟩) (fun a => ⟨fun _ => c_fd (by omega) I ?_, fun z => absurd rfl z⟩)⟩) (fun a => ⟨fun _ => c_fd (by omega) I ?_, fun z => absurd rfl z⟩))
  · rw [if_pos ⟨⟨a1, a2⟩, ⟨b1, b2⟩, e1, e2⟩] at h
    obtain ⟨n, rfl⟩ : ∃ k : Nat, n = k := ⟨n.toNat, by omega⟩
    obtain ⟨p, rfl⟩ : ∃ k : Nat, p = k := ⟨p.toNat, by omega⟩
    rw [Int.toNat_natCast, Int.toNat_natCast] at h
    have pl := pnS_lt hW n
    refine c_plan (by omega) hW I.1 (fun m P => ⟨fun z => ?_, fun z => ⟨by omega, ?_⟩⟩)
    · rw [if_neg z] at h
      rw [P.2.1.1]
      exact c_gets hW (P.1.mw I.1) (by omega) pl.1 (h m P.1.fm (P.1.mi I))
    · rw [if_pos z] at h
      rw [Int.toNat_natCast, P.2.1.2.2.2 p (by omega)]
      exact h m P.1.fm (P.1.mi I)
  · rw [if_neg (by omega)] at h; exact h
  · rw [if_neg (by omega)] at h; exact h
  · rw [if_neg (by omega)] at h; exact h
theorem k_runOf {d : Nat} {q : Int → mzM → Prop} {n p t : Int} {μ : mzM} {w : Wd} (hW : WOk w) (C : CW μ 0 w) (h : ∀ μ', FC μ μ' → CW μ' 0 (roS w n p t).2 → q (roS w n p t).1 μ') : mzCl (d + 6) 143 [mzR 14, mzI n, mzI p, mzI t] μ (mzQi q) := by
  have hN := hW.1
  unfold roS at h
  have fd : ¬ ((0 ≤ n ∧ n ≤ 99) ∧ (0 ≤ p ∧ p < wN w) ∧ 0 ≤ t ∧ t ≤ 1) → mzCl (d + 5) 173 [mzR 14, mzI (-1000001)] μ (mzQi q) := fun c => k_fd (by omega) hW.1 C (by rw [if_neg c] at h; exact h)
  refine g143_e _ _ _ _ ⟨fun z => fd (by omega), fun a1 => ⟨fun z => fd (by omega), fun a2 => k_isPlace C.1 (fun b1 b2 => ⟨fun z => absurd z (by decide), fun _ => ⟨fun z => fd (by omega), fun e1 => ⟨fun e2 => ?_, fun z => fd (by omega)⟩⟩⟩) (fun a => ⟨fun _ => fd (by omega), fun z => absurd rfl z⟩)⟩⟩
  rw [if_pos ⟨⟨a1, a2⟩, ⟨b1, b2⟩, e1, e2⟩] at h
  obtain ⟨n, rfl⟩ : ∃ k : Nat, n = k := ⟨n.toNat, by omega⟩
  obtain ⟨p, rfl⟩ : ∃ k : Nat, p = k := ⟨p.toNat, by omega⟩
  rw [Int.toNat_natCast, Int.toNat_natCast] at h
  have pl := pnS_lt hW n
  refine k_plan (by omega) hW C (fun m P => ⟨fun z => ?_, fun z => ⟨by omega, ?_⟩⟩)
  · rw [if_neg z] at h
    rw [P.2.2.2.1]
    exact k_gets hW P.2.1 (by omega) pl.1 (h m P.1.fc (P.1.cw hW.1 C))
  · rw [if_pos z] at h
    rw [Int.toNat_natCast, P.2.2.2.2.2.2 p (by omega)]
    exact h m P.1.fc (P.1.cw hW.1 C)
theorem p_runOf {d : Nat} {μ : mzM} {w : Wd} {q : Int → Int → mzM → Prop} {n p t : Int} (R : RW μ w) (h : ∀ a μ' w', RW μ' w' → q a a μ') : mzCl (d + 6) 143 [mzR 14, mzI n, mzI p, mzI t] μ (mzQi fun a m1 => mzCl (d + 6) 45 [mzR 0, mzI n, mzI p, mzI t] m1 (mzQi fun c m2 => q a c m2)) :=
  pair (roS w n p t) R R.1 (fun q' z => k_runOf R.1 R.2.2.1 z) (fun m1 q' _ I z => c_runOf R.1 I z) h
/-- when a place is over for the first time -/
def whF (w : Wd) (p : Nat) : Nat → Nat → Int
  | 0, _ => -1000004
  | c + 1, i => if (pnS w (i + 1)).1.testBit p = true then ((i + 1 : Nat) : Int) else whF w p c (i + 1)
def whS (w : Wd) (p : Int) : Int × Wd := (if 0 ≤ p ∧ p < wN w then whF w p.toNat 99 0 else -1000001, w)
theorem c_when {d : Nat} {q : Int → mzM → Prop} {p : Int} {μ : mzM} {w : Wd} (hW : WOk w) (I : MI μ w) (h : ∀ μ', FM μ μ' → MI μ' (whS w p).2 → q (whS w p).1 μ') : mzCl (d + 5) 46 [mzR 0, mzI p] μ (mzQi q) := by
  have hN := hW.1
  unfold whS at h
  have L : ∀ (p : Nat) (hp : p < 12) (c i : Nat) (x2 : Int) (m : mzM), i + c = 99 → x2 = ((i + 1 : Nat) : Int) → PM μ m w i → (∀ μ', FM μ μ' → MI μ' w → q (whF w p c i) μ') → mzWp (d + 5) 46 25 [mzR 0, mzI p, mzI x2] [] m (mzQi q) := by
    intro p hp c
    induction c with
    | zero =>
      intro i x2 m hi hx P hq
      exact g46_25 _ _ _ ⟨fun _ => c_fd (by omega) (P.1.mi I) fun m2 f2 i2 => hq m2 (P.1.fm.tr f2) i2, fun z => by omega⟩
    | succ c ih =>
      intro i x2 m hi hx P hq
      subst hx
      have e1 : mzW (((i + 1 : Nat) : Int) - 1) = (i : Int) := by rw [wid (by omega) (by omega)]; omega
      refine g46_25 _ _ _ ⟨fun z => by omega, fun _ => ?_⟩
      rw [e1]
      refine c_pushesOf hW (P.1.mw I.1) (c_pyear hW I.1 P (fun r m2 P2 => ?_))
      have pl := pnS_lt hW (i + 1)
      rw [P2.2.1.1]
      rw [whF] at hq
      refine c_has (by omega) (by omega) (fun t => ⟨fun z => absurd z (by decide), fun _ => ?_⟩) (fun t => ⟨fun _ => ?_, fun z => absurd rfl z⟩)
      · rw [if_pos t] at hq
        exact hq m2 P2.1.fm (P2.1.mi I)
      · rw [if_neg (by rw [t]; decide)] at hq
        exact ih (i + 1) _ m2 (by omega) (w1 (by omega)) P2 hq
  refine g46_e _ _ (c_isPlace I.1.1 hW.1 (fun b1 b2 => ⟨fun _ => ?_, fun z => absurd z (by decide)⟩) (fun a => ⟨fun z => absurd rfl z, fun _ => c_fd (by omega) I ?_⟩))
  · rw [if_pos ⟨b1, b2⟩] at h
    obtain ⟨p, rfl⟩ : ∃ k : Nat, p = k := ⟨p.toNat, by omega⟩
    rw [Int.toNat_natCast] at h
    exact c_heldNow hW I.1 (c_pbegin hW I.1 fun m P => L p (by omega) 99 0 _ m (by omega) rfl P h)
  · rw [if_neg (by omega)] at h; exact h
theorem k_when {d : Nat} {q : Int → mzM → Prop} {p : Int} {μ : mzM} {w : Wd} (hW : WOk w) (C : CW μ 0 w) (h : ∀ μ', FC μ μ' → CW μ' 0 (whS w p).2 → q (whS w p).1 μ') : mzCl (d + 6) 144 [mzR 14, mzI p] μ (mzQi q) := by
  have hN := hW.1
  unfold whS at h
  have L : ∀ (p : Nat) (hp : p < 12) (c i : Nat) (x2 : Int) (m : mzM), i + c = 99 → x2 = ((i + 1 : Nat) : Int) → PC μ m w i → (∀ μ', FC μ μ' → CW μ' 0 w → q (whF w p c i) μ') → mzWp (d + 6) 144 22 [mzR 14, mzI p, mzI x2] [] m (mzQi q) := by
    intro p hp c
    induction c with
    | zero =>
      intro i x2 m hi hx P hq
      exact g144_22 _ _ _ ⟨fun _ => k_fd (by omega) hN (P.1.cw hN C) fun m2 f2 i2 => hq m2 (P.1.fc.tr f2) i2, fun z => by omega⟩
    | succ c ih =>
      intro i x2 m hi hx P hq
      subst hx
      have e1 : mzW (((i + 1 : Nat) : Int) - 1) = (i : Int) := by rw [wid (by omega) (by omega)]; omega
      refine g144_22 _ _ _ ⟨fun z => by omega, fun _ => ?_⟩
      rw [e1]
      refine k_pushedIn hW (P.1.cw hN C) (k_pyear hW C P (fun r m2 P2 => ?_))
      have pl := pnS_lt hW (i + 1)
      rw [P2.2.2.2.1]
      rw [whF] at hq
      refine ⟨fun z => ?_, fun z => ?_⟩
      · rw [nBit0 (by omega) (by omega)] at z
        rw [if_neg (by rw [z]; decide)] at hq
        exact ih (i + 1) _ m2 (by omega) (w1 (by omega)) P2 hq
      · rw [nBit1 (by omega) (by omega)] at z
        rw [if_pos z] at hq
        exact hq m2 P2.1.fc (P2.1.cw hN C)
  refine g144_e _ _ (k_isPlace C.1 (fun b1 b2 => ⟨fun _ => ?_, fun z => absurd z (by decide)⟩) (fun a => ⟨fun z => absurd rfl z, fun _ => k_fd (by omega) hN C ?_⟩))
  · rw [if_pos ⟨b1, b2⟩] at h
    obtain ⟨p, rfl⟩ : ∃ k : Nat, p = k := ⟨p.toNat, by omega⟩
    rw [Int.toNat_natCast] at h
    exact k_plan (n := 0) (by omega) hW C fun m P => L p (by omega) 99 0 _ m (by omega) rfl P h
  · rw [if_neg (by omega)] at h; exact h
theorem p_when {d : Nat} {μ : mzM} {w : Wd} {q : Int → Int → mzM → Prop} {p : Int} (R : RW μ w) (h : ∀ a μ' w', RW μ' w' → q a a μ') : mzCl (d + 6) 144 [mzR 14, mzI p] μ (mzQi fun a m1 => mzCl (d + 6) 46 [mzR 0, mzI p] m1 (mzQi fun c m2 => q a c m2)) :=
  pair (whS w p) R R.1 (fun q' z => k_when R.1 R.2.2.1 z) (fun m1 q' _ I z => c_when R.1 I z) h
def seF (w : Wd) : Nat → Int
  | 0 => 0
  | k + 1 => if (pnS w (k + 1)).1 ≠ (pnS w k).1 ∨ (pnS w (k + 1)).2.1 ≠ (pnS w k).2.1 then ((k + 1 : Nat) : Int) else seF w k
theorem c_settles {d : Nat} {q : Int → mzM → Prop} {μ : mzM} {w : Wd} (hW : WOk w) (I : MI μ w) (h : ∀ μ', FM μ μ' → MI μ' w → q (seF w 99) μ') : mzCl (d + 5) 47 [mzR 0] μ (mzQi q) := by
  have L : ∀ (c i : Nat) (x2 : Int) (m : mzM), i + c = 99 → x2 = ((i + 1 : Nat) : Int) → PM μ m w i → mzWp (d + 5) 47 12 [mzR 0, mzI (seF w i), mzI x2, none, none] [] m (mzQi q) := by
    intro c
    induction c with
    | zero =>
      intro i x2 m hi hx P
      have : i = 99 := by omega
      subst this
      exact g47_12 _ _ _ ⟨fun _ => h m P.1.fm (P.1.mi I), fun z => by omega⟩
    | succ c ih =>
      intro i x2 m hi hx P
      subst hx
      have e1 : mzW (((i + 1 : Nat) : Int) - 1) = (i : Int) := by rw [wid (by omega) (by omega)]; omega
      refine g47_12 _ _ _ ⟨fun z => by omega, fun _ => ?_⟩
      rw [e1]
      refine c_pushesOf hW (P.1.mw I.1) (c_pyear hW I.1 P (fun r m2 P2 => ?_))
      rw [P2.2.1.1, P2.2.1.2.1, P.2.1.1, P.2.1.2.1]
      have go := ih (i + 1) (mzW (((i + 1 : Nat) : Int) + 1)) m2 (by omega) (w1 (by omega)) P2
      rw [seF] at go
      refine ⟨fun z => ?_, fun z => ⟨fun z2 => ?_, fun z2 => ?_⟩⟩
      · rw [if_pos (Or.inl (fun c => z (by rw [c])))] at go; exact go
      · rw [if_neg (by omega)] at go; exact go
      · rw [if_pos (Or.inr (fun c => z2 (by rw [c])))] at go; exact go
  exact g47_e _ (c_heldNow hW I.1 (c_pbegin hW I.1 fun m P => L 99 0 _ m (by omega) rfl P))
theorem k_settles {d : Nat} {q : Int → mzM → Prop} {μ : mzM} {w : Wd} (hW : WOk w) (C : CW μ 0 w) (h : ∀ μ', FC μ μ' → CW μ' 0 w → q (seF w 99) μ') : mzCl (d + 6) 145 [mzR 14] μ (mzQi q) := by
  have hN := hW.1
  have L : ∀ (c i : Nat) (x2 : Int) (m : mzM), i + c = 99 → x2 = ((i + 1 : Nat) : Int) → PC μ m w i → mzWp (d + 6) 145 9 [mzR 14, mzI (seF w i), mzI x2, none, none] [] m (mzQi q) := by
    intro c
    induction c with
    | zero =>
      intro i x2 m hi hx P
      have : i = 99 := by omega
      subst this
      exact g145_9 _ _ _ ⟨fun _ => h m P.1.fc (P.1.cw hN C), fun z => by omega⟩
    | succ c ih =>
      intro i x2 m hi hx P
      subst hx
      have e1 : mzW (((i + 1 : Nat) : Int) - 1) = (i : Int) := by rw [wid (by omega) (by omega)]; omega
      refine g145_9 _ _ _ ⟨fun z => by omega, fun _ => ?_⟩
      rw [e1]
      refine k_pushedIn hW (P.1.cw hN C) (k_pyear hW C P (fun r m2 P2 => ?_))
      rw [P2.2.2.2.1, P2.2.2.2.2.1, P.2.2.2.1, P.2.2.2.2.1]
      have go := ih (i + 1) (mzW (((i + 1 : Nat) : Int) + 1)) m2 (by omega) (w1 (by omega)) P2
      rw [seF] at go
      refine ⟨fun z => ?_, fun z => ⟨fun z2 => ?_, fun z2 => ?_⟩⟩
      · rw [if_pos (Or.inl (fun c => z (by rw [c])))] at go; exact go
      · rw [if_neg (by omega)] at go; exact go
      · rw [if_pos (Or.inr (fun c => z2 (by rw [c])))] at go; exact go
  exact g145_e _ (k_plan (n := 0) (by omega) hW C fun m P => L 99 0 _ m (by omega) rfl P)
theorem p_settles {d : Nat} {μ : mzM} {w : Wd} {q : Int → Int → mzM → Prop} (R : RW μ w) (h : ∀ a μ' w', RW μ' w' → q a a μ') : mzCl (d + 6) 145 [mzR 14] μ (mzQi fun a m1 => mzCl (d + 6) 47 [mzR 0] m1 (mzQi fun c m2 => q a c m2)) :=
  pair (seF w 99, w) R R.1 (fun q' z => k_settles R.1 R.2.2.1 z) (fun m1 q' _ I z => c_settles R.1 I z) h
