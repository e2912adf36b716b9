/-! PAIRS: stand, late, must, look -/
theorem k_held {μ : mzM} {w : Wd} (C : CW μ 0 w) : μ 26 3 = (hw w : Nat) := C.2.2.2.1
def stdS (w : Wd) (s : Int) : Int × Wd := (if 0 ≤ s ∧ s < (2 ^ wN w : Nat) then (saS w s.toNat : Int) else -1000001, w)
theorem c_stand {d : Nat} {q : Int → mzM → Prop} {s : Int} {μ : mzM} {w : Wd} (hW : WOk w) (I : MI μ w) (h : ∀ μ', FM μ μ' → MI μ' (stdS w s).2 → q (stdS w s).1 μ') : mzCl (d + 5) 50 [mzR 0, mzI s] μ (mzQi q) := by
  unfold stdS at h
  refine g50_e _ _ (c_isSet I.1.1 hW.1 (fun n e1 e2 => ⟨fun z => absurd z (by decide), fun _ => ?_⟩) (fun a => ⟨fun _ => c_fd (by omega) I ?_, fun z => absurd rfl z⟩))
  · subst e1
    rw [if_pos (by omega), Int.toNat_natCast] at h
    exact c_heldNow hW I.1 (c_standOf hW I.1 (hw_lt hW) e2 (fun m f => h m f.fm (f.mi I)))
  · rw [if_neg (by omega)] at h; exact h
theorem k_stand {d : Nat} {q : Int → mzM → Prop} {s : Int} {μ : mzM} {w : Wd} (hW : WOk w) (C : CW μ 0 w) (h : ∀ μ', FC μ μ' → CW μ' 0 (stdS w s).2 → q (stdS w s).1 μ') : mzCl (d + 5) 146 [mzR 14, mzI s] μ (mzQi q) := by
  have hN := hW.1
  unfold stdS at h
  refine g146_e _ _ (k_isSet C.1 hW.1 (fun n e1 e2 => ⟨fun _ => ?_, fun z => absurd z (by decide)⟩) (fun a => ⟨fun z => absurd rfl z, fun _ => k_fd (by omega) hN C ?_⟩))
  · subst e1
    rw [if_pos (by omega), Int.toNat_natCast] at h
    refine k_survey hW C (fun m1 f1 G1 H1 => ?_)
    have C1 := f1.cw hN C
    rw [k_held C1]
    exact k_standOf hW C1 G1 H1 (hw_lt hW) e2 (fun m f => h m (f1.tr f.ef).fc (f.ef.cw hN C1))
  · rw [if_neg (by omega)] at h; exact h
theorem p_stand {d : Nat} {μ : mzM} {w : Wd} {q : Int → Int → mzM → Prop} {s : Int} (R : RW μ w) (h : ∀ a μ' w', RW μ' w' → q a a μ') : mzCl (d + 5) 146 [mzR 14, mzI s] μ (mzQi fun a m1 => mzCl (d + 5) 50 [mzR 0, mzI s] m1 (mzQi fun c m2 => q a c m2)) :=
  pair (stdS w s) R R.1 (fun q' z => k_stand R.1 R.2.2.1 z) (fun m1 q' _ I z => c_stand R.1 I z) h
/-- behind how many years all are over; -1: never -/
def alF (w : Wd) (H : Nat → Int) (h : Nat) (pus : Nat → Nat) : Nat → Nat → Int
  | 0, _ => -1
  | c + 1, i => if (ysS w H h pus (i + 1) st0).1 = 2 ^ wN w - 1 then ((i + 1 : Nat) : Int) else alF w H h pus c (i + 1)
theorem alF_bd (w : Wd) (H : Nat → Int) (h : Nat) (pus : Nat → Nat) : ∀ c i, alF w H h pus c i = -1 ∨ ((i : Int) + 1 ≤ alF w H h pus c i ∧ alF w H h pus c i ≤ i + c) := by
  intro c
  induction c with
  | zero => intro i; exact Or.inl rfl
  | succ c ih =>
    intro i
    rw [alF]
    split
    · exact Or.inr ⟨by omega, by omega⟩
    · rcases ih (i + 1) with h1 | h1
      · exact Or.inl h1
      · exact Or.inr ⟨by omega, by omega⟩
theorem c_allIn {d years : Nat} {q : Int → mzM → Prop} {h : Nat} {pus : Nat → Nat} {μ : mzM} {w : Wd} (hW : WOk w) (I : MW μ 1 w) (hy : years ≤ 49) (hh : h < 4096) (hpu : ∀ k, pus k < 2 ^ wN w) (ha : ∀ k, k < 50 → μ 9 k = (pus k : Nat)) (Y : YM μ (wN w) h st0) (HH : HM μ (wN w) (H0 w))
    (hq : ∀ μ', BF μ μ' → q (alF w (H0 w) h pus years 0) μ') : mzCl (d + 4) 51 [mzR 0, mzI years] μ (mzQi q) := by
  have p0 : 0 < 2 ^ wN w := Nat.pow_pos (by omega)
  have L : ∀ (c i : Nat) (x2 : Int) (m : mzM), i + c = years → x2 = ((i + 1 : Nat) : Int) → BF μ m → YM m (wN w) h (ysS w (H0 w) h pus i st0) → HM m (wN w) (H0 w) → (∀ μ', BF μ μ' → q (alF w (H0 w) h pus c i) μ') → mzWp (d + 4) 51 2 [mzR 0, mzI years, mzI x2] [] m (mzQi q) := by
    intro c
    induction c with
    | zero =>
      intro i x2 m hi hx f Y HH hq
      exact g51_2 _ _ _ ⟨fun _ => hq m f, fun z => by omega⟩
    | succ c ih =>
      intro i x2 m hi hx f Y HH hq
      subst hx
      have e1 : mzW (((i + 1 : Nat) : Int) - 1) = (i : Int) := by rw [wid (by omega) (by omega)]; omega
      refine g51_2 _ _ _ ⟨fun z => by omega, fun _ => ?_⟩
      rw [e1, Int.toNat_natCast, f 9 i (by omega) (by omega) (by omega), ha i (by omega)]
      refine ⟨by omega, c_yr hW (f.mw I) HH hh (hpu i) Y (fun r m2 f2 Y2 _ => ?_)⟩
      have I2 := (f.tr f2.bf).mw I
      refine c_every I2.1 hW.1 ?_
      rw [Y2.1]
      rw [alF] at hq
      refine ⟨fun z => ?_, fun z => ?_⟩
      · rw [if_neg (fun c => z (by rw [c]))] at hq
        exact ih (i + 1) _ m2 (by omega) (w1 (by omega)) (f.tr f2.bf) Y2 (f2.hm HH) hq
      · rw [if_pos (by omega)] at hq
        exact hq m2 (f.tr f2.bf)
  exact g51_e _ _ (L years 0 1 μ (by omega) rfl BF.rf Y HH hq)
theorem c_asksNothing {d : Nat} {q : mzM → Prop} {μ : mzM} (h : ∀ μ', (∀ k j, k ≠ 9 → μ' k j = μ k j) → (∀ j, j < 50 → μ' 9 j = 0) → q μ') : mzCl d 52 [mzR 0] μ (mzQv q) := by
  have L : ∀ (c i : Nat) (m : mzM), i + c = 50 → (∀ k j, k ≠ 9 → m k j = μ k j) → (∀ j, j < i → m 9 j = 0) → mzWp d 52 2 [mzR 0, mzI i] [] m (mzQv q) := by
    intro c
    induction c with
    | zero =>
      intro i m hi e1 e2
      have : i = 50 := by omega
      subst this
      exact g52_2 _ _ ⟨fun _ => h m e1 e2, fun z => by omega⟩
    | succ c ih =>
      intro i m hi e1 e2
      refine g52_2 _ _ ⟨fun z => by omega, fun _ => ⟨by omega, ?_⟩⟩
      rw [w1 (by omega), Int.toNat_natCast]
      refine ih (i + 1) _ (by omega) (fun k j hk => by rw [S_ne (by omega)]; exact e1 k j hk) (fun j hj => ?_)
      by_cases c1 : j = i
      · rw [c1, S_eq]
      · rw [S_ne (by omega)]; exact e2 j (by omega)
  exact g52_e _ (L 50 0 μ (by omega) (fun _ _ _ => rfl) (fun j hj => absurd hj (by omega)))
/-- what the orders write: asked -/
def AF (μ μ' : mzM) : Prop := ∀ k j, k ≠ 9 → μ' k j = μ k j
theorem AF.fm {μ μ' : mzM} (f : AF μ μ') : FM μ μ' := fun k j h => f k j (fun c => h (by unfold scM; omega))
theorem AF.mi {μ μ' : mzM} {w : Wd} (f : AF μ μ') (h : MI μ w) : MI μ' w := h.cg (f 0 4 (by omega)) (fun j => f 1 j (by omega)) (fun j => f 8 j (by omega))
def laF (w : Wd) (s : Nat) : Int := alF w (H0 w) (hw w) (s1P s) 24 0
def laS (w : Wd) (s : Int) : Int × Wd := (if 0 ≤ s ∧ s < (2 ^ wN w : Nat) then (if laF w s.toNat < 0 then -1000004 else laF w s.toNat) else -1000001, w)
theorem c_late {d : Nat} {q : Int → mzM → Prop} {s : Int} {μ : mzM} {w : Wd} (hW : WOk w) (I : MI μ w) (h : ∀ μ', FM μ μ' → MI μ' (laS w s).2 → q (laS w s).1 μ') : mzCl (d + 5) 53 [mzR 0, mzI s] μ (mzQi q) := by
  unfold laS at h
  refine g53_e _ _ (c_isSet I.1.1 hW.1 (fun n e1 e2 => ⟨fun _ => ?_, fun z => absurd z (by decide)⟩) (fun a => ⟨fun z => absurd rfl z, fun _ => c_fd (by omega) I ?_⟩))
  · subst e1
    rw [if_pos (by omega), Int.toNat_natCast] at h
    refine c_asksNothing (fun m1 f1 a1 => ⟨by omega, ?_⟩)
    have fA : AF μ (mzS m1 9 0 n) := fun k j hk => by rw [S_ne (by omega)]; exact f1 k j hk
    have I2 := fA.mi I
    refine c_heldNow hW I2.1 (c_begins hW I2.1 (fun m3 f3 Y3 H3 => ?_))
    refine c_allIn (pus := s1P n) (years := 24) hW (f3.mw I2.1) (by omega) (hw_lt hW) (fun k => s1P_lt e2) (fun k hk => ?_) Y3 H3 (fun m4 f4 => ?_)
    · rw [f3 9 k (by omega) (by omega) (by omega)]
      unfold s1P
      by_cases c : k = 0
      · rw [c, S_eq]; rfl
      · rw [S_ne (by omega), if_neg c]; exact a1 k hk
    · have hm := h m4 (fA.fm.tr (f3.tr f4).fm) ((f3.tr f4).mi I2)
      refine ⟨fun z => ?_, fun z => ?_⟩
      · rw [if_neg (by unfold laF; omega)] at hm; exact hm
      · refine c_fd (by omega) ((f3.tr f4).mi I2) (fun m5 f5 I5 => ?_)
        have := h m5 ((fA.fm.tr (f3.tr f4).fm).tr f5) I5
        rw [if_pos (by unfold laF; omega)] at this
        exact this
  · rw [if_neg (by omega)] at h; exact h
theorem k_late {d : Nat} {q : Int → mzM → Prop} {s : Int} {μ : mzM} {w : Wd} (hW : WOk w) (C : CW μ 0 w) (h : ∀ μ', FC μ μ' → CW μ' 0 (laS w s).2 → q (laS w s).1 μ') : mzCl (d + 5) 147 [mzR 14, mzI s] μ (mzQi q) := by
  have hN := hW.1
  have p0 : 0 < 2 ^ wN w := Nat.pow_pos (by omega)
  unfold laS at h
  refine g147_e _ _ (k_isSet C.1 hW.1 (fun n e1 e2 => ⟨fun _ => ?_, fun z => absurd z (by decide)⟩) (fun a => ⟨fun z => absurd rfl z, fun _ => k_fd (by omega) hN C ?_⟩))
  · subst e1
    rw [if_pos (by omega), Int.toNat_natCast] at h
    refine k_survey hW C (fun m1 f1 G1 H1 => ?_)
    have C1 := f1.cw hN C
    rw [k_held C1]
    have L : ∀ (c i : Nat) (x2 : Int) (m : mzM), i + c = 24 → x2 = ((i + 1 : Nat) : Int) → NF m1 m → YC m (wN w) (hw w) (ysS w (H0 w) (hw w) (s1P n) i st0) → (∀ μ', FC μ μ' → CW μ' 0 w → q (if alF w (H0 w) (hw w) (s1P n) c i < 0 then -1000004 else alF w (H0 w) (hw w) (s1P n) c i) μ') → mzWp (d + 5) 147 38 [mzR 14, mzI n, mzI x2] [] m (mzQi q) := by
      intro c
      induction c with
      | zero =>
        intro i x2 m hi hx f Y hq
        rw [alF, if_pos (by decide)] at hq
        exact g147_38 _ _ _ ⟨fun _ => k_fd (by omega) hN (f.ef.cw hN C1) fun m2 f2 i2 => hq m2 ((f1.tr f.ef).fc.tr f2) i2, fun z => by omega⟩
      | succ c ih =>
        intro i x2 m hi hx f Y hq
        subst hx
        have Cm := f.ef.cw hN C1
        rw [alF] at hq
        -- behind the year
        have go : ∀ m2, ZF m m2 → YC m2 (wN w) (hw w) (ysS w (H0 w) (hw w) (s1P n) (i + 1) st0) → mzCl (d + 4) 94 [mzR 26] m2 (mzQi fun r6 m5 => (m2 16 7 ≠ r6 → mzWp (d + 5) 147 38 [mzR 14, mzI n, mzI (mzW (((i + 1 : Nat) : Int) + 1))] [] m5 (mzQi q)) ∧ (m2 16 7 = r6 → q ((i + 1 : Nat) : Int) m5)) := by
          intro m2 f2 Y2
          have C2 := f2.nf.ef.cw hN Cm
          refine k_all C2.1 hN ?_
          rw [Y2.1]
          refine ⟨fun z => ?_, fun z => ?_⟩
          · have cA : ¬ (ysS w (H0 w) (hw w) (s1P n) (i + 1) st0).1 = 2 ^ wN w - 1 := fun c => z (by rw [c])
            rw [if_neg cA] at hq
            exact ih (i + 1) _ m2 (by omega) (w1 (by omega)) (f.tr f2.nf) Y2 hq
          · have := hq m2 (f1.tr (f.tr f2.nf).ef).fc C2
            rw [if_pos (Int.ofNat.inj z), if_neg (by omega)] at this
            exact this
        refine g147_38 _ _ _ ⟨fun z => by omega, fun _ => ⟨fun z => ?_, fun z => ?_⟩⟩
        · have e0 : s1P n i = 0 := if_neg (by omega)
          have hy := k_yr (d := d + 2) (k := i) (pus := s1P n) (q := fun r4 m3 => mzCl (d + 4) 94 [mzR 26] m3 (mzQi fun r6 m5 => (m3 16 7 ≠ r6 → mzWp (d + 5) 147 38 [mzR 14, mzI n, mzI (mzW (((i + 1 : Nat) : Int) + 1))] [] m5 (mzQi q)) ∧ (m3 16 7 = r6 → q ((i + 1 : Nat) : Int) m5))) hW Cm (f.gm hN G1) (f.hc H1) (hw_lt hW) (s1P_lt e2) Y (fun r m2 f2 Y2 _ => go m2 f2 Y2)
          rw [e0] at hy
          exact hy
        · have i0 : i = 0 := by omega
          subst i0
          exact k_yr (k := 0) (pus := s1P n) hW Cm (f.gm hN G1) (f.hc H1) (hw_lt hW) (s1P_lt e2) Y (fun r m2 f2 Y2 _ => go m2 f2 Y2)
    exact k_begin (n := wN w) hN (fun m f Y => L 24 0 1 m (by omega) rfl f Y h)
  · rw [if_neg (by omega)] at h; exact h
theorem p_late {d : Nat} {μ : mzM} {w : Wd} {q : Int → Int → mzM → Prop} {s : Int} (R : RW μ w) (h : ∀ a μ' w', RW μ' w' → q a a μ') : mzCl (d + 5) 147 [mzR 14, mzI s] μ (mzQi fun a m1 => mzCl (d + 5) 53 [mzR 0, mzI s] m1 (mzQi fun c m2 => q a c m2)) :=
  pair (laS w s) R R.1 (fun q' z => k_late R.1 R.2.2.1 z) (fun m1 q' _ I z => c_late R.1 I z) h
