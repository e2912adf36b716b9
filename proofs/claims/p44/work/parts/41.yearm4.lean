/-! THE REFERENCE: it begins, the plan, STAND -/
def BF (μ μ' : mzM) : Prop := ∀ k j, k ≠ 6 → k ≠ 7 → (k ≠ 0 ∨ (j ≠ 13 ∧ j ≠ 14 ∧ j ≠ 15)) → μ' k j = μ k j
theorem BF.rf {μ : mzM} : BF μ μ := fun _ _ _ _ _ => rfl
theorem BF.tr {μ μ' μ'' : mzM} (h : BF μ μ') (h2 : BF μ' μ'') : BF μ μ'' := fun a b h1 h3 h4 => (h2 a b h1 h3 h4).trans (h a b h1 h3 h4)
theorem BF.st {μ μ' : mzM} {k j : Nat} {v : Int} (h : BF μ μ') (hs : k = 6 ∨ k = 7 ∨ (k = 0 ∧ (j = 13 ∨ j = 14 ∨ j = 15))) : BF μ (mzS μ' k j v) := fun a b h1 h2 h3 => by
  rw [S_ne (by omega)]
  exact h a b h1 h2 h3
theorem YF.bf {μ μ' : mzM} (h : YF μ μ') : BF μ μ' := fun k j h1 _ h3 => h k j h1 (by omega)
theorem BF.mw {μ μ' : mzM} {w : Wd} (f : BF μ μ') (h : MW μ 1 w) : MW μ' 1 w := h.cg fun j => f 1 j (by omega) (by omega) (by omega)
theorem BF.fm {μ μ' : mzM} (f : BF μ μ') : FM μ μ' := fun k j h => f k j (fun c => h (by unfold scM; omega)) (fun c => h (by unfold scM; omega)) (by unfold scM at h; omega)
theorem BF.mi {μ μ' : mzM} {w : Wd} (f : BF μ μ') (h : MI μ w) : MI μ' w := h.cg (f 0 4 (by omega) (by omega) (by omega)) (fun j => f 1 j (by omega) (by omega) (by omega)) (fun j => f 8 j (by omega) (by omega) (by omega))
theorem c_begins {d : Nat} {q : mzM → Prop} {w : Wd} {h : Nat} {μ : mzM} (hW : WOk w) (I : MW μ 1 w) (hq : ∀ μ', BF μ μ' → YM μ' (wN w) h st0 → HM μ' (wN w) (H0 w) → q μ') : mzCl (d + 2) 33 [mzR 0, mzI h] μ (mzQv q) := by
  have hN := hW.1
  have L : ∀ (c i : Nat) (m : mzM), i + c = wN w → BF μ m → m 0 13 = 0 → m 0 14 = 0 → m 0 15 = h → (∀ p, p < i → m 6 p = 0 ∧ m 7 p = H0 w p) → mzWp (d + 2) 33 17 [mzR 0, none, mzI i] [] m (mzQv q) := by
    intro c
    induction c with
    | zero =>
      intro i m hi f e13 e14 e15 e
      have : i = wN w := by omega
      subst this
      have hm0 : m 1 0 = wN w := (f.mw I).1
      exact g33_17 _ _ ⟨by omega, fun _ => hq m f ⟨e13, e14, e15, fun p hp => (e p hp).1⟩ (fun p hp => (e p hp).2), fun z => by omega⟩
    | succ c ih =>
      intro i m hi f e13 e14 e15 e
      have Im := f.mw I
      have hm0 : m 1 0 = wN w := Im.1
      have hin : i < wN w := by omega
      refine g33_17 _ _ ⟨by omega, fun z => by omega, fun _ => ⟨by omega, ?_⟩⟩
      rw [Int.toNat_natCast, w1 (by omega)]
      have I2 : MW (mzS m 6 i 0) 1 w := Im.cg fun j => S_ne (by omega)
      refine c_height (b := wT w i 1) (by omega) (I2.T hin (by omega)) (I2.T hin (by omega)) (I2.T hin (by omega)) (T1_ok hW hin) (T8_ok hW hin) ⟨by omega, ?_⟩
      refine ih (i + 1) _ (by omega) ((f.st (by omega)).st (by omega)) (by rw [S_ne (by omega), S_ne (by omega)]; exact e13) (by rw [S_ne (by omega), S_ne (by omega)]; exact e14) (by rw [S_ne (by omega), S_ne (by omega)]; exact e15) (fun p hp => ?_)
      by_cases cp : p = i
      · rw [cp, S_eq, S_ne (by omega), S_eq]; exact ⟨rfl, rfl⟩
      · rw [S_ne (by omega), S_ne (by omega), S_ne (by omega), S_ne (by omega)]; exact e p (by omega)
  exact g33_e _ _ (L (wN w) 0 _ (by omega) (((BF.rf.st (by omega)).st (by omega)).st (by omega)) (by rw [S_ne (by omega), S_ne (by omega), S_eq]) (by rw [S_ne (by omega), S_eq]) S_eq (fun p hp => absurd hp (by omega)))
/-- a year of a chain -/
theorem c_yr {d k : Nat} {q : Int → mzM → Prop} {w : Wd} {h : Nat} {pus : Nat → Nat} {μ : mzM} (hW : WOk w) (I : MW μ 1 w) (hH : HM μ (wN w) (H0 w)) (hh : h < 4096) (hpu : pus k < 2 ^ wN w) (Y : YM μ (wN w) h (ysS w (H0 w) h pus k st0))
    (hq : ∀ r μ', YF μ μ' → YM μ' (wN w) h (ysS w (H0 w) h pus (k + 1) st0) → (r = 0 → pus k = 0 → ysS w (H0 w) h pus (k + 1) st0 = ysS w (H0 w) h pus k st0) → q r μ') : mzCl (d + 3) 38 [mzR 0, mzI (pus k : Nat)] μ (mzQi q) :=
  c_year hW I hH hh hpu (ysS_ok hW (st0_ok _) k) Y hq
def pnP (w : Wd) : Nat → Nat := fun y => puS w y
def pnS (w : Wd) (n : Nat) : St := ysS w (H0 w) (hw w) (pnP w) n st0
theorem pnP_lt {w : Wd} (hW : WOk w) (y : Nat) : pnP w y < 2 ^ wN w := puS_lt hW _
theorem pnS_ok {w : Wd} (hW : WOk w) (n : Nat) : YI (wN w) (pnS w n) := ysS_ok hW (st0_ok _) n
theorem pnS_lt {w : Wd} (hW : WOk w) (n : Nat) : (pnS w n).1 < 4096 ∧ (pnS w n).2.1 < 4096 := ⟨Nat.lt_of_lt_of_le (pnS_ok hW n).1 (pow12 hW.1), Nat.lt_of_lt_of_le (pnS_ok hW n).2.1 (pow12 hW.1)⟩
/-- what stands between years of the plan -/
def PM (μ0 μ : mzM) (w : Wd) (n : Nat) : Prop := BF μ0 μ ∧ YM μ (wN w) (hw w) (pnS w n) ∧ HM μ (wN w) (H0 w)
theorem c_pbegin {d : Nat} {q : mzM → Prop} {w : Wd} {μ : mzM} (hW : WOk w) (I : MW μ 1 w) (hq : ∀ μ', PM μ μ' w 0 → q μ') : mzCl (d + 2) 33 [mzR 0, mzI (hw w : Nat)] μ (mzQv q) := c_begins hW I fun μ' f y h => hq μ' ⟨f, y, h⟩
theorem c_pyear {d n : Nat} {q : Int → mzM → Prop} {w : Wd} {μ0 μ : mzM} (hW : WOk w) (I : MW μ0 1 w) (P : PM μ0 μ w n) (hq : ∀ r μ', PM μ0 μ' w (n + 1) → q r μ') : mzCl (d + 3) 38 [mzR 0, mzI (puS w n : Nat)] μ (mzQi q) :=
  c_yr (pus := pnP w) (k := n) hW (P.1.mw I) P.2.2 (hw_lt hW) (pnP_lt hW n) P.2.1 fun r μ' f y _ => hq r μ' ⟨P.1.tr f.bf, y, f.hm P.2.2⟩
theorem c_plan {d n : Nat} {q : mzM → Prop} {w : Wd} {μ : mzM} (hn : n ≤ 99) (hW : WOk w) (I : MW μ 1 w) (hq : ∀ μ', PM μ μ' w n → q μ') : mzCl (d + 4) 40 [mzR 0, mzI n] μ (mzQv q) := by
  have L : ∀ (c i : Nat) (m : mzM), i + c = n → PM μ m w i → mzWp (d + 4) 40 10 [mzR 0, mzI n, mzI i] [] m (mzQv q) := by
    intro c
    induction c with
    | zero =>
      intro i m hi P
      have : i = n := by omega
      subst this
      exact g40_10 _ _ _ ⟨fun _ => hq m P, fun z => by omega⟩
    | succ c ih =>
      intro i m hi P
      refine g40_10 _ _ _ ⟨fun z => by omega, fun _ => c_pushesOf hW (P.1.mw I) (c_pyear hW I P (fun r m2 P2 => ?_))⟩
      rw [w1 (by omega)]
      exact ih (i + 1) m2 (by omega) P2
  exact g40_e _ _ (c_heldNow hW I (c_pbegin hW I (fun m P => L n 0 m (by omega) P)))
/-- a set that is pushed at once -/
def s1P (s : Nat) : Nat → Nat := fun y => if y = 0 then s else 0
theorem ys_fix {w : Wd} {H : Nat → Int} {h i : Nat} {pus : Nat → Nat} (hi : ∀ k, i ≤ k → pus k = 0) (e : ysS w H h pus (i + 1) st0 = ysS w H h pus i st0) : ∀ k, ysS w H h pus (i + k) st0 = ysS w H h pus i st0 := by
  intro k
  induction k with
  | zero => rfl
  | succ k ih =>
    have e1 : ysS w H h pus (i + 1) st0 = yrS w H h 0 (ysS w H h pus i st0) := by
      show yrS w H h (pus i) _ = _
      rw [hi i (Nat.le_refl _)]
    show yrS w H h (pus (i + k)) (ysS w H h pus (i + k) st0) = _
    rw [hi (i + k) (by omega), ih, ← e1, e]
theorem s1P_lt {s n k : Nat} (hs : s < 2 ^ n) : s1P s k < 2 ^ n := by
  unfold s1P
  split
  · exact hs
  · exact Nat.pow_pos (by omega)
theorem c_standOf {d : Nat} {q : Int → mzM → Prop} {w : Wd} {h s : Nat} {μ : mzM} (hW : WOk w) (I : MW μ 1 w) (hh : h < 4096) (hs : s < 2 ^ wN w) (hq : ∀ μ', BF μ μ' → q (stS w (H0 w) h s : Nat) μ') : mzCl (d + 4) 48 [mzR 0, mzI s, mzI h] μ (mzQi q) := by
  have fin : ∀ (i : Nat) (m : mzM), BF μ m → YM m (wN w) h (ysS w (H0 w) h (s1P s) i st0) → ysS w (H0 w) h (s1P s) 24 st0 = ysS w (H0 w) h (s1P s) i st0 → q (m 0 13) m := by
    intro i m f Y e
    have := hq m f
    rw [Y.1, ← e]
    exact this
  have L : ∀ (c i : Nat) (x3 : Int) (m : mzM), i + c = 24 → BF μ m → YM m (wN w) h (ysS w (H0 w) h (s1P s) i st0) → HM m (wN w) (H0 w) → (x3 = 0 → ysS w (H0 w) h (s1P s) 24 st0 = ysS w (H0 w) h (s1P s) i st0) → mzWp (d + 4) 48 10 [mzR 0, mzI s, none, mzI x3, mzI i] [] m (mzQi q) := by
    intro c
    induction c with
    | zero =>
      intro i x3 m hi f Y HH hx
      have : i = 24 := by omega
      subst this
      exact g48_10 _ _ _ _ ⟨fun _ => fin 24 m f Y rfl, fun z => by omega⟩
    | succ c ih =>
      intro i x3 m hi f Y HH hx
      have ew : mzW ((i : Int) + 1) = ((i + 1 : Nat) : Int) := w1 (by omega)
      refine g48_10 _ _ _ _ ⟨fun z => by omega, fun _ => ⟨fun z => fin i m f Y (hx z), fun _ => ⟨fun z0 => ?_, fun z0 => ?_⟩⟩⟩
      · have e0 : s1P s i = 0 := if_neg (by omega)
        have hy := c_yr (d := d) (k := i) (pus := s1P s) (q := fun r2 m1 => (r2 ≠ 0 → mzWp (d + 4) 48 10 [mzR 0, mzI s, none, mzI 1, mzI (mzW ((i : Int) + 1))] [] m1 (mzQi q)) ∧ (r2 = 0 → ((i : Int) ≠ 0 → mzWp (d + 4) 48 10 [mzR 0, mzI s, none, mzI 0, mzI (mzW ((i : Int) + 1))] [] m1 (mzQi q)) ∧ ((i : Int) = 0 → mzWp (d + 4) 48 10 [mzR 0, mzI s, none, mzI 1, mzI (mzW ((i : Int) + 1))] [] m1 (mzQi q)))) hW (f.mw I) HH hh (s1P_lt hs) Y (fun r m2 f2 Y2 e => by
          rw [ew]
          refine ⟨fun _ => ih (i + 1) 1 m2 (by omega) (f.tr f2.bf) Y2 (f2.hm HH) (fun c => absurd c (by decide)), fun r0 => ⟨fun _ => ih (i + 1) 0 m2 (by omega) (f.tr f2.bf) Y2 (f2.hm HH) (fun _ => ?_), fun c => absurd c z0⟩⟩
          have e3 := e r0 e0
          have := ys_fix (pus := s1P s) (fun k hk => if_neg (by omega)) e3 (24 - i)
          rw [show i + (24 - i) = 24 by omega] at this
          rw [this, e3])
        rw [e0] at hy
        exact hy
      · have i0 : i = 0 := by omega
        subst i0
        refine c_yr (k := 0) (pus := s1P s) hW (f.mw I) HH hh (s1P_lt hs) Y (fun r m2 f2 Y2 e => ?_)
        rw [ew]
        have go := ih (0 + 1) 1 m2 (by omega) (f.tr f2.bf) Y2 (f2.hm HH) (fun c => absurd c (by decide))
        exact ⟨fun _ => go, fun _ => ⟨fun c => absurd z0 c, fun _ => go⟩⟩
  exact g48_e _ _ _ (c_begins hW I (fun m f Y HH => L 24 0 1 m (by omega) f Y HH (fun c => absurd c (by decide))))
/-- STAND of a set, the world as it is -/
def saS (w : Wd) (s : Nat) : Nat := stS w (H0 w) (hw w) s
theorem saS_lt {w : Wd} (hW : WOk w) (s : Nat) : saS w s < 4096 := Nat.lt_of_lt_of_le (stS_lt hW) (pow12 hW.1)
theorem FM.st8 {μ μ' : mzM} {j : Nat} {v : Int} (h : FM μ μ') : FM μ (mzS μ' 8 j v) := h.st (by unfold scM; omega)
theorem c_findStands {d : Nat} {q : mzM → Prop} {w : Wd} {μ : mzM} (hW : WOk w) (I : MI μ w) (hq : ∀ μ', FM μ μ' → MI μ' w → (∀ s, s < 2 ^ wN w → μ' 8 s = (saS w s : Nat)) → q μ') : mzCl (d + 5) 49 [mzR 0] μ (mzQv q) := by
  have p1 := pow12 hW.1
  have p0 : 0 < 2 ^ wN w := Nat.pow_pos (by omega)
  have L : ∀ (c i : Nat) (m : mzM), i + c = 2 ^ wN w → FM μ m → MW m 1 w → m 0 4 = 0 → (∀ s, s < i → m 8 s = (saS w s : Nat)) → mzWp (d + 5) 49 10 [mzR 0, mzI i] [] m (mzQv q) := by
    intro c
    induction c with
    | zero =>
      intro i m hi f Im e4 e8
      have : i = 2 ^ wN w := by omega
      subst this
      refine g49_10 _ _ (c_every Im.1 hW.1 ⟨fun _ => ⟨or10, hq _ (f.st (by unfold scM; omega)) ⟨Im.cg fun j => S_ne (by omega), Or.inr ⟨S_eq, fun s hs => ?_⟩⟩ (fun s hs => ?_)⟩, fun z => by omega⟩)
      · rw [S_ne (by omega)]; exact e8 s hs
      · rw [S_ne (by omega)]; exact e8 s hs
    | succ c ih =>
      intro i m hi f Im e4 e8
      refine g49_10 _ _ (c_every Im.1 hW.1 ⟨fun z => by omega, fun _ => c_heldNow hW Im (c_standOf hW Im (hw_lt hW) (by omega) (fun m2 f2 => ⟨by omega, ?_⟩))⟩)
      rw [w1 (by omega), Int.toNat_natCast]
      refine ih (i + 1) _ (by omega) (f.tr f2.fm).st8 ((f2.mw Im).cg fun j => S_ne (by omega)) (by rw [S_ne (by omega), f2 0 4 (by omega) (by omega) (by omega)]; exact e4) (fun s hs => ?_)
      by_cases c1 : s = i
      · rw [c1, S_eq]; rfl
      · rw [S_ne (by omega), f2 8 s (by omega) (by omega) (by omega)]; exact e8 s (by omega)
  refine g49_e _ ⟨fun z => L (2 ^ wN w) 0 μ (by omega) FM.rf I.1 z (fun s hs => absurd hs (by omega)), fun z => ?_⟩
  rcases I.2 with h | h
  · exact absurd h z
  · exact hq μ FM.rf I h.2
