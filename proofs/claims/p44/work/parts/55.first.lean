/-! PAIRS: first -/
/-- all of a set have the number v -/
def arS (num : Nat → Int) (set : Nat) (v : Int) : Nat → Bool
  | 0 => true
  | k + 1 => arS num set v k && (!set.testBit k || decide (num k = v))
theorem arS_f {num : Nat → Int} {set : Nat} {v : Int} {k : Nat} (h : arS num set v k = false) : ∀ c, arS num set v (k + c) = false := by
  intro c
  induction c with
  | zero => exact h
  | succ c ih =>
    show (arS num set v (k + c) && _) = false
    rw [ih]
    rfl
theorem arS_f' {num : Nat → Int} {set : Nat} {v : Int} {k n : Nat} (hk : k < n) (h1 : set.testBit k = true) (h2 : num k ≠ v) : arS num set v n = false := by
  have h : arS num set v (k + 1) = false := by
    show (arS num set v k && (!set.testBit k || decide (num k = v))) = false
    rw [h1, decide_eq_false h2]
    simp
  have := arS_f h (n - (k + 1))
  rw [show k + 1 + (n - (k + 1)) = n by omega] at this
  exact this
theorem arS_s {num : Nat → Int} {set : Nat} {v : Int} {k : Nat} (h : arS num set v k = true) (h1 : set.testBit k = false ∨ num k = v) : arS num set v (k + 1) = true := by
  show (arS num set v k && (!set.testBit k || decide (num k = v))) = true
  rw [h]
  rcases h1 with h1 | h1
  · rw [h1]; rfl
  · rw [decide_eq_true h1]; simp
abbrev ovS (w : Wd) (s i : Nat) : Nat := (ysS w (H0 w) (hw w) (s1P s) i st0).1
theorem ovS_lt {w : Wd} (hW : WOk w) (s i : Nat) : ovS w s i < 4096 := Nat.lt_of_lt_of_le (ysS_ok hW (st0_ok _) i).1 (pow12 hW.1)
def brF (w : Wd) (num : Nat → Int) (s : Nat) : Nat → Nat → Nat → Bool
  | 0, _, seen => arS num (nd (2 ^ wN w - 1) seen) 0 (wN w)
  | c + 1, i, seen => arS num (nd (ovS w s (i + 1)) seen) ((i + 1 : Nat) : Int) (wN w) && brF w num s c (i + 1) (seen ||| ovS w s (i + 1))
theorem ix40 {s p : Nat} (hs : s < 4) (hp : p < 12) : mzW ((mzW (40 * (s : Int))) + (p : Int)) = ((40 * s + p : Nat) : Int) ∧ ((0 : Int) ≤ ((40 * s + p : Nat) : Int) ∧ ((40 * s + p : Nat) : Int) < 160) := by
  constructor
  · unfold mzW; omega
  · omega
/-- plain facts of a place -/
theorem pl_b {p n : Nat} (hp : p < n) (hn : n ≤ 12) : p < 12 ∧ p < 32 ∧ p < 31 ∧ ((0 : Int) ≤ (p : Int) ∧ (p : Int) < 12) ∧ ¬ ((n : Int) ≤ (p : Int)) ∧ mzW ((p : Int) + 1) = ((p + 1 : Nat) : Int) := ⟨by omega, by omega, by omega, by omega, by omega, w1 (by omega)⟩
theorem c_ar39 {d s o seen : Nat} {x4 : Int} {q : Int → mzM → Prop} {num : Nat → Int} {x1 : Int} {m : mzM} {w : Wd} (hW : WOk w) (Im : MW m 1 w) (hs : s < 4) (h13 : m 0 13 = (o : Int)) (ho : o < 4096) (hn : ∀ i, i < 40 → m 13 (40 * s + i) = num i)
    (K1 : arS num (nd o seen) x4 (wN w) = true → mzWp (d + 5) 77 13 [mzR 0, mzI x1, mzI s, mzI (mzOr (seen : Int) (o : Int)), mzI (mzW (x4 + 1)), none] [] m (mzQi q)) (K0 : arS num (nd o seen) x4 (wN w) = false → q 0 m) :
    ∀ (c p : Nat), p + c = wN w → arS num (nd o seen) x4 p = true → mzWp (d + 5) 77 39 [mzR 0, mzI x1, mzI s, mzI seen, mzI x4, mzI p] [] m (mzQi q) := by
  have hN := hW.1
  have hm : m 1 0 = wN w := Im.1
  have o31 : o < 2147483648 := Nat.lt_trans ho (by decide)
  intro c
  induction c with
  | zero =>
    intro p hp ha
    have : p = wN w := hp
    subst this
    refine g77_39 _ _ _ _ _ _ ⟨by decide, fun _ => ?_, fun z => absurd z (by rw [hm]; exact Int.lt_irrefl _)⟩
    rw [h13]
    exact K1 ha
  | succ c ih =>
    intro p hp ha
    have hpn : p < wN w := by omega
    have hpc : p + 1 + c = wN w := by omega
    obtain ⟨p12, p32, p31, pb, nle, ew⟩ := pl_b hpn hN
    obtain ⟨ei, eb⟩ := ix40 hs p12
    have nle2 : ¬ (m 1 0 ≤ (p : Int)) := by rw [hm]; exact nle
    have n31 : nd o seen < 2147483648 := nd_lt o31
    refine g77_39 _ _ _ _ _ _ ⟨by decide, fun z => absurd z nle2, fun _ => ?_⟩
    rw [h13, nNot o31, ei, ew, Int.toNat_natCast]
    refine c_has n31 p32 (fun t => ⟨fun z => absurd z (by decide), fun _ => ⟨eb, ?_⟩⟩) (fun t => ⟨fun _ => ih (p + 1) hpc (arS_s ha (Or.inl t)), fun z => absurd rfl z⟩)
    rw [hn p (Nat.lt_trans p12 (by decide))]
    exact ⟨fun z => ih (p + 1) hpc (arS_s ha (Or.inr z)), fun z => ⟨or00, K0 (arS_f' hpn t z)⟩⟩
theorem c_ar107 {d s seen : Nat} {q : Int → mzM → Prop} {num : Nat → Int} {m : mzM} {w : Wd} (hW : WOk w) (Im : MW m 1 w) (hs : s < 4) (hse : seen < 4096) (hn : ∀ i, i < 40 → m 13 (40 * s + i) = num i)
    (K1 : arS num (nd (2 ^ wN w - 1) seen) 0 (wN w) = true → q 1 m) (K0 : arS num (nd (2 ^ wN w - 1) seen) 0 (wN w) = false → q 0 m) :
    ∀ (c p : Nat), p + c = wN w → arS num (nd (2 ^ wN w - 1) seen) 0 p = true → mzWp (d + 5) 77 107 [mzR 0, none, mzI s, mzI seen, mzI p, none] [] m (mzQi q) := by
  have hN := hW.1
  have hm : m 1 0 = wN w := Im.1
  intro c
  induction c with
  | zero =>
    intro p hp ha
    have : p = wN w := hp
    subst this
    exact g77_107 _ _ _ _ ⟨by decide, fun _ => ⟨or10, K1 ha⟩, fun z => absurd z (by rw [hm]; exact Int.lt_irrefl _)⟩
  | succ c ih =>
    intro p hp ha
    have hpn : p < wN w := by omega
    have hpc : p + 1 + c = wN w := by omega
    obtain ⟨p12, p32, p31, pb, nle, ew⟩ := pl_b hpn hN
    obtain ⟨ei, eb⟩ := ix40 hs p12
    have nle2 : ¬ (m 1 0 ≤ (p : Int)) := by rw [hm]; exact nle
    have tb : (nd (2 ^ wN w - 1) seen).testBit p = !seen.testBit p := by rw [nd_bit, Nat.testBit_two_pow_sub_one, decide_eq_true hpn, Bool.true_and]
    refine g77_107 _ _ _ _ ⟨by decide, fun z => absurd z nle2, fun _ => ?_⟩
    rw [ei, ew, Int.toNat_natCast]
    refine c_has (Nat.lt_trans hse (by decide)) p32 (fun t => ⟨fun _ => ih (p + 1) hpc (arS_s ha (Or.inl (by rw [tb, t]; rfl))), fun z => absurd z (by decide)⟩) (fun t => ⟨fun z => absurd rfl z, fun _ => ⟨eb, ?_⟩⟩)
    rw [hn p (Nat.lt_trans p12 (by decide))]
    exact ⟨fun z => ih (p + 1) hpc (arS_s ha (Or.inr z)), fun z => ⟨or00, K0 (arS_f' hpn (by rw [tb, t]; rfl) z)⟩⟩
theorem c_isFirst {d s set : Nat} {q : Int → mzM → Prop} {num : Nat → Int} {μ : mzM} {w : Wd} (hW : WOk w) (I : MW μ 1 w) (hs : s < 4) (hset : set < 2 ^ wN w) (hn : ∀ i, i < 40 → μ 13 (40 * s + i) = num i)
    (h1 : brF w num set 24 0 0 = true → ∀ μ', BF μ μ' → q 1 μ') (h0 : brF w num set 24 0 0 = false → ∀ μ', BF μ μ' → q 0 μ') : mzCl (d + 5) 77 [mzR 0, mzI set, mzI s] μ (mzQi q) := by
  have hN := hW.1
  have L : ∀ (c i seen : Nat) (x4 : Int) (m : mzM), i + c = 24 → x4 = ((i + 1 : Nat) : Int) → seen < 4096 → BF μ m → YM m (wN w) (hw w) (ysS w (H0 w) (hw w) (s1P set) i st0) → HM m (wN w) (H0 w) → (brF w num set c i seen = true → ∀ μ', BF μ μ' → q 1 μ') → (brF w num set c i seen = false → ∀ μ', BF μ μ' → q 0 μ') → mzWp (d + 5) 77 13 [mzR 0, mzI set, mzI s, mzI seen, mzI x4, none] [] m (mzQi q) := by
    intro c
    induction c with
    | zero =>
      intro i seen x4 m hi hx hse f Y HH k1 k0
      have : i = 24 := hi
      subst this
      subst hx
      refine g77_13 _ _ _ _ _ ⟨fun _ => c_ar107 (num := num) hW (f.mw I) hs hse (fun i hi => by rw [f 13 _ (by decide) (by decide) (Or.inl (by decide))]; exact hn i hi) (fun a => k1 a m f) (fun a => k0 a m f) (wN w) 0 (Nat.zero_add _) rfl, fun z => absurd z (by decide)⟩
    | succ c ih =>
      intro i seen x4 m hi hx hse f Y HH k1 k0
      subst hx
      have i24 : ((i + 1 : Nat) : Int) ≤ 24 := by omega
      have hic : i + 1 + c = 24 := by omega
      have ew : mzW (((i + 1 : Nat) : Int) + 1) = ((i + 1 + 1 : Nat) : Int) := w1 (by omega)
      have ol := ovS_lt hW set (i + 1)
      have o31 : ovS w set (i + 1) < 2147483648 := Nat.lt_trans ol (by decide)
      have s31 : seen < 2147483648 := Nat.lt_trans hse (by decide)
      have sl : seen ||| ovS w set (i + 1) < 4096 := Nat.or_lt_two_pow (n := 12) hse ol
      rw [brF] at k1 k0
      have go : ∀ m2, YF m m2 → YM m2 (wN w) (hw w) (ysS w (H0 w) (hw w) (s1P set) (i + 1) st0) → mzWp (d + 5) 77 39 [mzR 0, mzI set, mzI s, mzI seen, mzI ((i + 1 : Nat) : Int), mzI 0] [] m2 (mzQi q) := by
        intro m2 f2 Y2
        have F2 := f.tr f2.bf
        refine c_ar39 (num := num) (o := ovS w set (i + 1)) hW (F2.mw I) hs Y2.1 ol (fun i hi => by rw [F2 13 _ (by decide) (by decide) (Or.inl (by decide))]; exact hn i hi) (fun a => ?_) (fun a => ?_) (wN w) 0 (Nat.zero_add _) rfl
        · rw [a, Bool.true_and] at k1 k0
          rw [nOr s31 o31, ew]
          exact ih (i + 1) _ _ m2 hic rfl sl F2 Y2 (f2.hm HH) k1 k0
        · rw [a, Bool.false_and] at k0
          exact k0 rfl m2 F2
      refine g77_13 _ _ _ _ _ ⟨fun z => absurd z (Int.not_lt.mpr i24), fun _ => ⟨fun z => ?_, fun z => ?_⟩⟩
      · have e0 : s1P set i = 0 := if_neg (fun c => z (by rw [c]; rfl))
        have hy := c_yr (d := d + 1) (k := i) (pus := s1P set) (q := fun r2 m1 => mzWp (d + 5) 77 39 [mzR 0, mzI set, mzI s, mzI seen, mzI ((i + 1 : Nat) : Int), mzI 0] [] m1 (mzQi q)) hW (f.mw I) HH (hw_lt hW) (s1P_lt hset) Y (fun r m2 f2 Y2 _ => go m2 f2 Y2)
        rw [e0] at hy
        exact hy
      · have i0 : i = 0 := by omega
        subst i0
        exact c_yr (k := 0) (pus := s1P set) hW (f.mw I) HH (hw_lt hW) (s1P_lt hset) Y (fun r m2 f2 Y2 _ => go m2 f2 Y2)
  exact g77_e _ _ _ (c_heldNow hW I (c_begins hW I (fun m f Y HH => L 24 0 0 1 m rfl rfl (by decide) f Y HH h1 h0)))
theorem k_areAll {d s set : Nat} {v : Int} {q : Int → mzM → Prop} {num : Nat → Int} {m : mzM} {w : Wd} (hW : WOk w) (C : CW m 0 w) (hs : s < 4) (hset : set < 4096) (hn : ∀ i, i < 40 → m (48 + s) i = num i)
    (K1 : arS num set v (wN w) = true → q 1 m) (K0 : arS num set v (wN w) = false → q 0 m) : mzCl d 189 [mzR 14, mzI set, mzP 44 s, mzI v] m (mzQi q) := by
  have hN := hW.1
  have hm : m 26 0 = wN w := C.1
  have t31 : set < 2147483648 := Nat.lt_trans hset (by decide)
  have L : ∀ (c p : Nat), p + c = wN w → arS num set v p = true → mzWp d 189 3 [mzR 14, mzI set, mzP 44 s, mzI v, mzI p] [] m (mzQi q) := by
    intro c
    induction c with
    | zero =>
      intro p hp ha
      have : p = wN w := hp
      subst this
      exact g189_3 _ _ _ _ _ ⟨fun _ => ⟨or10, K1 ha⟩, fun z => absurd z (by rw [hm]; exact Int.lt_irrefl _)⟩
    | succ c ih =>
      intro p hp ha
      have hpn : p < wN w := by omega
      have hpc : p + 1 + c = wN w := by omega
      obtain ⟨p12, p32, p31, pb, nle, ew⟩ := pl_b hpn hN
      have nle2 : ¬ (m 26 0 ≤ (p : Int)) := by rw [hm]; exact nle
      have p40 : (p : Int) < 40 := Int.lt_trans pb.2 (by decide)
      refine g189_3 _ _ _ _ _ ⟨fun z => absurd z nle2, fun _ => ?_⟩
      rw [ew, Int.toNat_natCast]
      refine ⟨fun z => ?_, fun z => ⟨hs, ⟨hs, pb.1, p40⟩, ?_⟩⟩
      · rw [nBit0 t31 p32] at z
        exact ih (p + 1) hpc (arS_s ha (Or.inl z))
      · rw [nBit1 t31 p32] at z
        rw [hn p (Nat.lt_trans p12 (by decide))]
        exact ⟨fun y => ih (p + 1) hpc (arS_s ha (Or.inr y)), fun y => ⟨or00, K0 (arS_f' hpn z y)⟩⟩
  exact g189_e _ _ _ _ (L (wN w) 0 (Nat.zero_add _) rfl)
theorem k_brings {d s set : Nat} {q : Int → mzM → Prop} {num : Nat → Int} {μ : mzM} {w : Wd} (hW : WOk w) (C : CW μ 0 w) (G : GM μ w) (HH : HC μ (wN w) (H0 w)) (hs : s < 4) (hset : set < 2 ^ wN w) (hn : ∀ i, i < 40 → μ (48 + s) i = num i)
    (h1 : brF w num set 24 0 0 = true → ∀ μ', NF μ μ' → q 1 μ') (h0 : brF w num set 24 0 0 = false → ∀ μ', NF μ μ' → q 0 μ') : mzCl (d + 3) 188 [mzR 14, mzI set, mzP 44 s] μ (mzQi q) := by
  have hN := hW.1
  have k16 : 48 + s ≠ 16 := by omega
  have k22 : 48 + s ≠ 22 := by omega
  have L : ∀ (c i seen : Nat) (x4 : Int) (m : mzM), i + c = 24 → x4 = ((i + 1 : Nat) : Int) → seen < 4096 → NF μ m → YC m (wN w) (hw w) (ysS w (H0 w) (hw w) (s1P set) i st0) → (brF w num set c i seen = true → ∀ μ', NF μ μ' → q 1 μ') → (brF w num set c i seen = false → ∀ μ', NF μ μ' → q 0 μ') → mzWp (d + 3) 188 19 [mzR 14, mzI set, mzP 44 s, mzI seen, mzI x4] [] m (mzQi q) := by
    intro c
    induction c with
    | zero =>
      intro i seen x4 m hi hx hse f Y k1 k0
      have : i = 24 := hi
      subst this
      subst hx
      have Cm := f.ef.cw hN C
      have al := all_lt hN
      refine g188_19 _ _ _ _ _ ⟨fun _ => k_all Cm.1 hN ?_, fun z => absurd z (by decide)⟩
      rw [nNot (Nat.lt_trans al (by decide))]
      exact k_areAll (num := num) hW Cm hs (nd_lt al) (fun i hi => by rw [f _ i k16 k22]; exact hn i hi) (fun a => ⟨or10, k1 a m f⟩) (fun a => ⟨or00, k0 a m f⟩)
    | succ c ih =>
      intro i seen x4 m hi hx hse f Y k1 k0
      subst hx
      have i24 : ((i + 1 : Nat) : Int) ≤ 24 := by omega
      have hic : i + 1 + c = 24 := by omega
      have ew : mzW (((i + 1 : Nat) : Int) + 1) = ((i + 1 + 1 : Nat) : Int) := w1 (by omega)
      have ol := ovS_lt hW set (i + 1)
      have o31 : ovS w set (i + 1) < 2147483648 := Nat.lt_trans ol (by decide)
      have s31 : seen < 2147483648 := Nat.lt_trans hse (by decide)
      have sl : seen ||| ovS w set (i + 1) < 4096 := Nat.or_lt_two_pow (n := 12) hse ol
      have Cm := f.ef.cw hN C
      rw [brF] at k1 k0
      have go : ∀ m2, ZF m m2 → YC m2 (wN w) (hw w) (ysS w (H0 w) (hw w) (s1P set) (i + 1) st0) → mzCl (d + 2) 189 [mzR 14, mzI (mzAnd (m2 16 7) (mzXor (seen : Int) (-1))), mzP 44 s, mzI ((i + 1 : Nat) : Int)] m2 (mzQi fun r8 m7 => (r8 ≠ 0 → mzWp (d + 3) 188 19 [mzR 14, mzI set, mzP 44 s, mzI (mzOr (seen : Int) (m7 16 7)), mzI (mzW (((i + 1 : Nat) : Int) + 1))] [] m7 (mzQi q)) ∧ (r8 = 0 → ((0 : Int) = 0 ∨ (0 : Int) = 1) ∧ (q 0 m7))) := by
        intro m2 f2 Y2
        have F2 := f.tr f2.nf
        have e7 : m2 16 7 = (ovS w set (i + 1) : Int) := Y2.1
        rw [e7, nNot o31, ew]
        refine k_areAll (num := num) hW (F2.ef.cw hN C) hs (nd_lt ol) (fun i hi => by rw [F2 _ i k16 k22]; exact hn i hi) (fun a => ⟨fun _ => ?_, fun z => absurd z (by decide)⟩) (fun a => ⟨fun z => absurd rfl z, fun _ => ⟨or00, ?_⟩⟩)
        · rw [a, Bool.true_and] at k1 k0
          rw [e7, nOr s31 o31]
          exact ih (i + 1) _ _ m2 hic rfl sl F2 Y2 k1 k0
        · rw [a, Bool.false_and] at k0
          exact k0 rfl m2 F2
      refine g188_19 _ _ _ _ _ ⟨fun z => absurd z (Int.not_lt.mpr i24), fun _ => ⟨fun z => ?_, fun z => ?_⟩⟩
      · have e0 : s1P set i = 0 := if_neg (fun c => z (by rw [c]; rfl))
        have hy := k_yr (d := d) (k := i) (pus := s1P set) (q := fun r6 m5 => mzCl (d + 2) 189 [mzR 14, mzI (mzAnd (m5 16 7) (mzXor (seen : Int) (-1))), mzP 44 s, mzI ((i + 1 : Nat) : Int)] m5 (mzQi fun r8 m7 => (r8 ≠ 0 → mzWp (d + 3) 188 19 [mzR 14, mzI set, mzP 44 s, mzI (mzOr (seen : Int) (m7 16 7)), mzI (mzW (((i + 1 : Nat) : Int) + 1))] [] m7 (mzQi q)) ∧ (r8 = 0 → ((0 : Int) = 0 ∨ (0 : Int) = 1) ∧ (q 0 m7)))) hW Cm (f.gm hN G) (f.hc HH) (hw_lt hW) (s1P_lt hset) Y (fun r m2 f2 Y2 _ => go m2 f2 Y2)
        rw [e0] at hy
        exact hy
      · have i0 : i = 0 := by omega
        subst i0
        exact k_yr (k := 0) (pus := s1P set) hW Cm (f.gm hN G) (f.hc HH) (hw_lt hW) (s1P_lt hset) Y (fun r m2 f2 Y2 _ => go m2 f2 Y2)
  refine g188_e _ _ _ ?_
  rw [k_held C]
  exact k_begin (n := wN w) hN (fun m f Y => L 24 0 0 1 m rfl rfl (by decide) f Y h1 h0)
/-- the set of fewest places that brings the numbers -/
def fiF (w : Wd) (num : Nat → Int) : Nat → Int
  | 0 => -1
  | k + 1 => if (fiF w num k < 0 ∨ cnt k 12 < cnt (fiF w num k).toNat 12) ∧ brF w num k 24 0 0 = true then (k : Int) else fiF w num k
theorem fiF_bd (w : Wd) (num : Nat → Int) : ∀ k, fiF w num k = -1 ∨ ∃ j, j < k ∧ fiF w num k = (j : Int) := by
  intro k
  induction k with
  | zero => exact Or.inl rfl
  | succ k ih =>
    rw [fiF]
    split
    · exact Or.inr ⟨k, Nat.lt_succ_self k, rfl⟩
    · rcases ih with h | ⟨j, h1, h2⟩
      · exact Or.inl h
      · exact Or.inr ⟨j, Nat.lt_succ_of_lt h1, h2⟩
def fiA (w : Wd) (num : Nat → Int) : Int := if fiF w num (2 ^ wN w) < 0 then -1000004 else fiF w num (2 ^ wN w)
theorem c_first {d s : Nat} {q : Int → mzM → Prop} {num : Nat → Int} {len : Int} {μ : mzM} {w : Wd} (hs : s < 4) (hW : WOk w) (I : MI μ w) (hb : μ 11 s ≠ 0) (hl : μ 12 s = len) (hn : ∀ i, i < 40 → μ 13 (40 * s + i) = num i)
    (h : ∀ μ', FM μ μ' → MI μ' w → q (if len = (wN w : Int) then fiA w num else -1000004) μ') : mzCl (d + 6) 78 [mzR 0, mzI s] μ (mzQi q) := by
  have hN := hW.1
  have p1 := pow12 hN
  have sb : (0 : Int) ≤ (s : Int) ∧ (s : Int) < 4 := by omega
  refine g78_e _ _ (c_isSheet (fun _ _ => ⟨fun _ => ⟨sb, ?_⟩, fun z => absurd z (by decide)⟩) (fun a => absurd sb a))
  rw [Int.toNat_natCast]
  refine ⟨fun _ => ?_, fun z => absurd z hb⟩
  by_cases hlen : len = (wN w : Int)
  · rw [if_pos hlen] at h
    have L : ∀ (c k : Nat) (m : mzM), k + c = 2 ^ wN w → BF μ m → mzWp (d + 6) 78 35 [mzR 0, mzI s, mzI (fiF w num k), mzI k] [] m (mzQi q) := by
      intro c
      induction c with
      | zero =>
        intro k m hk f
        have : k = 2 ^ wN w := hk
        subst this
        have Im := f.mi I
        unfold fiA at h
        refine g78_35 _ _ _ _ (c_every Im.1.1 hN ⟨fun _ => ⟨fun z => ?_, fun z => ?_⟩, fun z => absurd z mo_e⟩)
        · rw [if_neg (Int.not_lt.mpr z)] at h
          exact h m f.fm Im
        · rw [if_pos z] at h
          exact c_fd (by decide) Im (fun m2 f2 i2 => h m2 (f.fm.tr f2) i2)
      | succ c ih =>
        intro k m hk f
        have k2n : k < 2 ^ wN w := by omega
        have hkc : k + 1 + c = 2 ^ wN w := by omega
        obtain ⟨k31, k12, kb, eN, ew⟩ := mo_b k2n hN
        have Im := f.mi I
        have e12 : m 12 s = m 1 0 := by rw [f 12 s (by decide) (by decide) (Or.inl (by decide)), hl, hlen]; exact Im.1.1.symm
        have nums : ∀ i, i < 40 → m 13 (40 * s + i) = num i := fun i hi => by rw [f 13 _ (by decide) (by decide) (Or.inl (by decide))]; exact hn i hi
        have es : fiF w num (k + 1) = if (fiF w num k < 0 ∨ cnt k 12 < cnt (fiF w num k).toNat 12) ∧ brF w num k 24 0 0 = true then (k : Int) else fiF w num k := rfl
        have keep : ¬ ((fiF w num k < 0 ∨ cnt k 12 < cnt (fiF w num k).toNat 12) ∧ brF w num k 24 0 0 = true) → ∀ m2, BF μ m2 → mzWp (d + 6) 78 35 [mzR 0, mzI s, mzI (fiF w num k), mzI ((k + 1 : Nat) : Int)] [] m2 (mzQi q) := fun hc m2 f2 => by
          have := ih (k + 1) m2 hkc f2
          rw [es, if_neg hc] at this
          exact this
        have take : ((fiF w num k < 0 ∨ cnt k 12 < cnt (fiF w num k).toNat 12) ∧ brF w num k 24 0 0 = true) → ∀ m2, BF μ m2 → mzWp (d + 6) 78 35 [mzR 0, mzI s, mzI k, mzI ((k + 1 : Nat) : Int)] [] m2 (mzQi q) := fun hc m2 f2 => by
          have := ih (k + 1) m2 hkc f2
          rw [es, if_pos hc] at this
          exact this
        have run : (fiF w num k < 0 ∨ cnt k 12 < cnt (fiF w num k).toNat 12) → mzCl (d + 5) 77 [mzR 0, mzI k, mzI s] m (mzQi fun r8 m7 => (r8 = 0 → mzWp (d + 6) 78 35 [mzR 0, mzI s, mzI (fiF w num k), mzI ((k + 1 : Nat) : Int)] [] m7 (mzQi q)) ∧ (r8 ≠ 0 → mzWp (d + 6) 78 35 [mzR 0, mzI s, mzI k, mzI ((k + 1 : Nat) : Int)] [] m7 (mzQi q))) := fun hc =>
          c_isFirst hW Im.1 hs k2n nums (fun a m2 f2 => ⟨fun z => absurd z (by decide), fun _ => take ⟨hc, a⟩ m2 (f.tr f2)⟩) (fun a m2 f2 => ⟨fun _ => keep (fun b => by rw [a] at b; exact absurd b.2 (by decide)) m2 (f.tr f2), fun z => absurd rfl z⟩)
        refine g78_35 _ _ _ _ (c_every Im.1.1 hN ⟨fun z => absurd z eN, fun _ => ⟨sb, by decide, ?_⟩⟩)
        rw [Int.toNat_natCast, e12, ew]
        refine ⟨fun z => absurd rfl z, fun _ => ⟨fun z => run (Or.inl z), fun z => c_many k31 ?_⟩⟩
        rcases fiF_bd w num k with hb2 | ⟨j, j1, j2⟩
        · rw [hb2] at z; exact absurd z (by decide)
        · have ej : (fiF w num k).toNat = j := by rw [j2, Int.toNat_natCast]
          have kn : ¬ fiF w num k < 0 := Int.not_lt.mpr z
          have key : mzCl (d + 5) 4 [mzI (j : Int)] m (mzQi fun r12 m11 => (r12 ≤ ((cnt k 12 : Nat) : Int) → mzWp (d + 6) 78 35 [mzR 0, mzI s, mzI (fiF w num k), mzI ((k + 1 : Nat) : Int)] [] m11 (mzQi q)) ∧ (((cnt k 12 : Nat) : Int) < r12 → mzCl (d + 5) 77 [mzR 0, mzI k, mzI s] m11 (mzQi fun r14 m13 => (r14 = 0 → mzWp (d + 6) 78 35 [mzR 0, mzI s, mzI (fiF w num k), mzI ((k + 1 : Nat) : Int)] [] m13 (mzQi q)) ∧ (r14 ≠ 0 → mzWp (d + 6) 78 35 [mzR 0, mzI s, mzI k, mzI ((k + 1 : Nat) : Int)] [] m13 (mzQi q))))) :=
            c_many (Nat.lt_trans j1 k31) ⟨fun y => keep (fun b => b.1.elim (fun c => kn c) (fun c => by rw [ej] at c; exact absurd (Int.ofNat_le.mp y) (Nat.not_le.mpr c))) m f, fun y => run (Or.inr (by rw [ej]; exact Int.ofNat_lt.mp y))⟩
          rw [← j2] at key
          exact key
    exact L (2 ^ wN w) 0 μ (Nat.zero_add _) BF.rf
  · rw [if_neg hlen] at h
    have hne : μ 12 s ≠ μ 1 0 := by rw [hl, I.1.1]; exact hlen
    have e0 : ¬ (((2 ^ wN w - 1 : Nat) : Int) < 0) := Int.not_lt.mpr (Int.natCast_nonneg _)
    refine g78_35 _ _ _ _ (c_every I.1.1 hN ⟨fun z => absurd z e0, fun _ => ⟨sb, by decide, ?_⟩⟩)
    rw [Int.toNat_natCast]
    exact ⟨fun _ => ⟨fun z => absurd z (by decide), fun _ => c_fd (by decide) I h⟩, fun z => absurd z hne⟩
theorem k_first {d s : Nat} {q : Int → mzM → Prop} {num : Nat → Int} {len : Int} {μ : mzM} {w : Wd} (hs : s < 4) (hW : WOk w) (C : CW μ 0 w) (hb : μ (44 + s) 0 ≠ 0) (hl : μ (44 + s) 1 = len) (hn : ∀ i, i < 40 → μ (48 + s) i = num i)
    (h : ∀ μ', FC μ μ' → CW μ' 0 w → q (if len = (wN w : Int) then fiA w num else -1000004) μ') : mzCl (d + 6) 161 [mzR 14, mzI s] μ (mzQi q) := by
  have hN := hW.1
  have p1 := pow12 hN
  have sb : (0 : Int) ≤ (s : Int) ∧ (s : Int) < 4 := by omega
  have hm : μ 26 0 = wN w := C.1
  refine g161_e _ _ (k_isSheet (fun _ _ => ⟨fun _ => ⟨sb, ?_⟩, fun z => absurd z (by decide)⟩) (fun a => absurd sb a))
  rw [Int.toNat_natCast, hl, hm]
  refine ⟨hs, fun _ => ⟨hs, fun hlen => ?_, fun hlen => ?_⟩, fun z => absurd z hb⟩
  · rw [if_pos hlen] at h
    refine k_survey hW C (fun m1 f1 G1 H1 => ?_)
    have n1 : ∀ i, i < 40 → m1 (48 + s) i = num i := fun i hi => by rw [f1 _ i (by omega) (by omega) (by omega) (by omega) (by omega) (by omega)]; exact hn i hi
    have k16 : 48 + s ≠ 16 := by omega
    have k22 : 48 + s ≠ 22 := by omega
    have L : ∀ (c k : Nat) (x4 : Int) (m : mzM), k + c = 2 ^ wN w → NF m1 m → x4 = (if fiF w num k < 0 then 13 else ((cnt (fiF w num k).toNat 12 : Nat) : Int)) → mzWp (d + 6) 161 72 [mzR 14, none, mzP 44 s, mzI (fiF w num k), mzI x4, mzI k, none] [] m (mzQi q) := by
      intro c
      induction c with
      | zero =>
        intro k x4 m hk f hx
        have : k = 2 ^ wN w := hk
        subst this
        have Cm := f.ef.cw hN (f1.cw hN C)
        unfold fiA at h
        refine g161_72 _ _ _ _ _ (k_all Cm.1 hN ⟨fun _ => ⟨fun z => ?_, fun z => ?_⟩, fun z => absurd z mo_e⟩)
        · rw [if_neg (Int.not_lt.mpr z)] at h
          exact h m (f1.tr f.ef).fc Cm
        · rw [if_pos z] at h
          exact k_fd (by decide) hN Cm (fun m2 f2 c2 => h m2 ((f1.tr f.ef).fc.tr f2) c2)
      | succ c ih =>
        intro k x4 m hk f hx
        have k2n : k < 2 ^ wN w := by omega
        have hkc : k + 1 + c = 2 ^ wN w := by omega
        obtain ⟨k31, k12, kb, eN, ew⟩ := mo_b k2n hN
        have Cm := f.ef.cw hN (f1.cw hN C)
        have nums : ∀ i, i < 40 → m (48 + s) i = num i := fun i hi => by rw [f _ i k16 k22]; exact n1 i hi
        have es : fiF w num (k + 1) = if (fiF w num k < 0 ∨ cnt k 12 < cnt (fiF w num k).toNat 12) ∧ brF w num k 24 0 0 = true then (k : Int) else fiF w num k := rfl
        have keep : ¬ ((fiF w num k < 0 ∨ cnt k 12 < cnt (fiF w num k).toNat 12) ∧ brF w num k 24 0 0 = true) → ∀ m2, NF m1 m2 → mzWp (d + 6) 161 72 [mzR 14, none, mzP 44 s, mzI (fiF w num k), mzI x4, mzI ((k + 1 : Nat) : Int), none] [] m2 (mzQi q) := fun hc m2 f2 => by
          have := ih (k + 1) x4 m2 hkc f2 (by rw [es, if_neg hc]; exact hx)
          rw [es, if_neg hc] at this
          exact this
        have take : ((fiF w num k < 0 ∨ cnt k 12 < cnt (fiF w num k).toNat 12) ∧ brF w num k 24 0 0 = true) → ∀ m2, NF m1 m2 → mzWp (d + 6) 161 72 [mzR 14, none, mzP 44 s, mzI k, mzI ((cnt k 12 : Nat) : Int), mzI ((k + 1 : Nat) : Int), none] [] m2 (mzQi q) := fun hc m2 f2 => by
          have := ih (k + 1) ((cnt k 12 : Nat) : Int) m2 hkc f2 (by rw [es, if_pos hc, if_neg (Int.not_lt.mpr (Int.natCast_nonneg _)), Int.toNat_natCast])
          rw [es, if_pos hc] at this
          exact this
        have c13 : ((cnt k 12 : Nat) : Int) < 13 := Int.ofNat_lt.mpr (Nat.lt_of_le_of_lt (cnt12_le k) (by decide))
        have lt1 : ((cnt k 12 : Nat) : Int) < x4 → (fiF w num k < 0 ∨ cnt k 12 < cnt (fiF w num k).toNat 12) := by
          intro a
          by_cases c : fiF w num k < 0
          · exact Or.inl c
          · rw [hx, if_neg c] at a; exact Or.inr (Int.ofNat_lt.mp a)
        have lt2 : (fiF w num k < 0 ∨ cnt k 12 < cnt (fiF w num k).toNat 12) → ((cnt k 12 : Nat) : Int) < x4 := by
          intro a
          by_cases c : fiF w num k < 0
          · rw [hx, if_pos c]; exact c13
          · rw [hx, if_neg c]
            exact a.elim (fun b => absurd b c) (fun b => Int.ofNat_lt.mpr b)
        refine g161_72 _ _ _ _ _ (k_all Cm.1 hN ⟨fun z => absurd z eN, fun _ => k_bitCount k12 ?_⟩)
        rw [ew]
        exact ⟨fun z => keep (fun b => absurd (lt2 b.1) (Int.not_lt.mpr z)) m f, fun z => k_brings hW Cm (f.gm hN G1) (f.hc H1) hs k2n nums (fun a m2 f2 => ⟨fun z => absurd z (by decide), fun _ => take ⟨lt1 z, a⟩ m2 (f.tr f2)⟩) (fun a m2 f2 => ⟨fun _ => keep (fun b => by rw [a] at b; exact absurd b.2 (by decide)) m2 (f.tr f2), fun z => absurd rfl z⟩)⟩
    exact L (2 ^ wN w) 0 13 m1 (Nat.zero_add _) NF.rf (by rw [fiF, if_pos (by decide)])
  · rw [if_neg hlen] at h
    exact k_fd (by decide) hN C h
theorem p_first {d : Nat} {μ : mzM} {w : Wd} {q : Int → Int → mzM → Prop} {s : Int} (R : RW μ w) (h : ∀ a μ' w', RW μ' w' → q a a μ') : mzCl (d + 6) 161 [mzR 14, mzI s] μ (mzQi fun a m1 => mzCl (d + 6) 78 [mzR 0, mzI s] m1 (mzQi fun c m2 => q a c m2)) := by
  have hN := R.1.1
  by_cases hs : 0 ≤ s ∧ s < 4
  · obtain ⟨s, rfl⟩ : ∃ k : Nat, s = k := ⟨s.toNat, by omega⟩
    have hs4 : s < 4 := by omega
    obtain ⟨s1, s2, s3, s4, s5⟩ := R.2.2.2.2.2 s hs4
    by_cases hb : μ 11 s = 0
    · refine pair (-1000006, w) R R.1 (fun q' z => ?_) (fun m1 q' f I z => ?_) h
      · refine g161_e _ _ (k_isSheet (fun _ _ => ⟨fun _ => ⟨hs, hs4, ?_⟩, fun z => absurd z (by decide)⟩) (fun a => absurd hs a))
        rw [Int.toNat_natCast, ← s1]
        exact ⟨fun c => absurd hb c, fun _ => k_fd (by decide) hN R.2.2.1 z⟩
      · refine g78_e _ _ (c_isSheet (fun _ _ => ⟨fun _ => ⟨hs, ?_⟩, fun z => absurd z (by decide)⟩) (fun a => absurd hs a))
        rw [Int.toNat_natCast, f 11 s (by unfold scC isW; omega)]
        exact ⟨fun c => absurd hb c, fun _ => c_fd (by decide) I z⟩
    · refine pair (if μ 12 s = (wN w : Int) then fiA w (fun i => μ 13 (40 * s + i)) else -1000004, w) R R.1 (fun q' z => ?_) (fun m1 q' f I z => ?_) h
      · exact k_first hs4 R.1 R.2.2.1 (by rw [← s1]; exact hb) s2.symm (fun i hi => (s5 i hi).symm) z
      · exact c_first hs4 R.1 I (by rw [f 11 s (by unfold scC isW; omega)]; exact hb) (f 12 s (by unfold scC isW; omega)) (fun i hi => f 13 _ (by unfold scC isW; omega)) z
  · refine pair (-1000001, w) R R.1 (fun q' z => ?_) (fun m1 q' f I z => ?_) h
    · exact g161_e _ _ (k_isSheet (fun a b => absurd ⟨a, b⟩ hs) (fun _ => ⟨fun z => absurd rfl z, fun _ => k_fd (by decide) hN R.2.2.1 z⟩))
    · exact g78_e _ _ (c_isSheet (fun a b => absurd ⟨a, b⟩ hs) (fun _ => ⟨fun z => absurd rfl z, fun _ => c_fd (by decide) I z⟩))
