/-! PAIRS: stop -/
def stV (w : Wd) (k : Nat) : Int := 10000 * (cnt k 12 : Nat) + suS w 5 k (wN w)
/-- what comes of a set if those in k are held besides -/
def stK (w : Wd) (s k : Nat) : Nat := nd (stS w (H0 w) (hw w ||| k) s) s
def spF (w : Wd) (s may : Nat) : Nat → Int × Int
  | 0 => (-1, 0)
  | k + 1 => if nd k may = 0 ∧ ((spF w s may k).1 < 0 ∨ stV w k < (spF w s may k).2) ∧ stK w s k = 0 then ((k : Int), stV w k) else spF w s may k
theorem spF_bd (w : Wd) (s may : Nat) : ∀ k, (spF w s may k).1 = -1 ∨ ∃ j, j < k ∧ (spF w s may k).1 = (j : Int) ∧ (spF w s may k).2 = stV w j := by
  intro k
  induction k with
  | zero => exact Or.inl rfl
  | succ k ih =>
    rw [spF]
    split
    · exact Or.inr ⟨k, Nat.lt_succ_self k, rfl, rfl⟩
    · rcases ih with h | ⟨j, h1, h2⟩
      · exact Or.inl h
      · exact Or.inr ⟨j, Nat.lt_succ_of_lt h1, h2⟩
theorem spF_pos (w : Wd) (s may j : Nat) (h1 : nd j may = 0) (h2 : stK w s j = 0) : ∀ c, 0 ≤ (spF w s may (j + 1 + c)).1 := by
  intro c
  induction c with
  | zero =>
    show 0 ≤ (spF w s may (j + 1)).1
    rw [spF]
    split
    · exact Int.natCast_nonneg _
    · rename_i c
      rcases spF_bd w s may j with h | ⟨i, _, h3, _⟩
      · exact absurd ⟨h1, Or.inl (by omega), h2⟩ c
      · rw [h3]; exact Int.natCast_nonneg _
  | succ c ih =>
    show 0 ≤ (spF w s may (j + 1 + c + 1)).1
    rw [spF]
    split
    · exact Int.natCast_nonneg _
    · exact ih
theorem nd0_le {a b : Nat} (h : nd a b = 0) : a ≤ b := Nat.le_of_testBit (fun i hi => by
  have : (nd a b).testBit i = false := by rw [h]; exact Nat.zero_testBit i
  rw [nd_bit, hi] at this
  simpa using this)
theorem spF_stay (w : Wd) (s may : Nat) : ∀ c, spF w s may (may + 1 + c) = spF w s may (may + 1) := by
  intro c
  induction c with
  | zero => rfl
  | succ c ih =>
    show spF w s may (may + 1 + c + 1) = _
    rw [spF, if_neg (fun a => by have := nd0_le a.1; omega)]
    exact ih
/-- one that is held is never over -/
theorem hd_no {w : Wd} {H : Nat → Int} {p h : Nat} {pus : Nat → Nat} (hp : p < wN w) (hh : h.testBit p = true) : ∀ k, (ysS w H h pus k st0).1.testBit p = false := by
  intro k
  induction k with
  | zero => exact Nat.zero_testBit p
  | succ k ih =>
    have t : (thS h (pus k) (ysS w H h pus k st0)).testBit p = false := by
      unfold thS
      rw [Nat.testBit_or, nd_bit, nd_bit, ih, hh]
      simp
    have e := ((yr_R w H h (pus k) (ysS w H h pus k st0) p hp).2.2.2.1 t (by rw [Nat.testBit_or, hh]; rfl)).1
    show (nd (o1S w H h (pus k) (ysS w H h pus k st0)) _).testBit p = false
    rw [nd_bit]
    unfold o1S
    rw [mk_bit, e]
    simp
def stM (w : Wd) (s : Nat) : Nat := nd (nd (2 ^ wN w - 1) s) (hw w)
theorem stM_lt (w : Wd) (s : Nat) : stM w s < 2 ^ wN w := nd_lt (nd_lt (Nat.sub_lt (Nat.pow_pos (by decide)) (by decide)))
theorem stM_ok {w : Wd} (hW : WOk w) (s : Nat) : stK w s (stM w s) = 0 := by
  unfold stK
  refine Nat.eq_of_testBit_eq (fun i => ?_)
  rw [nd_bit, Nat.zero_testBit]
  by_cases c : i < wN w
  · cases hs : s.testBit i with
    | true => simp
    | false =>
      have hh : (hw w ||| stM w s).testBit i = true := by
        unfold stM
        rw [Nat.testBit_or, nd_bit, nd_bit, Nat.testBit_two_pow_sub_one, decide_eq_true c, hs]
        cases (hw w).testBit i <;> rfl
      have e : (stS w (H0 w) (hw w ||| stM w s) s).testBit i = false := hd_no c hh 24
      rw [e]
      rfl
  · rw [bit_lt (stS_lt hW) (Nat.le_of_not_lt c)]
    rfl
theorem nd_self (a : Nat) : nd a a = 0 := Nat.eq_of_testBit_eq (fun i => by rw [nd_bit, Nat.zero_testBit]; simp)
theorem sp_some {w : Wd} (hW : WOk w) (s : Nat) : (spF w s (stM w s) (2 ^ wN w)).1 = (spF w s (stM w s) (stM w s + 1)).1 ∧ 0 ≤ (spF w s (stM w s) (stM w s + 1)).1 := by
  have ml := stM_lt w s
  have h1 := spF_stay w s (stM w s) (2 ^ wN w - (stM w s + 1))
  rw [show stM w s + 1 + (2 ^ wN w - (stM w s + 1)) = 2 ^ wN w by omega] at h1
  exact ⟨by rw [h1], spF_pos w s (stM w s) (stM w s) (nd_self _) (stM_ok hW s) 0⟩
def stoS (w : Wd) (s t : Int) : Int × Wd := (if (0 ≤ s ∧ s < (2 ^ wN w : Nat)) ∧ 0 ≤ t ∧ t ≤ 1 then (if t = 0 then (spF w s.toNat (stM w s.toNat) (2 ^ wN w)).1 else suS w 5 (spF w s.toNat (stM w s.toNat) (2 ^ wN w)).1.toNat (wN w)) else -1000001, w)
theorem stV_bd {w : Wd} (hW : WOk w) (k : Nat) : stV w k < 100000000 := by
  have b1 := su_le hW (t := 5) (Or.inr rfl) k (Nat.le_refl (wN w))
  have b2 := cnt12_le k
  unfold stV
  omega
theorem stV_r {w : Wd} (hW : WOk w) (k : Nat) : mzW ((mzW (10000 * (cnt k 12 : Nat))) + suS w 5 k (wN w)) = stV w k := by
  have b1 := su_le hW (t := 5) (Or.inr rfl) k (Nat.le_refl (wN w))
  have b2 := cnt12_le k
  unfold stV
  rw [wid (z := 10000 * _) (by omega) (by omega), wid (by omega) (by omega)]
theorem c_stop {d : Nat} {q : Int → mzM → Prop} {s t : Int} {μ : mzM} {w : Wd} (hW : WOk w) (I : MI μ w) (h : ∀ μ', FM μ μ' → MI μ' (stoS w s t).2 → q (stoS w s t).1 μ') : mzCl (d + 6) 63 [mzR 0, mzI s, mzI t] μ (mzQi q) := by
  have hN := hW.1
  have p1 := pow12 hN
  have p0 : 0 < 2 ^ wN w := Nat.pow_pos (by omega)
  unfold stoS at h
  refine g63_e _ _ _ (c_isSet I.1.1 hN (fun s' e1 e2 => ⟨fun z => absurd z (by decide), fun _ => c_in (fun b1 b2 => ⟨fun _ => c_every I.1.1 hN (c_heldNow hW I.1 ?_), fun z => absurd z (by decide)⟩) (fun b => ⟨fun z => absurd rfl z, fun _ => c_fd (by decide) I ?_⟩)⟩) (fun a => ⟨fun _ => c_fd (by decide) I ?_, fun z => absurd rfl z⟩))
  · subst e1
    rw [if_pos ⟨⟨Int.natCast_nonneg _, Int.ofNat_lt.mpr e2⟩, b1, b2⟩, Int.toNat_natCast] at h
    have al := all_lt hN
    have n1 : nd (2 ^ wN w - 1) s' < 2147483648 := nd_lt (Nat.lt_trans al (by decide))
    have s31 : s' < 2147483648 := by omega
    rw [nNot (Nat.lt_trans al (by decide)), nNot n1]
    have L : ∀ (c k : Nat) (m : mzM), k + c = 2 ^ wN w → BF μ m → mzWp (d + 6) 63 50 [mzR 0, mzI s', mzI t, mzI (stM w s' : Nat), mzI (spF w s' (stM w s') k).1, mzI (spF w s' (stM w s') k).2, mzI k, none] [] m (mzQi q) := by
      intro c
      induction c with
      | zero =>
        intro k m hk f
        have : k = 2 ^ wN w := hk
        subst this
        have Im := f.mi I
        obtain ⟨sp1, sp2⟩ := sp_some hW s'
        refine g63_50 _ _ _ _ _ _ _ (c_every Im.1.1 hN ⟨fun _ => ⟨fun z => ?_, fun z => ?_⟩, fun z => absurd z mo_e⟩)
        · rw [if_neg z] at h
          rcases spF_bd w s' (stM w s') (2 ^ wN w) with hb | ⟨j, j1, j2, _⟩
          · omega
          · rw [j2] at h ⊢
            rw [Int.toNat_natCast] at h
            exact c_sumOf (t := 5) hW Im.1 (by omega) (Or.inr rfl) (h m f.fm Im)
        · rw [if_pos z] at h
          exact h m f.fm Im
      | succ c ih =>
        intro k m hk f
        have Im := f.mi I
        have hkc : k + 1 + c = 2 ^ wN w := by omega
        have k2n : k < 2 ^ wN w := by omega
        obtain ⟨k31, k12, kb, eN, ew⟩ := mo_b k2n hN
        have hl12 := hw_lt hW
        have hl31 : hw w < 2147483648 := Nat.lt_trans hl12 (by decide)
        have hk12 : hw w ||| k < 4096 := Nat.or_lt_two_pow (n := 12) hl12 k12
        have sl : stS w (H0 w) (hw w ||| k) s' < 2147483648 := Nat.lt_of_lt_of_le (stS_lt hW) (Nat.le_trans p1 (by decide))
        have es : spF w s' (stM w s') (k + 1) = if nd k (stM w s') = 0 ∧ ((spF w s' (stM w s') k).1 < 0 ∨ stV w k < (spF w s' (stM w s') k).2) ∧ stK w s' k = 0 then ((k : Int), stV w k) else spF w s' (stM w s') k := rfl
        have keep : ¬ (nd k (stM w s') = 0 ∧ ((spF w s' (stM w s') k).1 < 0 ∨ stV w k < (spF w s' (stM w s') k).2) ∧ stK w s' k = 0) → ∀ m2, BF μ m2 → mzWp (d + 6) 63 50 [mzR 0, mzI s', mzI t, mzI (stM w s' : Nat), mzI (spF w s' (stM w s') k).1, mzI (spF w s' (stM w s') k).2, mzI ((k + 1 : Nat) : Int), none] [] m2 (mzQi q) := by
          intro hc m2 f2
          have := ih (k + 1) m2 hkc f2
          rw [es, if_neg hc] at this
          exact this
        have take : (nd k (stM w s') = 0 ∧ ((spF w s' (stM w s') k).1 < 0 ∨ stV w k < (spF w s' (stM w s') k).2) ∧ stK w s' k = 0) → ∀ m2, BF μ m2 → mzWp (d + 6) 63 50 [mzR 0, mzI s', mzI t, mzI (stM w s' : Nat), mzI k, mzI (stV w k), mzI ((k + 1 : Nat) : Int), none] [] m2 (mzQi q) := by
          intro hc m2 f2
          have := ih (k + 1) m2 hkc f2
          rw [es, if_pos hc] at this
          exact this
        -- the stand
        have tail : nd k (stM w s') = 0 → ((spF w s' (stM w s') k).1 < 0 ∨ stV w k < (spF w s' (stM w s') k).2) → mzCl (d + 5) 32 [mzR 0] m (mzQi fun r10 m9 => mzCl (d + 5) 48 [mzR 0, mzI s', mzI (mzOr r10 (k : Int))] m9 (mzQi fun r12 m11 => (mzAnd r12 (mzXor (s' : Int) (-1)) = 0 → mzWp (d + 6) 63 50 [mzR 0, mzI s', mzI t, mzI (stM w s' : Nat), mzI k, mzI (stV w k), mzI ((k + 1 : Nat) : Int), none] [] m11 (mzQi q)) ∧ (mzAnd r12 (mzXor (s' : Int) (-1)) ≠ 0 → mzWp (d + 6) 63 50 [mzR 0, mzI s', mzI t, mzI (stM w s' : Nat), mzI (spF w s' (stM w s') k).1, mzI (spF w s' (stM w s') k).2, mzI ((k + 1 : Nat) : Int), none] [] m11 (mzQi q)))) := by
          intro a1 a2
          refine c_heldNow hW Im.1 ?_
          rw [nOr hl31 k31]
          refine c_standOf hW Im.1 hk12 e2 (fun m2 f2 => ?_)
          rw [nNot sl]
          exact ⟨fun z => take ⟨a1, a2, Int.ofNat.inj z⟩ m2 (f.tr f2), fun z => keep (fun b => z (congrArg (fun a : Nat => (a : Int)) b.2.2)) m2 (f.tr f2)⟩
        refine g63_50 _ _ _ _ _ _ _ (c_every Im.1.1 hN ⟨fun z => absurd z eN, fun _ => ?_⟩)
        rw [nNot k31, ew]
        refine ⟨fun z => ?_, fun z => keep (fun b => z (congrArg (fun a : Nat => (a : Int)) b.1)) m f⟩
        have a1 : nd k (stM w s') = 0 := Int.ofNat.inj z
        refine c_many k31 (c_sumOf (t := 5) hW Im.1 k12 (Or.inr rfl) ?_)
        rw [stV_r hW k]
        exact ⟨fun z1 => tail a1 (Or.inl z1), fun z1 => ⟨fun z2 => keep (fun b => b.2.1.elim (fun x => absurd x (Int.not_lt.mpr z1)) (fun x => absurd x (Int.not_lt.mpr z2))) m f, fun z2 => tail a1 (Or.inr z2)⟩⟩
    exact L (2 ^ wN w) 0 μ (Nat.zero_add _) BF.rf
  · rw [if_neg (by omega)] at h; exact h
  · rw [if_neg (by omega)] at h; exact h
theorem k_stop {d : Nat} {q : Int → mzM → Prop} {s t : Int} {μ : mzM} {w : Wd} (hW : WOk w) (C : CW μ 0 w) (h : ∀ μ', FC μ μ' → CW μ' 0 (stoS w s t).2 → q (stoS w s t).1 μ') : mzCl (d + 6) 153 [mzR 14, mzI s, mzI t] μ (mzQi q) := by
  have hN := hW.1
  have p1 := pow12 hN
  have p0 : 0 < 2 ^ wN w := Nat.pow_pos (by omega)
  unfold stoS at h
  have fd : ¬ ((0 ≤ s ∧ s < (2 ^ wN w : Nat)) ∧ 0 ≤ t ∧ t ≤ 1) → mzCl (d + 5) 173 [mzR 14, mzI (-1000001)] μ (mzQi q) := fun c => k_fd (by decide) hN C (by rw [if_neg c] at h; exact h)
  refine g153_e _ _ _ (k_isSet C.1 hN (fun s' e1 e2 => ⟨fun z => absurd z (by decide), fun _ => ⟨fun z => fd (by omega), fun b1 => ⟨fun b2 => k_survey hW C (fun m1 f1 G1 H1 => k_all (f1.cw hN C).1 hN ?_), fun z => fd (by omega)⟩⟩⟩) (fun a => ⟨fun _ => fd (by omega), fun z => absurd rfl z⟩))
  subst e1
  rw [if_pos ⟨⟨Int.natCast_nonneg _, Int.ofNat_lt.mpr e2⟩, b1, b2⟩, Int.toNat_natCast] at h
  have al := all_lt hN
  have n1 : nd (2 ^ wN w - 1) s' < 2147483648 := nd_lt (Nat.lt_trans al (by decide))
  have s31 : s' < 2147483648 := by omega
  rw [k_held (f1.cw hN C), nNot (Nat.lt_trans al (by decide)), nNot n1]
  have ml := stM_lt w s'
  obtain ⟨sp1, sp2⟩ := sp_some hW s'
  have L : ∀ (c k : Nat) (x4 x5 : Int) (m : mzM), k + c = stM w s' + 1 → NF m1 m → x4 = (if (spF w s' (stM w s') k).1 < 0 then (stM w s' : Int) else (spF w s' (stM w s') k).1) → x5 = (if (spF w s' (stM w s') k).1 < 0 then 100000000 else (spF w s' (stM w s') k).2) → mzWp (d + 6) 153 63 [mzR 14, mzI s', mzI t, mzI (stM w s' : Nat), mzI x4, mzI x5, mzI k, none] [] m (mzQi q) := by
    intro c
    induction c with
    | zero =>
      intro k x4 x5 m hk f h4 h5
      have : k = stM w s' + 1 := hk
      subst this
      have Cm := f.ef.cw hN (f1.cw hN C)
      rw [if_neg (Int.not_lt.mpr sp2), ← sp1] at h4
      subst h4
      refine g153_63 _ _ _ _ _ _ _ ⟨fun _ => ⟨fun z => ?_, fun z => ?_⟩, fun z => absurd z (by omega)⟩
      · rw [if_neg z] at h
        rcases spF_bd w s' (stM w s') (2 ^ wN w) with hb | ⟨j, j1, j2, _⟩
        · omega
        · rw [j2] at h ⊢
          rw [Int.toNat_natCast] at h
          exact k_sumOf (t := 5) hW Cm (by omega) (Or.inr rfl) (h m (f1.tr f.ef).fc Cm)
      · rw [if_pos z] at h
        exact h m (f1.tr f.ef).fc Cm
    | succ c ih =>
      intro k x4 x5 m hk f h4 h5
      have Cm := f.ef.cw hN (f1.cw hN C)
      have hkc : k + 1 + c = stM w s' + 1 := by omega
      have km : k ≤ stM w s' := by omega
      obtain ⟨k31, k12, kb, -, ew⟩ := mo_b (Nat.lt_of_le_of_lt km ml) hN
      have eN : ¬ (((stM w s' : Nat) : Int) < (k : Int)) := Int.not_lt.mpr (Int.ofNat_le.mpr km)
      have hl12 := hw_lt hW
      have hl31 : hw w < 2147483648 := Nat.lt_trans hl12 (by decide)
      have hk12 : hw w ||| k < 4096 := Nat.or_lt_two_pow (n := 12) hl12 k12
      have vb := stV_bd hW k
      have sl : stS w (H0 w) (hw w ||| k) s' < 2147483648 := Nat.lt_of_lt_of_le (stS_lt hW) (Nat.le_trans p1 (by decide))
      have es : spF w s' (stM w s') (k + 1) = if nd k (stM w s') = 0 ∧ ((spF w s' (stM w s') k).1 < 0 ∨ stV w k < (spF w s' (stM w s') k).2) ∧ stK w s' k = 0 then ((k : Int), stV w k) else spF w s' (stM w s') k := rfl
      have keep : ¬ (nd k (stM w s') = 0 ∧ ((spF w s' (stM w s') k).1 < 0 ∨ stV w k < (spF w s' (stM w s') k).2) ∧ stK w s' k = 0) → ∀ m2, NF m1 m2 → mzWp (d + 6) 153 63 [mzR 14, mzI s', mzI t, mzI (stM w s' : Nat), mzI x4, mzI x5, mzI ((k + 1 : Nat) : Int), none] [] m2 (mzQi q) := fun hc m2 f2 => ih (k + 1) x4 x5 m2 hkc f2 (by rw [es, if_neg hc]; exact h4) (by rw [es, if_neg hc]; exact h5)
      have take : (nd k (stM w s') = 0 ∧ ((spF w s' (stM w s') k).1 < 0 ∨ stV w k < (spF w s' (stM w s') k).2) ∧ stK w s' k = 0) → ∀ m2, NF m1 m2 → mzWp (d + 6) 153 63 [mzR 14, mzI s', mzI t, mzI (stM w s' : Nat), mzI k, mzI (stV w k), mzI ((k + 1 : Nat) : Int), none] [] m2 (mzQi q) := fun hc m2 f2 => ih (k + 1) k (stV w k) m2 hkc f2 (by rw [es, if_pos hc, if_neg (Int.not_lt.mpr (Int.natCast_nonneg _))]) (by rw [es, if_pos hc, if_neg (Int.not_lt.mpr (Int.natCast_nonneg _))])
      have lt1 : stV w k < x5 → ((spF w s' (stM w s') k).1 < 0 ∨ stV w k < (spF w s' (stM w s') k).2) := by
        intro a
        by_cases c : (spF w s' (stM w s') k).1 < 0
        · exact Or.inl c
        · rw [h5, if_neg c] at a; exact Or.inr a
      have lt2 : ((spF w s' (stM w s') k).1 < 0 ∨ stV w k < (spF w s' (stM w s') k).2) → stV w k < x5 := by
        intro a
        by_cases c : (spF w s' (stM w s') k).1 < 0
        · rw [h5, if_pos c]; exact vb
        · rw [h5, if_neg c]
          exact a.elim (fun b => absurd b c) id
      refine g153_63 _ _ _ _ _ _ _ ⟨fun z => absurd z eN, fun _ => ?_⟩
      rw [nNot k31, ew]
      refine ⟨fun z => keep (fun b => z (congrArg (fun a : Nat => (a : Int)) b.1)) m f, fun z => k_bitCount k12 (k_sumOf (t := 5) hW Cm k12 (Or.inr rfl) ?_)⟩
      have a1 : nd k (stM w s') = 0 := Int.ofNat.inj z
      have ev : mzW ((mzW ((cnt k 12 : Nat) * 10000)) + suS w 5 k (wN w)) = stV w k := by rw [Int.mul_comm]; exact stV_r hW k
      rw [ev]
      refine ⟨fun z2 => keep (fun b => absurd (lt2 b.2.1) (Int.not_lt.mpr z2)) m f, fun z2 => ?_⟩
      rw [k_held Cm, nOr hl31 k31]
      refine k_standOf hW Cm (f.gm hN G1) (f.hc H1) hk12 e2 (fun m2 f2 => ?_)
      rw [nNot sl]
      exact ⟨fun z3 => keep (fun b => z3 (congrArg (fun a : Nat => (a : Int)) b.2.2)) m2 (f.tr f2), fun z3 => take ⟨a1, lt1 z2, Int.ofNat.inj z3⟩ m2 (f.tr f2)⟩
  exact L (stM w s' + 1) 0 (stM w s') 100000000 m1 (Nat.zero_add _) NF.rf (by rw [spF, if_pos (by decide)]) (by rw [spF, if_pos (by decide)])
theorem p_stop {d : Nat} {μ : mzM} {w : Wd} {q : Int → Int → mzM → Prop} {s t : Int} (R : RW μ w) (h : ∀ a μ' w', RW μ' w' → q a a μ') : mzCl (d + 6) 153 [mzR 14, mzI s, mzI t] μ (mzQi fun a m1 => mzCl (d + 6) 63 [mzR 0, mzI s, mzI t] m1 (mzQi fun c m2 => q a c m2)) :=
  pair (stoS w s t) R R.1 (fun q' z => k_stop R.1 R.2.2.1 z) (fun m1 q' _ I z => c_stop R.1 I z) h
