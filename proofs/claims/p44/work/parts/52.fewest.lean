/-! PAIRS: fewest, cheapest, most -/
def suS (w : Wd) (t s : Nat) : Nat → Int
  | 0 => 0
  | k + 1 => suS w t s k + if s.testBit k = true then wT w k t else 0
theorem T45_ok {w : Wd} (hW : WOk w) {p t : Nat} (hp : p < wN w) (ht : t = 4 ∨ t = 5) : 1 ≤ wT w p t ∧ wT w p t ≤ 99 := by
  rcases ht with ht | ht
  · rw [ht]; exact hW.T hp (t := 4) (by decide)
  · rw [ht]; exact hW.T hp (t := 5) (by decide)
theorem suS_bd {w : Wd} (hW : WOk w) {t : Nat} (ht : t = 4 ∨ t = 5) (s : Nat) : ∀ k, k ≤ wN w → 0 ≤ suS w t s k ∧ suS w t s k ≤ 99 * k := by
  intro k
  induction k with
  | zero =>
    intro _
    show (0 : Int) ≤ 0 ∧ (0 : Int) ≤ 99 * ((0 : Nat) : Int)
    exact ⟨by decide, by decide⟩
  | succ k ih =>
    intro hk
    have i1 := ih (by omega)
    have t1 := T45_ok hW (show k < wN w by omega) ht
    unfold suS
    split <;> omega
theorem su_le {w : Wd} (hW : WOk w) {t : Nat} (ht : t = 4 ∨ t = 5) (s : Nat) {k : Nat} (hk : k ≤ wN w) : 0 ≤ suS w t s k ∧ suS w t s k ≤ 1188 := by
  have h1 := suS_bd hW ht s k hk
  have h2 := hW.1
  omega
theorem c_sumOf {d s t : Nat} {q : Int → mzM → Prop} {μ : mzM} {w : Wd} (hW : WOk w) (I : MW μ 1 w) (hs : s < 4096) (ht : t = 4 ∨ t = 5) (h : q (suS w t s (wN w)) μ) : mzCl (d + 1) 54 [mzR 0, mzI s, mzI t] μ (mzQi q) := by
  have hN := hW.1
  have t10 : t < 10 := by omega
  have L : ∀ (c i : Nat), i + c = wN w → mzWp (d + 1) 54 5 [mzR 0, mzI s, mzI t, mzI (suS w t s i), mzI i] [] μ (mzQi q) := by
    intro c
    induction c with
    | zero =>
      intro i hi
      have : i = wN w := by omega
      subst this
      have hm := I.1
      exact g54_5 _ _ _ _ _ ⟨by decide, fun _ => h, fun z => by omega⟩
    | succ c ih =>
      intro i hi
      have hin : i < wN w := by omega
      have hm := I.1
      have b1 := su_le hW ht s (show i ≤ wN w by omega)
      have b2 := T45_ok hW hin ht
      have go := ih (i + 1) (by omega)
      rw [show suS w t s (i + 1) = suS w t s i + (if s.testBit i = true then wT w i t else 0) from rfl] at go
      refine g54_5 _ _ _ _ _ ⟨by decide, fun z => by omega, fun _ => c_has (by omega) (by omega) (fun e => ⟨fun z => absurd z (by decide), fun _ => c_of (by omega) t10 ?_⟩) (fun e => ⟨fun _ => ?_, fun z => absurd rfl z⟩)⟩
      · rw [I.T hin t10, w1 (by omega), wid (by omega) (by omega)]
        rw [if_pos e] at go
        exact go
      · rw [w1 (by omega), wid (by omega) (by omega)]
        rw [if_neg (by rw [e]; decide)] at go
        exact go
  exact g54_e _ _ _ (L (wN w) 0 (Nat.zero_add _))
theorem k_sumOf {d s t : Nat} {q : Int → mzM → Prop} {μ : mzM} {w : Wd} (hW : WOk w) (C : CW μ 0 w) (hs : s < 4096) (ht : t = 4 ∨ t = 5) (h : q (suS w t s (wN w)) μ) : mzCl d 99 [mzR 26, mzI s, mzI t] μ (mzQi q) := by
  have hN := hW.1
  have t9 : t < 9 := by omega
  have L : ∀ (c i : Nat), i + c = wN w → mzWp d 99 5 [mzR 26, mzI s, mzI t, mzI (suS w t s i), mzI i] [] μ (mzQi q) := by
    intro c
    induction c with
    | zero =>
      intro i hi
      have : i = wN w := by omega
      subst this
      have hm : μ 26 0 = wN w := C.1
      exact g99_5 _ _ _ _ _ ⟨fun _ => h, fun z => by omega⟩
    | succ c ih =>
      intro i hi
      have hin : i < wN w := by omega
      have hm : μ 26 0 = wN w := C.1
      have b1 := su_le hW ht s (show i ≤ wN w by omega)
      have b2 := T45_ok hW hin ht
      have go := ih (i + 1) (by omega)
      rw [show suS w t s (i + 1) = suS w t s i + (if s.testBit i = true then wT w i t else 0) from rfl] at go
      refine g99_5 _ _ _ _ _ ⟨fun z => by omega, fun _ => ⟨fun z => ?_, fun z => ⟨by omega, ?_⟩⟩⟩
      · rw [nBit0 (by omega) (by omega)] at z
        rw [w1 (by omega)]
        rw [if_neg (by rw [z]; decide), Int.add_zero] at go
        exact go
      · rw [nBit1 (by omega) (by omega)] at z
        rw [Int.toNat_natCast, Int.toNat_natCast, C.T hin t9, w1 (by omega), wid (by omega) (by omega)]
        rw [if_pos z] at go
        exact ⟨⟨by omega, by omega, by omega⟩, go⟩
  exact g99_e _ _ _ (L (wN w) 0 (Nat.zero_add _))
/-- the best of the first k sets whose stand is all -/
def leF (w : Wd) (V : Nat → Int) : Nat → Int × Int
  | 0 => (-1, 0)
  | k + 1 => if saS w k = 2 ^ wN w - 1 ∧ ((leF w V k).1 < 0 ∨ V k < (leF w V k).2) then ((k : Int), V k) else leF w V k
theorem leF_bd (w : Wd) (V : Nat → Int) : ∀ k, (leF w V k).1 = -1 ∨ ∃ j, j < k ∧ (leF w V k).1 = (j : Int) ∧ (leF w V k).2 = V j := by
  intro k
  induction k with
  | zero => exact Or.inl rfl
  | succ k ih =>
    rw [leF]
    split
    · exact Or.inr ⟨k, Nat.lt_succ_self k, rfl, rfl⟩
    · rcases ih with h | ⟨j, h1, h2⟩
      · exact Or.inl h
      · exact Or.inr ⟨j, Nat.lt_succ_of_lt h1, h2⟩
theorem leF_iso (w : Wd) {V V2 : Nat → Int} (h : ∀ a b, V a < V b ↔ V2 a < V2 b) : ∀ k, (leF w V k).1 = (leF w V2 k).1 := by
  intro k
  induction k with
  | zero => rfl
  | succ k ih =>
    have e : ((leF w V k).1 < 0 ∨ V k < (leF w V k).2) ↔ ((leF w V2 k).1 < 0 ∨ V2 k < (leF w V2 k).2) := by
      rcases leF_bd w V k with h1 | ⟨j, h1, h2, h3⟩
      · exact ⟨fun _ => Or.inl (by omega), fun _ => Or.inl (by omega)⟩
      · rcases leF_bd w V2 k with h4 | ⟨j2, h4, h5, h6⟩
        · omega
        · have ej : j = j2 := by omega
          subst ej
          rw [h3, h6]
          have := h k j
          constructor
          · intro a
            rcases a with a | a
            · omega
            · exact Or.inr (this.mp a)
          · intro a
            rcases a with a | a
            · omega
            · exact Or.inr (this.mpr a)
    rw [leF, leF]
    by_cases c : saS w k = 2 ^ wN w - 1 ∧ ((leF w V k).1 < 0 ∨ V k < (leF w V k).2)
    · rw [if_pos c, if_pos ⟨c.1, e.mp c.2⟩]
    · rw [if_neg c, if_neg (fun a => c ⟨a.1, e.mpr a.2⟩)]; exact ih
theorem c_leastAll {d : Nat} {q : Int → mzM → Prop} {μ : mzM} {w : Wd} {x1 x2 : Int} {V : Nat → Int} (hW : WOk w) (I : MI μ w) (hV : ∀ s, s < 4096 → mzW ((mzW (x1 * (cnt s 12 : Nat))) + (mzW (x2 * suS w 4 s (wN w)))) = V s) (h : ∀ μ', FM μ μ' → MI μ' w → q (leF w V (2 ^ wN w)).1 μ') : mzCl (d + 6) 55 [mzR 0, mzI x1, mzI x2] μ (mzQi q) := by
  have hN := hW.1
  have p1 := pow12 hN
  have p0 : 0 < 2 ^ wN w := Nat.pow_pos (by omega)
  refine g55_e _ _ _ (c_findStands hW I (fun m1 f1 I1 e8 => ?_))
  have L : ∀ (c s : Nat), s + c = 2 ^ wN w → mzWp (d + 6) 55 12 [mzR 0, mzI x1, mzI x2, mzI (leF w V s).1, mzI (leF w V s).2, mzI s, none] [] m1 (mzQi q) := by
    intro c
    induction c with
    | zero =>
      intro s hs
      have : s = 2 ^ wN w := by omega
      subst this
      exact g55_12 _ _ _ _ _ _ (c_every I1.1.1 hN ⟨fun _ => h m1 f1 I1, fun z => by omega⟩)
    | succ c ih =>
      intro s hs
      have s12 : s < 4096 := by omega
      have go := ih (s + 1) (by omega)
      rw [show leF w V (s + 1) = if saS w s = 2 ^ wN w - 1 ∧ ((leF w V s).1 < 0 ∨ V s < (leF w V s).2) then ((s : Int), V s) else leF w V s from rfl] at go
      refine g55_12 _ _ _ _ _ _ (c_every I1.1.1 hN ⟨fun z => by omega, fun _ => ⟨by omega, c_every I1.1.1 hN ?_⟩⟩)
      rw [Int.toNat_natCast, e8 s (by omega), w1 (by omega)]
      refine ⟨fun z => c_many (by omega) (c_sumOf (t := 4) hW I1.1 s12 (Or.inl rfl) ?_), fun z => ?_⟩
      · have a : saS w s = 2 ^ wN w - 1 := Int.ofNat.inj z
        rw [hV s s12]
        refine ⟨fun z1 => ?_, fun z1 => ⟨fun z2 => ?_, fun z2 => ?_⟩⟩
        · rw [if_pos ⟨a, Or.inl z1⟩] at go; exact go
        · rw [if_pos ⟨a, Or.inr z2⟩] at go; exact go
        · rw [if_neg (fun b => b.2.elim (fun b => absurd b (Int.not_lt.mpr z1)) (fun b => absurd b (Int.not_lt.mpr z2)))] at go; exact go
      · rw [if_neg (fun b => z (congrArg (fun a : Nat => (a : Int)) b.1))] at go; exact go
  exact L (2 ^ wN w) 0 (Nat.zero_add _)
theorem k_leastThat {d : Nat} {q : Int → mzM → Prop} {μ : mzM} {w : Wd} {x1 : Int} {V : Nat → Int} (hW : WOk w) (C : CW μ 0 w) (hV0 : x1 = 0 → ∀ s, s < 4096 → mzW ((mzW (suS w 4 s (wN w) * 10000)) + (cnt s 12 : Nat)) = V s) (hV1 : x1 ≠ 0 → ∀ s, s < 4096 → mzW ((mzW ((cnt s 12 : Nat) * 10000)) + suS w 4 s (wN w)) = V s) (hVb : ∀ s, s < 4096 → V s < 100000000) (h : ∀ μ', FC μ μ' → CW μ' 0 w → q (leF w V (2 ^ wN w)).1 μ') : mzCl (d + 6) 179 [mzR 14, mzI x1] μ (mzQi q) := by
  have hN := hW.1
  have p1 := pow12 hN
  have p0 : 0 < 2 ^ wN w := Nat.pow_pos (by omega)
  refine g179_e _ _ (k_survey hW C (fun m1 f1 G1 H1 => k_mustBe hW (f1.cw hN C) G1 H1 ?_))
  have ml : muS w < 4096 := mk_l12 _ hN
  have L : ∀ (c s : Nat) (x4 : Int) (m : mzM), s + c = 2 ^ wN w → NF m1 m → x4 = (if (leF w V s).1 < 0 then 100000000 else (leF w V s).2) → mzWp (d + 6) 179 24 [mzR 14, mzI x1, mzI (muS w : Nat), mzI (leF w V s).1, mzI x4, mzI s, none, none, none] [] m (mzQi q) := by
    intro c
    induction c with
    | zero =>
      intro s x4 m hs f hx
      have : s = 2 ^ wN w := by omega
      subst this
      have Cm := f.ef.cw hN (f1.cw hN C)
      exact g179_24 _ _ _ _ _ _ (k_all Cm.1 hN ⟨fun _ => h m (f1.tr f.ef).fc Cm, fun z => by omega⟩)
    | succ c ih =>
      intro s x4 m hs f hx
      have Cm := f.ef.cw hN (f1.cw hN C)
      have s31 : s < 2147483648 := by omega
      have s12 : s < 4096 := by omega
      have s2n : s < 2 ^ wN w := by omega
      have hsc : s + 1 + c = 2 ^ wN w := by omega
      have vb := hVb s s12
      have eN : ¬ ((((2 ^ wN w - 1 : Nat) : Int)) < (s : Int)) := by omega
      have ew : mzW ((s : Int) + 1) = ((s + 1 : Nat) : Int) := w1 (by omega)
      have es : leF w V (s + 1) = if saS w s = 2 ^ wN w - 1 ∧ ((leF w V s).1 < 0 ∨ V s < (leF w V s).2) then ((s : Int), V s) else leF w V s := rfl
      have keep : ¬ (saS w s = 2 ^ wN w - 1 ∧ ((leF w V s).1 < 0 ∨ V s < (leF w V s).2)) → ∀ m2, NF m1 m2 → mzWp (d + 6) 179 24 [mzR 14, mzI x1, mzI (muS w : Nat), mzI (leF w V s).1, mzI x4, mzI ((s + 1 : Nat) : Int), none, none, none] [] m2 (mzQi q) := by
        intro hc m2 f2
        have := ih (s + 1) x4 m2 hsc f2 (by rw [es, if_neg hc]; exact hx)
        rw [es, if_neg hc] at this
        exact this
      have take : (saS w s = 2 ^ wN w - 1 ∧ ((leF w V s).1 < 0 ∨ V s < (leF w V s).2)) → ∀ m2, NF m1 m2 → mzWp (d + 6) 179 24 [mzR 14, mzI x1, mzI (muS w : Nat), mzI s, mzI (V s), mzI ((s + 1 : Nat) : Int), none, none, none] [] m2 (mzQi q) := by
        intro hc m2 f2
        have := ih (s + 1) (V s) m2 hsc f2 (by rw [es, if_pos hc, if_neg (Int.not_lt.mpr (Int.natCast_nonneg _))])
        rw [es, if_pos hc] at this
        exact this
      have lt1 : V s < x4 → ((leF w V s).1 < 0 ∨ V s < (leF w V s).2) := by
        intro a
        by_cases c : (leF w V s).1 < 0
        · exact Or.inl c
        · rw [hx, if_neg c] at a; exact Or.inr a
      have lt2 : ((leF w V s).1 < 0 ∨ V s < (leF w V s).2) → V s < x4 := by
        intro a
        by_cases c : (leF w V s).1 < 0
        · rw [hx, if_pos c]; exact vb
        · rw [hx, if_neg c]
          exact a.elim (fun b => absurd b c) id
      -- behind the weight
      have tail : (x4 ≤ V s → mzWp (d + 6) 179 24 [mzR 14, mzI x1, mzI (muS w : Nat), mzI (leF w V s).1, mzI x4, mzI ((s + 1 : Nat) : Int), none, none, none] [] m (mzQi q)) ∧ (V s < x4 → mzCl (d + 5) 106 [mzR 16, mzI s] m (mzQi fun r8 m7 => (r8 = 0 → mzWp (d + 6) 179 24 [mzR 14, mzI x1, mzI (muS w : Nat), mzI (leF w V s).1, mzI x4, mzI ((s + 1 : Nat) : Int), none, none, none] [] m7 (mzQi q)) ∧ (r8 ≠ 0 → mzWp (d + 6) 179 24 [mzR 14, mzI x1, mzI (muS w : Nat), mzI s, mzI (V s), mzI ((s + 1 : Nat) : Int), none, none, none] [] m7 (mzQi q)))) :=
        ⟨fun z => keep (fun a => absurd (lt2 a.2) (Int.not_lt.mpr z)) m f, fun z => k_standsAll (H := H0 w) hW Cm (f.gm hN G1) (f.hc H1) s2n (fun a m3 f3 => ⟨fun c => absurd c (by decide), fun _ => take ⟨a, lt1 z⟩ m3 (f.tr f3)⟩) (fun a m3 f3 => ⟨fun _ => keep (fun b => a b.1) m3 (f.tr f3), fun c => absurd rfl c⟩)⟩
      refine g179_24 _ _ _ _ _ _ (k_all Cm.1 hN ⟨fun z => absurd z eN, fun _ => ?_⟩)
      rw [nAnd s31, ew]
      refine ⟨fun z => keep (fun a => z (congrArg (fun a : Nat => (a : Int)) (mu_sub hW a.1))) m f, fun z => k_bitCount s12 (k_sumOf (t := 4) hW Cm s12 (Or.inl rfl) ⟨fun x0 => ?_, fun x0 => ?_⟩)⟩
      · rw [hV0 x0 s s12]; exact tail
      · rw [hV1 x0 s s12]; exact tail
  exact L (2 ^ wN w) 0 100000000 m1 (Nat.zero_add _) NF.rf (by rw [leF, if_pos (by decide)])
def toT (w : Wd) (b t : Int) : Int := if b < 0 then -1000004 else if t = 0 then b else if t = 1 then (cnt b.toNat 12 : Nat) else suS w 4 b.toNat (wN w)
theorem c_told {d : Nat} {q : Int → mzM → Prop} {b t : Int} {μ : mzM} {w : Wd} (hW : WOk w) (I : MI μ w) (hb : b < 4096) (h : ∀ μ', FM μ μ' → MI μ' w → q (toT w b t) μ') : mzCl (d + 2) 56 [mzR 0, mzI b, mzI t] μ (mzQi q) := by
  unfold toT at h
  refine g56_e _ _ _ ⟨fun z => ?_, fun z => c_fd (by decide) I (by rw [if_pos z] at h; exact h)⟩
  obtain ⟨b, rfl⟩ : ∃ k : Nat, b = k := ⟨b.toNat, by omega⟩
  rw [if_neg (by omega), Int.toNat_natCast] at h
  refine ⟨fun z0 => ⟨fun z1 => ?_, fun z1 => ?_⟩, fun z0 => ?_⟩
  · rw [if_neg z0, if_neg z1] at h
    exact c_sumOf (t := 4) hW I.1 (by omega) (Or.inl rfl) (h μ FM.rf I)
  · rw [if_neg z0, if_pos z1] at h
    exact c_many (by omega) (h μ FM.rf I)
  · rw [if_pos z0] at h
    exact h μ FM.rf I
theorem k_told {d : Nat} {q : Int → mzM → Prop} {b t : Int} {μ : mzM} {w : Wd} (hW : WOk w) (C : CW μ 0 w) (hb : b < 4096) (h : ∀ μ', FC μ μ' → CW μ' 0 w → q (toT w b t) μ') : mzCl (d + 2) 180 [mzR 14, mzI b, mzI t] μ (mzQi q) := by
  unfold toT at h
  refine g180_e _ _ _ ⟨fun z => ?_, fun z => k_fd (by decide) hW.1 C (by rw [if_pos z] at h; exact h)⟩
  obtain ⟨b, rfl⟩ : ∃ k : Nat, b = k := ⟨b.toNat, by omega⟩
  rw [if_neg (by omega), Int.toNat_natCast] at h
  refine ⟨fun z0 => ?_, fun z0 => ⟨fun z1 => ?_, fun z1 => ?_⟩⟩
  · rw [if_pos z0] at h
    exact h μ FC.rf C
  · rw [if_neg z0, if_pos z1] at h
    exact k_bitCount (by omega) (h μ FC.rf C)
  · rw [if_neg z0, if_neg z1] at h
    exact k_sumOf (t := 4) hW C (by omega) (Or.inl rfl) (h μ FC.rf C)
theorem leF_lt {w : Wd} (hW : WOk w) (V : Nat → Int) : (leF w V (2 ^ wN w)).1 < 4096 := by
  have p1 := pow12 hW.1
  rcases leF_bd w V (2 ^ wN w) with h | ⟨j, h1, h2, _⟩
  · omega
  · omega
def feV (w : Wd) (s : Nat) : Int := 10000 * (cnt s 12 : Nat) + suS w 4 s (wN w)
def chV (w : Wd) (s : Nat) : Int := (cnt s 12 : Nat) + 100 * suS w 4 s (wN w)
def chV2 (w : Wd) (s : Nat) : Int := suS w 4 s (wN w) * 10000 + (cnt s 12 : Nat)
def feS (w : Wd) (t : Int) : Int × Wd := (if 0 ≤ t ∧ t ≤ 2 then toT w (leF w (feV w) (2 ^ wN w)).1 t else -1000001, w)
def cheS (w : Wd) (t : Int) : Int × Wd := (if 0 ≤ t ∧ t ≤ 2 then toT w (leF w (chV w) (2 ^ wN w)).1 t else -1000001, w)
theorem c_fewest {d : Nat} {q : Int → mzM → Prop} {t : Int} {μ : mzM} {w : Wd} (hW : WOk w) (I : MI μ w) (h : ∀ μ', FM μ μ' → MI μ' (feS w t).2 → q (feS w t).1 μ') : mzCl (d + 7) 57 [mzR 0, mzI t] μ (mzQi q) := by
  unfold feS at h
  refine g57_e _ _ (c_in (fun a1 a2 => ⟨fun z => absurd z (by decide), fun _ => ?_⟩) (fun a => ⟨fun _ => c_fd (by decide) I ?_, fun z => absurd rfl z⟩))
  · rw [if_pos ⟨a1, a2⟩] at h
    refine c_leastAll (V := feV w) hW I (fun s hs => ?_) (fun m1 f1 I1 => c_told hW I1 (leF_lt hW _) (fun m2 f2 I2 => h m2 (f1.tr f2) I2))
    have b1 := su_le hW (t := 4) (Or.inl rfl) s (Nat.le_refl (wN w))
    have b2 := cnt12_le s
    unfold feV
    rw [wid (z := 10000 * _) (by omega) (by omega), wid (z := 1 * _) (by omega) (by omega), wid (by omega) (by omega), Int.one_mul]
  · rw [if_neg (by omega)] at h; exact h
theorem c_cheapest {d : Nat} {q : Int → mzM → Prop} {t : Int} {μ : mzM} {w : Wd} (hW : WOk w) (I : MI μ w) (h : ∀ μ', FM μ μ' → MI μ' (cheS w t).2 → q (cheS w t).1 μ') : mzCl (d + 7) 58 [mzR 0, mzI t] μ (mzQi q) := by
  unfold cheS at h
  refine g58_e _ _ (c_in (fun a1 a2 => ⟨fun z => absurd z (by decide), fun _ => ?_⟩) (fun a => ⟨fun _ => c_fd (by decide) I ?_, fun z => absurd rfl z⟩))
  · rw [if_pos ⟨a1, a2⟩] at h
    refine c_leastAll (V := chV w) hW I (fun s hs => ?_) (fun m1 f1 I1 => c_told hW I1 (leF_lt hW _) (fun m2 f2 I2 => h m2 (f1.tr f2) I2))
    have b1 := su_le hW (t := 4) (Or.inl rfl) s (Nat.le_refl (wN w))
    have b2 := cnt12_le s
    unfold chV
    rw [wid (z := 1 * _) (by omega) (by omega), wid (z := 100 * _) (by omega) (by omega), wid (by omega) (by omega), Int.one_mul]
  · rw [if_neg (by omega)] at h; exact h
theorem k_fewest {d : Nat} {q : Int → mzM → Prop} {t : Int} {μ : mzM} {w : Wd} (hW : WOk w) (C : CW μ 0 w) (h : ∀ μ', FC μ μ' → CW μ' 0 (feS w t).2 → q (feS w t).1 μ') : mzCl (d + 7) 148 [mzR 14, mzI t] μ (mzQi q) := by
  unfold feS at h
  have fd : ¬ (0 ≤ t ∧ t ≤ 2) → mzCl (d + 6) 173 [mzR 14, mzI (-1000001)] μ (mzQi q) := fun c => k_fd (by decide) hW.1 C (by rw [if_neg c] at h; exact h)
  refine g148_e _ _ ⟨fun z => fd (by omega), fun a1 => ⟨fun a2 => ?_, fun z => fd (by omega)⟩⟩
  rw [if_pos ⟨a1, a2⟩] at h
  refine k_leastThat (V := feV w) hW C (fun c => absurd c (by decide)) (fun _ s hs => ?_) (fun s hs => ?_) (fun m1 f1 C1 => k_told hW C1 (leF_lt hW _) (fun m2 f2 C2 => h m2 (f1.tr f2) C2))
  · have b1 := su_le hW (t := 4) (Or.inl rfl) s (Nat.le_refl (wN w))
    have b2 := cnt12_le s
    unfold feV
    rw [wid (z := _ * 10000) (by omega) (by omega), wid (by omega) (by omega), Int.mul_comm]
  · have b1 := su_le hW (t := 4) (Or.inl rfl) s (Nat.le_refl (wN w))
    have b2 := cnt12_le s
    unfold feV
    omega
theorem k_cheapest {d : Nat} {q : Int → mzM → Prop} {t : Int} {μ : mzM} {w : Wd} (hW : WOk w) (C : CW μ 0 w) (h : ∀ μ', FC μ μ' → CW μ' 0 (cheS w t).2 → q (cheS w t).1 μ') : mzCl (d + 7) 149 [mzR 14, mzI t] μ (mzQi q) := by
  unfold cheS at h
  have fd : ¬ (0 ≤ t ∧ t ≤ 2) → mzCl (d + 6) 173 [mzR 14, mzI (-1000001)] μ (mzQi q) := fun c => k_fd (by decide) hW.1 C (by rw [if_neg c] at h; exact h)
  refine g149_e _ _ ⟨fun z => fd (by omega), fun a1 => ⟨fun a2 => ?_, fun z => fd (by omega)⟩⟩
  have iso : (leF w (chV w) (2 ^ wN w)).1 = (leF w (chV2 w) (2 ^ wN w)).1 := leF_iso w (fun a b => by
    have b2 := cnt12_le a
    have b3 := cnt12_le b
    unfold chV chV2
    omega) _
  rw [if_pos ⟨a1, a2⟩, iso] at h
  refine k_leastThat (V := chV2 w) hW C (fun _ s hs => ?_) (fun c => absurd rfl c) (fun s hs => ?_) (fun m1 f1 C1 => k_told hW C1 (leF_lt hW _) (fun m2 f2 C2 => h m2 (f1.tr f2) C2))
  · have b1 := su_le hW (t := 4) (Or.inl rfl) s (Nat.le_refl (wN w))
    have b2 := cnt12_le s
    unfold chV2
    rw [wid (z := _ * 10000) (by omega) (by omega), wid (by omega) (by omega)]
  · have b1 := su_le hW (t := 4) (Or.inl rfl) s (Nat.le_refl (wN w))
    have b2 := cnt12_le s
    unfold chV2
    omega
theorem p_fewest {d : Nat} {μ : mzM} {w : Wd} {q : Int → Int → mzM → Prop} {t : Int} (R : RW μ w) (h : ∀ a μ' w', RW μ' w' → q a a μ') : mzCl (d + 7) 148 [mzR 14, mzI t] μ (mzQi fun a m1 => mzCl (d + 7) 57 [mzR 0, mzI t] m1 (mzQi fun c m2 => q a c m2)) :=
  pair (feS w t) R R.1 (fun q' z => k_fewest R.1 R.2.2.1 z) (fun m1 q' _ I z => c_fewest R.1 I z) h
theorem p_cheapest {d : Nat} {μ : mzM} {w : Wd} {q : Int → Int → mzM → Prop} {t : Int} (R : RW μ w) (h : ∀ a μ' w', RW μ' w' → q a a μ') : mzCl (d + 7) 149 [mzR 14, mzI t] μ (mzQi fun a m1 => mzCl (d + 7) 58 [mzR 0, mzI t] m1 (mzQi fun c m2 => q a c m2)) :=
  pair (cheS w t) R R.1 (fun q' z => k_cheapest R.1 R.2.2.1 z) (fun m1 q' _ I z => c_cheapest R.1 I z) h
