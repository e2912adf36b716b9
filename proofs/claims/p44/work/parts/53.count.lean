/-! PAIRS: count, status, most (answers of the last two not alike) -/
def fsS (w : Wd) : Nat → Int
  | 0 => 0
  | k + 1 => fsS w k + if wS w k = -1 then 0 else 1
theorem fsS_bd (w : Wd) : ∀ k, 0 ≤ fsS w k ∧ fsS w k ≤ k := by
  intro k
  induction k with
  | zero => exact ⟨Int.le_refl _, Int.le_refl _⟩
  | succ k ih => unfold fsS; split <;> omega
def cntS (w : Wd) (len t : Int) : Int := if t = 0 then wN w else if t = 1 then wE w else if t = 2 then wK w else if t = 3 then (cnt (hw w) 12 : Nat) else if t = 4 then len else if t = 5 then wZ w else if t = 6 then fsS w 10 else -1000001
theorem c_count {d : Nat} {q : Int → mzM → Prop} {len t : Int} {μ : mzM} {w : Wd} (hW : WOk w) (I : MI μ w) (hl : μ 0 6 = len) (h : ∀ μ', FM μ μ' → MI μ' w → q (cntS w len t) μ') : mzCl (d + 2) 89 [mzR 0, mzI t] μ (mzQi q) := by
  have hN := hW.1
  have now : ∀ v, cntS w len t = v → q v μ := fun v e => by
    have := h μ FM.rf I
    rw [e] at this
    exact this
  have L : t = 6 → ∀ (c i : Nat), i + c = 10 → mzWp (d + 2) 89 73 [mzR 0, none, mzI (fsS w i), mzI i] [] μ (mzQi q) := by
    intro t6 c
    induction c with
    | zero =>
      intro i hi
      have : i = 10 := hi
      subst this
      exact g89_73 _ _ _ ⟨fun _ => now _ (by unfold cntS; rw [t6]; rfl), fun z => absurd z (by decide)⟩
    | succ c ih =>
      intro i hi
      have i10 : i < 10 := by omega
      have e : mzW (308 + (i : Int)) = ((308 + i : Nat) : Int) := by rw [wid (by omega) (by omega)]; omega
      have es : μ 1 (308 + i) = wS w i := I.1.S i10
      have sb := hW.S i10
      have fb := fsS_bd w i
      have go := ih (i + 1) (by omega)
      rw [show fsS w (i + 1) = fsS w i + (if wS w i = -1 then 0 else 1) from rfl] at go
      refine g89_73 _ _ _ ⟨fun z => by omega, fun _ => ?_⟩
      rw [e, Int.toNat_natCast, es, w1 (by omega)]
      refine ⟨by omega, fun z => ?_, fun z => ?_⟩
      · rw [if_pos (by omega)] at go
        rw [wid (by omega) (by omega)]
        exact go
      · rw [if_neg (by omega)] at go
        rw [wid (by omega) (by omega)]
        exact go
  have v0 : cntS w len 0 = wN w := by simp [cntS]
  have v1 : cntS w len 1 = wE w := by simp [cntS]
  have v2 : cntS w len 2 = wK w := by simp [cntS]
  have v3 : cntS w len 3 = (cnt (hw w) 12 : Nat) := by simp [cntS]
  have v4 : cntS w len 4 = len := by simp [cntS]
  have v5 : cntS w len 5 = wZ w := by simp [cntS]
  have hl12 := hw_lt hW
  refine g89_e _ _ ⟨⟨fun z => ⟨by omega, ?_⟩, fun z => ⟨by omega, ?_⟩, fun z => ⟨by omega, ?_⟩, fun z => ?_, fun z => ?_, fun z => ⟨by decide, ?_⟩, fun z => L z 10 0 (Nat.zero_add _), trivial⟩, fun z => c_fd (by decide) I ?_⟩
  · subst z; exact now _ (v0.trans I.1.1.symm)
  · subst z; exact now _ (v1.trans I.1.2.1.symm)
  · subst z; exact now _ (v2.trans I.1.2.2.1.symm)
  · subst z
    exact c_heldNow hW I.1 (c_many (Nat.lt_trans hl12 (by decide)) (now _ v3))
  · subst z; exact now _ (v4.trans hl.symm)
  · subst z; exact now _ (v5.trans I.1.2.2.2.1.symm)
  · intro m f i
    have := h m f i
    rw [show cntS w len t = -1000001 from by unfold cntS; rw [if_neg (by omega), if_neg (by omega), if_neg (by omega), if_neg (by omega), if_neg (by omega), if_neg (by omega), if_neg (by omega)]] at this
    exact this
theorem k_fullSpots {d : Nat} {q : Int → mzM → Prop} {μ : mzM} {w : Wd} (hW : WOk w) (C : CW μ 0 w) (h : q (fsS w 10) μ) : mzCl d 100 [mzR 26] μ (mzQi q) := by
  have L : ∀ (c i : Nat), i + c = 10 → mzWp d 100 4 [mzR 26, mzI (fsS w i), mzI i] [] μ (mzQi q) := by
    intro c
    induction c with
    | zero =>
      intro i hi
      have : i = 10 := hi
      subst this
      exact g100_4 _ _ _ ⟨fun _ => h, fun z => absurd z (by decide)⟩
    | succ c ih =>
      intro i hi
      have i10 : i < 10 := by omega
      have es : μ 41 i = wS w i := C.S i10
      have fb := fsS_bd w i
      have go := ih (i + 1) (by omega)
      rw [show fsS w (i + 1) = fsS w i + (if wS w i = -1 then 0 else 1) from rfl] at go
      refine g100_4 _ _ _ ⟨fun z => by omega, fun _ => ⟨by omega, ?_⟩⟩
      rw [Int.toNat_natCast, es, w1 (by omega)]
      refine ⟨fun z => ?_, fun z => ?_⟩
      · rw [if_pos z, Int.add_zero] at go
        exact go
      · rw [if_neg z] at go
        rw [wid (by omega) (by omega)]
        exact go
  exact g100_e _ (L 10 0 (Nat.zero_add _))
theorem k_count {d : Nat} {q : Int → mzM → Prop} {len t : Int} {μ : mzM} {w : Wd} (hW : WOk w) (C : CW μ 0 w) (hl : μ 23 1 = len) (h : ∀ μ', FC μ μ' → CW μ' 0 w → q (cntS w len t) μ') : mzCl (d + 2) 171 [mzR 14, mzI t] μ (mzQi q) := by
  have hN := hW.1
  have now : ∀ v, cntS w len t = v → q v μ := fun v e => by
    have := h μ FC.rf C
    rw [e] at this
    exact this
  have v0 : cntS w len 0 = wN w := by simp [cntS]
  have v1 : cntS w len 1 = wE w := by simp [cntS]
  have v2 : cntS w len 2 = wK w := by simp [cntS]
  have v3 : cntS w len 3 = (cnt (hw w) 12 : Nat) := by simp [cntS]
  have v4 : cntS w len 4 = len := by simp [cntS]
  have v5 : cntS w len 5 = wZ w := by simp [cntS]
  have v6 : cntS w len 6 = fsS w 10 := by simp [cntS]
  refine g171_e _ _ ⟨⟨fun z => ?_, fun z => ?_, fun z => ?_, fun z => ?_, fun z => ?_, fun z => ?_, fun z => ?_, trivial⟩, fun z => k_fd (by decide) hN C ?_⟩
  · subst z; exact now _ (v0.trans C.1.symm)
  · subst z; exact now _ (v1.trans C.2.1.symm)
  · subst z; exact now _ (v2.trans C.2.2.1.symm)
  · subst z
    rw [k_held C]
    exact k_bitCount (hw_lt hW) (now _ v3)
  · subst z; exact now _ (v4.trans hl.symm)
  · subst z; exact now _ (v5.trans C.2.2.2.2.1.symm)
  · subst z; exact k_fullSpots hW C (now _ v6)
  · intro m f i
    have := h m f i
    rw [show cntS w len t = -1000001 from by unfold cntS; rw [if_neg (by omega), if_neg (by omega), if_neg (by omega), if_neg (by omega), if_neg (by omega), if_neg (by omega), if_neg (by omega)]] at this
    exact this
theorem p_count {d : Nat} {μ : mzM} {w : Wd} {q : Int → Int → mzM → Prop} {t : Int} (R : RW μ w) (h : ∀ a μ' w', RW μ' w' → q a a μ') : mzCl (d + 2) 171 [mzR 14, mzI t] μ (mzQi fun a m1 => mzCl (d + 2) 89 [mzR 0, mzI t] m1 (mzQi fun c m2 => q a c m2)) := by
  obtain ⟨len, l1, l2, l3, l4⟩ := id R.2.2.2.2.1
  exact pair (cntS w len t, w) R R.1 (fun q' z => k_count R.1 R.2.2.1 l3 z) (fun m1 q' f I z => c_count R.1 I (by rw [f 0 6 (by unfold scC isW; omega)]; exact l2) z) h
