/-! PAIRS: count, status, most (answers of the last two not alike) -/
def fsS (w : Wd) : Nat → Int
  | 0 => 0
  | k + 1 => fsS w k + if wS w k = -1 then 0 else 1
theorem fsS_bd (w : Wd) : ∀ k, 0 ≤ fsS w k ∧ fsS w k ≤ k := by
  intro k
  induction k with
  | zero => exact ⟨Int.le_refl _, Int.le_refl _⟩
  | succ k ih => unfold fsS; split <;> omega
def cntS (w : Wd) (len t : Int) : Int := if t = 0 then wN w else if t = 1 then wE w else if t = 2 then wK w else if t = 3 then (cnt (hw w) 12 : Nat) else if t = 4 then len else if t = 5 then wZ w else if t = 6 then fsS w 10 else -1000001
theorem c_count {d : Nat} {q : Int → mzM → Prop} {len t : Int} {μ : mzM} {w : Wd} (hW : WOk w) (I : MI μ w) (hl : μ 0 6 = len) (h : ∀ μ', FM μ μ' → MI μ' w → q (cntS w len t) μ') : mzCl (d + 2) 89 [mzR 0, mzI t] μ (mzQi q) := by
  have hN := hW.1
  have now : ∀ v, cntS w len t = v → q v μ := fun v e => by
    have := h μ FM.rf I
    rw [e] at this
    exact this
  have L : t = 6 → ∀ (c i : Nat), i + c = 10 → mzWp (d + 2) 89 73 [mzR 0, none, mzI (fsS w i), mzI i] [] μ (mzQi q) := by
    intro t6 c
    induction c with
    | zero =>
      intro i hi
      have : i = 10 := hi
      subst this
      exact g89_73 _ _ _ ⟨fun _ => now _ (by unfold cntS; rw [t6]; rfl), fun z => absurd z (by decide)⟩
    | succ c ih =>
      intro i hi
      have i10 : i < 10 := by omega
      have e : mzW (308 + (i : Int)) = ((308 + i : Nat) : Int) := by rw [wid (by omega) (by omega)]; omega
      have es : μ 1 (308 + i) = wS w i := I.1.S i10
      have sb := hW.S i10
      have fb := fsS_bd w i
      have go := ih (i + 1) (by omega)
      rw [show fsS w (i + 1) = fsS w i + (if wS w i = -1 then 0 else 1) from rfl] at go
      refine g89_73 _ _ _ ⟨fun z => by omega, fun _ => ?_⟩
      rw [e, Int.toNat_natCast, es, w1 (by omega)]
      refine ⟨by omega, fun z => ?_, fun z => ?_⟩
      · rw [if_pos (by omega)] at go
        rw [wid (by omega) (by omega)]
        exact go
      · rw [if_neg (by omega)] at go
        rw [wid (by omega) (by omega)]
        exact go
  refine g89_e _ _ ⟨⟨fun z => ⟨by omega, ?_⟩, fun z => ⟨by omega, ?_⟩, fun z => ⟨by omega, ?_⟩, fun z => ?_, fun z => ?_, fun z => ⟨by decide, ?_⟩, fun z => g89_e_6 z L, trivial⟩, fun z => c_fd (by decide) I ?_⟩
  all_goals sorry
