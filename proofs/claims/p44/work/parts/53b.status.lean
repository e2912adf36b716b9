/-! PAIRS: status -/
theorem c_status {d : Nat} {q : Int → mzM → Prop} {t : Int} {μ : mzM} {w : Wd} (I : MI μ w) (h : ∀ a μ', FM μ μ' → MI μ' w → q a μ') : mzCl (d + 2) 90 [mzR 0, mzI t] μ (mzQi q) := by
  have L : ∀ (c i : Nat) (x2 : Int), i + c = 7 → mzWp (d + 2) 90 25 [mzR 0, mzI t, mzI x2, mzI i] [] μ (mzQi q) := by
    intro c
    induction c with
    | zero =>
      intro i x2 hi
      have : i = 7 := hi
      subst this
      exact g90_25 _ _ _ _ ⟨fun _ => h _ μ FM.rf I, fun z => absurd z (by decide)⟩
    | succ c ih =>
      intro i x2 hi
      have i7 : (0 : Int) ≤ (i : Int) ∧ (i : Int) < 7 := by omega
      have ew : mzW ((i : Int) + 1) = ((i + 1 : Nat) : Int) := w1 (by omega)
      have go := fun x => ih (i + 1) x (by omega)
      refine g90_25 _ _ _ _ ⟨fun z => absurd z (Int.not_le.mpr i7.2), fun _ => ?_⟩
      rw [ew]
      exact ⟨fun _ => ⟨i7, go _⟩, fun _ => ⟨fun _ => go _, fun _ => ⟨i7, go _⟩⟩⟩
  exact g90_e _ _ (c_in (fun a1 a2 => ⟨fun _ => L 7 0 0 (Nat.zero_add _), fun z => absurd z (by decide)⟩) (fun a => ⟨fun z => absurd rfl z, fun _ => c_fd (by decide) I (h _)⟩))
theorem k_status {d : Nat} {q : Int → mzM → Prop} {t : Int} {μ : mzM} {w : Wd} (hW : WOk w) (C : CW μ 0 w) (h : ∀ a μ', FC μ μ' → CW μ' 0 w → q a μ') : mzCl (d + 2) 172 [mzR 14, mzI t] μ (mzQi q) := by
  have L : ∀ (c i : Nat) (x2 : Int), i + c = 7 → mzWp (d + 2) 172 33 [mzR 14, none, mzI x2, mzI i] [] μ (mzQi q) := by
    intro c
    induction c with
    | zero =>
      intro i x2 hi
      have : i = 7 := hi
      subst this
      exact g172_33 _ _ _ ⟨fun _ => h _ μ FC.rf C, fun z => absurd z (by decide)⟩
    | succ c ih =>
      intro i x2 hi
      have i7 : (0 : Int) ≤ (i : Int) ∧ (i : Int) < 7 := by omega
      have ew : mzW ((i : Int) + 1) = ((i + 1 : Nat) : Int) := w1 (by omega)
      have go := fun x => ih (i + 1) x (by omega)
      refine g172_33 _ _ _ ⟨fun z => absurd z (Int.not_le.mpr i7.2), fun _ => ⟨i7, ?_⟩⟩
      rw [ew]
      exact go _
  have fd := k_fd (d := d + 1) (q := q) (f := -1000001) (by decide) hW.1 C (h _)
  exact g172_e _ _ ⟨fun _ => fd, fun a1 => ⟨fun a2 => ⟨fun _ => L 7 0 0 (Nat.zero_add _), fun a3 => ⟨⟨a3, a2⟩, h _ μ FC.rf C⟩⟩, fun _ => fd⟩⟩
theorem p_status {d : Nat} {μ : mzM} {w : Wd} {q : Int → Int → mzM → Prop} {t : Int} (R : RW μ w) (h : ∀ a c μ' w', RW μ' w' → q a c μ') : mzCl (d + 2) 172 [mzR 14, mzI t] μ (mzQi fun a m1 => mzCl (d + 2) 90 [mzR 0, mzI t] m1 (mzQi fun c m2 => q a c m2)) :=
  pair' w R R.1 (fun q' z => k_status R.1 R.2.2.1 z) (fun m1 q' _ I z => c_status I z) h
