/-! THE CLASS'S world -/
def XwC (μ μ' : mzM) : Prop := ∀ k j, (k ≠ 23 ∨ j = 0 ∨ 5 < j) → ¬ isW 0 k → ¬ isW 2 k → μ' k j = μ k j
theorem XwC.tr {μ μ' μ'' : mzM} (h : XwC μ μ') (h2 : XwC μ' μ'') : XwC μ μ'' := fun a b h1 a2 a3 => (h2 a b h1 a2 a3).trans (h a b h1 a2 a3)
theorem XdC.w {μ μ' : mzM} (h : XdC μ μ') : XwC μ μ' := fun k j h1 h2 h3 => by unfold isW at h3; exact h k j (by omega) (by omega) (by omega) (by omega)
theorem k_world {d : Nat} {q : Int → mzM → Prop} {b : Nat → Int} {len : Nat} {w : Wd} {μ : mzM} (hl : len ≤ 120) (hW : WOk w) (ht : TpC μ b len) (hw : CW μ 0 w)
    (hyes : (itsS b len 121 0 w).1 = none → ∀ μ', XwC μ μ' → μ' 23 1 = 0 → CW μ' 0 (itsS b len 121 0 w).2 → q (wN (itsS b len 121 0 w).2) μ')
    (hno : ∀ s, (itsS b len 121 0 w).1 = some s → ∀ μ', XwC μ μ' → μ' 23 1 = 0 → CW μ' 0 w → q (-1 - (s : Int)) μ') : mzCl (d + 5) 131 [mzR 14] μ (mzQi q) := by
  refine g131_e _ (k_become_a (fun m1 h1 h2 => ?_))
  have x1 : XwC μ m1 := fun k j a1 a2 a3 => h1 k j a3
  have t1 : TpC m1 b len := ⟨by rw [h1 23 1 (by unfold isW; omega)]; exact ht.1, fun i hi => by rw [h1 24 i (by unfold isW; omega)]; exact ht.2 i hi⟩
  have w1 : CW m1 0 w := hw.cg hW.1 (fun k i hk => h1 k i (by unfold isW at hk ⊢; omega))
  refine k_readText hl hW t1 (h2 w hW.1 hW.2.2.2.1 hw) (fun g m2 y1 y2 => ⟨fun _ => ?_, fun z => absurd z (by decide)⟩) (fun s g m2 y1 => ⟨fun z => by omega, fun _ => ?_⟩)
  · have hW2 := (itsS_ok (b := b) (len := len) 121 0 w (Nat.zero_le _) hW).1 g
    have w2 : CW (mzS m2 23 1 0) 2 (itsS b len 121 0 w).2 := y2.cg hW2.1 (fun k i hk => S_ne (by unfold isW at hk; omega))
    refine k_become_b (fun m3 a1 a2 => ?_)
    have w3 := a2 _ hW2.1 hW2.2.2.2.1 w2
    have e : m3 26 0 = wN (itsS b len 121 0 w).2 := w3.1
    rw [e]
    refine hyes g m3 (fun k j b1 b2 b3 => ?_) ?_ w3
    · rw [a1 k j b2, S_ne (by omega)]; exact (x1.tr y1.w) k j b1 b2 b3
    · rw [a1 23 1 (by unfold isW; omega), S_eq]
  · have hs := (itsS_ok (b := b) (len := len) 121 0 w (Nat.zero_le _) hW).2 s g
    rw [wid (by omega) (by omega)]
    refine hno s g _ (fun k j b1 b2 b3 => ?_) S_eq (w1.cg hW.1 (fun k i hk => ?_))
    · rw [S_ne (by omega)]; exact (x1.tr y1.w) k j b1 b2 b3
    · unfold isW at hk
      rw [S_ne (by omega)]
      exact y1 k i (by omega) (by omega) (by omega) (by omega)
