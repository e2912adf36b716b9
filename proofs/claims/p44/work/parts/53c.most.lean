/-! PAIRS: most -/
theorem cnt_full : ∀ k, k < 13 → cnt (2 ^ k - 1) 12 = k := by decide +kernel
theorem mo_up {x : Int} {s : Nat} (h : x = -1 ∨ (0 ≤ x ∧ x < (s : Int))) : x = -1 ∨ (0 ≤ x ∧ x < ((s + 1 : Nat) : Int)) := by omega
theorem mo_me {s : Nat} : (s : Int) = -1 ∨ (0 ≤ (s : Int) ∧ (s : Int) < ((s + 1 : Nat) : Int)) := by omega
theorem mo_lt {x : Int} {s : Nat} (h : x = -1 ∨ (0 ≤ x ∧ x < (s : Int))) (h0 : 0 ≤ x) : x < (s : Int) := by omega
theorem mo_nat {x : Int} {s n : Nat} (h : x < (s : Int)) (h0 : 0 ≤ x) (hs : s ≤ n) : x.toNat < n := by omega
theorem mo_b {s n : Nat} (h : s < 2 ^ n) (hn : n ≤ 12) : s < 2147483648 ∧ s < 4096 ∧ ((0 : Int) ≤ (s : Int) ∧ (s : Int) < 4096) ∧ ¬ ((((2 ^ n - 1 : Nat) : Int)) < (s : Int)) ∧ mzW ((s : Int) + 1) = ((s + 1 : Nat) : Int) := by
  have := pow12 hn
  exact ⟨by omega, by omega, by omega, by omega, w1 (by omega)⟩
theorem mo_e {n : Nat} : ¬ (((2 ^ n : Nat) : Int) ≤ ((2 ^ n - 1 : Nat) : Int)) := by
  have : 0 < 2 ^ n := Nat.pow_pos (by decide)
  omega
theorem c_most {d : Nat} {q : Int → mzM → Prop} {n t : Int} {μ : mzM} {w : Wd} (hW : WOk w) (I : MI μ w) (h : ∀ a μ', FM μ μ' → MI μ' w → q a μ') : mzCl (d + 6) 59 [mzR 0, mzI n, mzI t] μ (mzQi q) := by
  have hN := hW.1
  have p1 := pow12 hN
  have p0 : 0 < 2 ^ wN w := Nat.pow_pos (by omega)
  refine g59_e _ _ _ (c_in (fun a1 a2 => ⟨fun z => absurd z (by decide), fun _ => c_in (fun b1 b2 => ⟨fun _ => ⟨by decide, fun nn => c_findStands hW I (fun m1 f1 I1 e8 => ?_), fun _ => c_fd (by decide) I (h _)⟩, fun z => absurd z (by decide)⟩) (fun a => ⟨fun z => absurd rfl z, fun _ => c_fd (by decide) I (h _)⟩)⟩) (fun a => ⟨fun _ => c_fd (by decide) I (h _), fun z => absurd rfl z⟩))
  obtain ⟨n, rfl⟩ : ∃ k : Nat, n = k := ⟨n.toNat, by omega⟩
  have nN : n ≤ wN w := by rw [I.1.1] at nn; exact Int.ofNat_le.mp nn
  have nf : cnt (2 ^ n - 1) 12 = n := cnt_full n (by omega)
  have np : 2 ^ n - 1 < 2 ^ wN w := Nat.lt_of_lt_of_le (Nat.sub_lt (Nat.pow_pos (by decide)) (by decide)) (Nat.pow_le_pow_right (by decide) nN)
  have L : ∀ (c s : Nat) (x3 : Int), s + c = 2 ^ wN w → (x3 = -1 ∨ (0 ≤ x3 ∧ x3 < (s : Int))) → (x3 = -1 → ∀ j, j < s → cnt j 12 ≠ n) → mzWp (d + 6) 59 55 [mzR 0, mzI n, mzI t, mzI x3, mzI s] [] m1 (mzQi q) := by
    intro c
    induction c with
    | zero =>
      intro s x3 hs hx hn
      have : s = 2 ^ wN w := hs
      subst this
      have x0 : 0 ≤ x3 ∧ x3 < ((2 ^ wN w : Nat) : Int) := by
        rcases hx with hx | hx
        · exact absurd nf (hn hx _ np)
        · exact hx
      have xl : x3.toNat < 2 ^ wN w := mo_nat x0.2 x0.1 (Nat.le_refl _)
      have xb : 0 ≤ x3 ∧ x3 < 4096 := ⟨x0.1, Int.lt_of_lt_of_le x0.2 (Int.ofNat_le.mpr p1)⟩
      refine g59_55 _ _ _ _ _ (c_every I1.1.1 hN ⟨fun _ => ⟨fun _ => ⟨xb, ?_⟩, fun _ => h _ m1 f1 I1⟩, fun z => absurd z mo_e⟩)
      rw [e8 _ xl]
      exact c_many (Nat.lt_trans (saS_lt hW _) (by decide)) (h _ m1 f1 I1)
    | succ c ih =>
      intro s x3 hs hx hn
      have s2n : s < 2 ^ wN w := by omega
      have hsc : s + 1 + c = 2 ^ wN w := by omega
      obtain ⟨s31, s12, sb, eN, ew⟩ := mo_b s2n hN
      have keep : (x3 = -1 → cnt s 12 ≠ n) → mzWp (d + 6) 59 55 [mzR 0, mzI n, mzI t, mzI x3, mzI ((s + 1 : Nat) : Int)] [] m1 (mzQi q) := fun hk => ih (s + 1) x3 hsc (mo_up hx) (fun a j hj => by
        by_cases cj : j = s
        · rw [cj]; exact hk a
        · exact hn a j (Nat.lt_of_le_of_ne (Nat.le_of_lt_succ hj) cj))
      have take : mzWp (d + 6) 59 55 [mzR 0, mzI n, mzI t, mzI s, mzI ((s + 1 : Nat) : Int)] [] m1 (mzQi q) := ih (s + 1) s hsc mo_me (fun a => absurd a (fun b => by have := sb.1; rw [b] at this; exact absurd this (by decide)))
      refine g59_55 _ _ _ _ _ (c_every I1.1.1 hN ⟨fun z => absurd z eN, fun _ => c_many s31 ?_⟩)
      rw [ew]
      refine ⟨fun z => keep (fun _ c => z (congrArg (fun a : Nat => (a : Int)) c)), fun z => ⟨fun _ => take, fun x0 => ⟨sb, ?_⟩⟩⟩
      have x1 := mo_lt hx x0
      rw [Int.toNat_natCast, e8 s s2n]
      refine c_many (Nat.lt_trans (saS_lt hW _) (by decide)) ⟨⟨x0, Int.lt_trans x1 sb.2⟩, ?_⟩
      rw [e8 x3.toNat (mo_nat x1 x0 (Nat.le_of_lt s2n))]
      exact c_many (Nat.lt_trans (saS_lt hW _) (by decide)) ⟨fun _ => keep (fun a => by rw [a] at x0; exact absurd x0 (by decide)), fun _ => take⟩
  exact L (2 ^ wN w) 0 (-1) (Nat.zero_add _) (Or.inl rfl) (fun _ j hj => absurd hj (Nat.not_lt_zero _))
theorem k_most {d : Nat} {q : Int → mzM → Prop} {n t : Int} {μ : mzM} {w : Wd} (hW : WOk w) (C : CW μ 0 w) (h : ∀ a μ', FC μ μ' → CW μ' 0 w → q a μ') : mzCl (d + 6) 150 [mzR 14, mzI n, mzI t] μ (mzQi q) := by
  have hN := hW.1
  have p1 := pow12 hN
  have p0 : 0 < 2 ^ wN w := Nat.pow_pos (by omega)
  have fd := fun f (hf : -1000007 ≤ f ∧ f ≤ -1000001) => k_fd (d := d + 5) (q := q) (f := f) hf hN C (h _)
  refine g150_e _ _ _ ⟨fun _ => fd _ (by decide), fun _ => ⟨fun _ => fd _ (by decide), fun _ => ⟨fun _ => ⟨fun _ => k_survey hW C (fun m1 f1 G1 H1 => ?_), fun _ => fd _ (by decide)⟩, fun _ => fd _ (by decide)⟩⟩⟩
  have L : ∀ (c s : Nat) (x3 x4 : Int) (m : mzM), s + c = 2 ^ wN w → NF m1 m → mzWp (d + 6) 150 53 [mzR 14, mzI n, mzI t, mzI x3, mzI x4, mzI s, none] [] m (mzQi q) := by
    intro c
    induction c with
    | zero =>
      intro s x3 x4 m hs f
      have : s = 2 ^ wN w := hs
      subst this
      have Cm := f.ef.cw hN (f1.cw hN C)
      exact g150_53 _ _ _ _ _ _ (k_all Cm.1 hN ⟨fun _ => ⟨fun _ => h _ m (f1.tr f.ef).fc Cm, fun _ => h _ m (f1.tr f.ef).fc Cm⟩, fun z => absurd z mo_e⟩)
    | succ c ih =>
      intro s x3 x4 m hs f
      have Cm := f.ef.cw hN (f1.cw hN C)
      have s2n : s < 2 ^ wN w := by omega
      have hsc : s + 1 + c = 2 ^ wN w := by omega
      obtain ⟨s31, s12, sb, eN, ew⟩ := mo_b s2n hN
      refine g150_53 _ _ _ _ _ _ (k_all Cm.1 hN ⟨fun z => absurd z eN, fun _ => k_bitCount s12 ?_⟩)
      rw [ew, k_held Cm]
      exact ⟨fun _ => ih (s + 1) _ _ m hsc f, fun _ => k_standOf hW Cm (f.gm hN G1) (f.hc H1) (hw_lt hW) s2n (fun m2 f2 => k_bitCount (saS_lt hW s) ⟨fun _ => ih (s + 1) _ _ m2 hsc (f.tr f2), fun _ => ih (s + 1) _ _ m2 hsc (f.tr f2)⟩)⟩
  exact L (2 ^ wN w) 0 0 (-1) m1 (Nat.zero_add _) NF.rf
theorem p_most {d : Nat} {μ : mzM} {w : Wd} {q : Int → Int → mzM → Prop} {n t : Int} (R : RW μ w) (h : ∀ a c μ' w', RW μ' w' → q a c μ') : mzCl (d + 6) 150 [mzR 14, mzI n, mzI t] μ (mzQi fun a m1 => mzCl (d + 6) 59 [mzR 0, mzI n, mzI t] m1 (mzQi fun c m2 => q a c m2)) :=
  pair' w R R.1 (fun q' z => k_most R.1 R.2.2.1 z) (fun m1 q' _ I z => c_most R.1 I z) h
