/-! PAIRS: copy, count, status -/
def cpF (μ : mzM) (s f t o n : Int) : Int := if (0 ≤ s ∧ s < 4) ∧ 0 ≤ t ∧ t < 4 then (if μ 11 s.toNat = 0 ∨ μ 11 t.toNat = 0 then -1000006 else if μ 11 s.toNat ≠ μ 11 t.toNat then -1000003 else if 0 ≤ n ∧ 0 ≤ f ∧ 0 ≤ o ∧ n ≤ μ 12 s.toNat - f ∧ n ≤ μ 12 t.toNat - o then 0 else -1000001) else -1000001
theorem cpF_r (μ : mzM) (s f t o n : Int) (h : cpF μ s f t o n ≠ 0) : -1000007 ≤ cpF μ s f t o n ∧ cpF μ s f t o n ≤ -1000001 := by
  unfold cpF at h ⊢
  split
  · rename_i c
    rw [if_pos c] at h
    split
    · omega
    · rename_i c2
      rw [if_neg c2] at h
      split
      · omega
      · rename_i c3
        rw [if_neg c3] at h
        split
        · rename_i c4
          rw [if_pos c4] at h
          exact absurd rfl h
        · omega
  · omega
theorem cpF_1 {μ : mzM} {s f t o n : Int} (h : ¬ ((0 ≤ s ∧ s < 4) ∧ 0 ≤ t ∧ t < 4)) : cpF μ s f t o n = -1000001 := if_neg h
theorem cpF_2 {μ : mzM} {s f t o n : Int} (h : (0 ≤ s ∧ s < 4) ∧ 0 ≤ t ∧ t < 4) (h2 : μ 11 s.toNat = 0 ∨ μ 11 t.toNat = 0) : cpF μ s f t o n = -1000006 := (if_pos h).trans (if_pos h2)
theorem cpF_3 {μ : mzM} {s f t o n : Int} (h : (0 ≤ s ∧ s < 4) ∧ 0 ≤ t ∧ t < 4) (h2 : ¬ (μ 11 s.toNat = 0 ∨ μ 11 t.toNat = 0)) (h3 : μ 11 s.toNat ≠ μ 11 t.toNat) : cpF μ s f t o n = -1000003 := (if_pos h).trans ((if_neg h2).trans (if_pos h3))
theorem cpF_4 {μ : mzM} {s f t o n : Int} (h : (0 ≤ s ∧ s < 4) ∧ 0 ≤ t ∧ t < 4) (h2 : ¬ (μ 11 s.toNat = 0 ∨ μ 11 t.toNat = 0)) (h3 : μ 11 s.toNat = μ 11 t.toNat) (h4 : ¬ (0 ≤ n ∧ 0 ≤ f ∧ 0 ≤ o ∧ n ≤ μ 12 s.toNat - f ∧ n ≤ μ 12 t.toNat - o)) : cpF μ s f t o n = -1000001 := (if_pos h).trans ((if_neg h2).trans ((if_neg (fun c => c h3)).trans (if_neg h4)))
theorem cpF_5 {μ : mzM} {s f t o n : Int} (h : (0 ≤ s ∧ s < 4) ∧ 0 ≤ t ∧ t < 4) (h2 : ¬ (μ 11 s.toNat = 0 ∨ μ 11 t.toNat = 0)) (h3 : μ 11 s.toNat = μ 11 t.toNat) (h4 : 0 ≤ n ∧ 0 ≤ f ∧ 0 ≤ o ∧ n ≤ μ 12 s.toNat - f ∧ n ≤ μ 12 t.toNat - o) : cpF μ s f t o n = 0 := (if_pos h).trans ((if_neg h2).trans ((if_neg (fun c => c h3)).trans (if_pos h4)))
theorem k_hasRow {d : Nat} {q : Int → mzM → Prop} {s : Nat} {f n len : Int} {μ : mzM} (hs : s < 4) (hl : μ (44 + s) 1 = len) (hl2 : 0 ≤ len ∧ len ≤ 40) (h1 : 0 ≤ f → 0 ≤ n → n ≤ len - f → q 1 μ) (h0 : ¬ (0 ≤ f ∧ 0 ≤ n ∧ n ≤ len - f) → q 0 μ) : mzCl d 92 [mzP 44 s, mzI f, mzI n] μ (mzQi q) := by
  refine g92_e _ _ _ _ ⟨fun z => ⟨or00, h0 (by omega)⟩, fun z => ⟨fun z2 => ⟨or00, h0 (by omega)⟩, fun z2 => ⟨hs, ?_⟩⟩⟩
  rw [hl]
  refine ⟨fun z3 => ⟨or00, h0 (by omega)⟩, fun z3 => ⟨hs, ?_⟩⟩
  rw [wid (by omega) (by omega)]
  exact ⟨fun z4 => ⟨or00, h0 (by omega)⟩, fun z4 => ⟨or10, h1 z z2 z4⟩⟩
theorem k_copy {d : Nat} {q : Int → mzM → Prop} {s f t o n : Int} {μ : mzM} (SH : ShOk μ) (hf : cpF μ s f t o n ≠ 0 → mzCl d 173 [mzR 14, mzI (cpF μ s f t o n)] μ (mzQi q))
    (hok : cpF μ s f t o n = 0 → q n (mzCp μ (48 + s.toNat) f.toNat (48 + t.toNat) o.toNat n.toNat)) : mzCl (d + 1) 167 [mzR 14, mzI s, mzI f, mzI t, mzI o, mzI n] μ (mzQi q) := by
  have fd : ∀ g : Int, cpF μ s f t o n = g → g ≠ 0 → mzCl d 173 [mzR 14, mzI g] μ (mzQi fun r m => q r m) := fun g e z => by rw [← e]; exact hf (by rw [e]; exact z)
  refine g167_e _ _ _ _ _ _ (k_isSheet (fun a1 a2 => ⟨fun z => absurd z (by decide), fun _ => k_isSheet (fun b1 b2 => ⟨fun _ => ⟨⟨a1, a2⟩, ⟨b1, b2⟩, by omega, ?_⟩, fun z => absurd z (by decide)⟩) (fun b => ⟨fun z => absurd rfl z, fun _ => fd _ (cpF_1 (fun c => b c.2)) (by decide)⟩)⟩) (fun a => ⟨fun _ => fd _ (cpF_1 (fun c => a c.1)) (by decide), fun z => absurd rfl z⟩))
  have c1 : (0 ≤ s ∧ s < 4) ∧ 0 ≤ t ∧ t < 4 := ⟨⟨a1, a2⟩, b1, b2⟩
  have ls : s.toNat < 4 := by omega
  have lt : t.toNat < 4 := by omega
  obtain ⟨s1, s2, s3, -, -⟩ := SH _ ls
  obtain ⟨t1, t2, t3, -, -⟩ := SH _ lt
  rw [← s1, ← t1]
  refine ⟨fun z => fd _ (cpF_2 c1 (Or.inl z)) (by decide), fun n1 => ⟨lt, fun n2 => ⟨ls, lt, fun e => ⟨ls, ?_⟩, fun ne => fd _ (cpF_3 c1 (by omega) ne) (by decide)⟩, fun z => fd _ (cpF_2 c1 (Or.inr z)) (by decide)⟩⟩
  have c2 : ¬ (μ 11 s.toNat = 0 ∨ μ 11 t.toNat = 0) := by omega
  refine k_hasRow ls s2.symm s3 (fun x1 x2 x3 => ⟨fun z => absurd z (by decide), fun _ => ⟨lt, k_hasRow lt t2.symm t3 (fun y1 y2 y3 => ⟨fun _ => ⟨ls, lt, ls, lt, by omega, hok (cpF_5 c1 c2 e ⟨x2, x1, y1, x3, y3⟩)⟩, fun z => absurd z (by decide)⟩) (fun y => ⟨fun z => absurd rfl z, fun _ => fd _ (cpF_4 c1 c2 e (fun c => y ⟨c.2.2.1, c.1, c.2.2.2.2⟩)) (by decide)⟩)⟩⟩) (fun x => ⟨fun _ => fd _ (cpF_4 c1 c2 e (fun c => x ⟨c.2.1, c.1, c.2.2.2.1⟩)) (by decide), fun z => absurd rfl z⟩)
theorem wcp {a b c : Nat} (ha : a < 4) (hb : b ≤ 40) (hc : c ≤ 40) : mzW (mzW (mzW (40 * (a : Int)) + (b : Int)) + (c : Int)) = ((40 * a + b + c : Nat) : Int) := by
  rw [wid (z := 40 * (a : Int)) (by omega) (by omega), wid (z := 40 * (a : Int) + b) (by omega) (by omega), wid (by omega) (by omega)]
  omega
theorem wla {n i : Nat} (h : i < n) (hn : n ≤ 40) : mzW (mzW ((n : Int) - 1) - (i : Int)) = ((n - 1 - i : Nat) : Int) := by
  rw [wid (z := (n : Int) - 1) (by omega) (by omega), wid (by omega) (by omega)]
  omega
theorem w1 {i : Nat} (h : i < 5000) : mzW ((i : Int) + 1) = ((i + 1 : Nat) : Int) := by
  rw [wid (by omega) (by omega)]
  omega
