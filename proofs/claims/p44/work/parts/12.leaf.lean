/-! CONTRACTS: leaves. q is what is to hold of the answer and the memory -/
theorem or10 : ((1 : Int) = 0 ∨ (1 : Int) = 1) := Or.inr rfl
theorem or00 : ((0 : Int) = 0 ∨ (0 : Int) = 1) := Or.inl rfl
theorem cmp_lt {a b : Int} : mzCmp a b < 0 ↔ a < b := by
  unfold mzCmp
  split
  · constructor
    · intro h; omega
    · intro h; omega
  · split
    · constructor
      · intro h; omega
      · intro h; omega
    · constructor
      · intro h; omega
      · intro h; omega
theorem cmp_gt {a b : Int} : 0 < mzCmp a b ↔ b < a := by
  unfold mzCmp
  split
  · constructor
    · intro h; omega
    · intro h; omega
  · split
    · constructor
      · intro h; omega
      · intro h; omega
    · constructor
      · intro h; omega
      · intro h; omega
theorem c_in {d : Nat} {q : Int → mzM → Prop} {a b c : Int} {μ : mzM} (h1 : b ≤ a → a ≤ c → q 1 μ) (h0 : a < b ∨ c < a → q 0 μ) : mzCl d 2 [mzL a, mzL b, mzL c] μ (mzQi q) := by
  refine g2_e _ _ _ _ ⟨fun h => ⟨or00, h0 (Or.inl (cmp_lt.mp h))⟩, fun h => ⟨fun h2 => ⟨or00, h0 (Or.inr (cmp_gt.mp h2))⟩, fun h2 => ⟨or10, h1 ?_ ?_⟩⟩⟩
  · have := mt cmp_lt.mpr (Int.not_lt.mpr h)
    omega
  · have := mt cmp_gt.mpr (Int.not_lt.mpr h2)
    omega
theorem c_has {d : Nat} {q : Int → mzM → Prop} {a p : Nat} {μ : mzM} (ha : a < 2147483648) (hp : p < 32) (h1 : a.testBit p = true → q 1 μ) (h0 : a.testBit p = false → q 0 μ) : mzCl d 3 [mzI a, mzI p] μ (mzQi q) := by
  refine g3_e _ _ _ ?_
  rw [nBit ha hp]
  cases h : a.testBit p with
  | true => exact ⟨fun z => absurd rfl z, fun _ => ⟨or10, h1 h⟩⟩
  | false => exact ⟨fun _ => ⟨or00, h0 h⟩, fun z => by simp at z⟩
theorem c_finds {d : Nat} {q : Int → mzM → Prop} {f : Int} {μ : mzM} (hf : -1000007 ≤ f ∧ f ≤ -1000001) (h : ∀ v j, q f (mzS μ 3 j v)) : mzCl d 1 [mzR 0, mzI f] μ (mzQi q) := by
  have e : mzW (-1000001 - f) = -1000001 - f := wid (by omega) (by omega)
  refine g1_e _ _ ⟨?_, ?_, h _ _⟩
  · rw [e]; omega
  · rw [e]; omega
theorem c_of {d : Nat} {q : Int → mzM → Prop} {p t : Nat} {μ : mzM} (hp : p < 12) (ht : t < 10) (h : q (μ 1 (4 + 10 * p + t)) μ) : mzCl d 5 [mzR 0, mzI p, mzI t] μ (mzQi q) := by
  have e : mzW ((mzW (4 + (mzW (10 * (p : Int))))) + (t : Int)) = ((4 + 10 * p + t : Nat) : Int) := by unfold mzW; omega
  refine g5_e _ _ _ ?_
  rw [e]
  exact ⟨⟨by omega, by omega⟩, h⟩
theorem c_isPlace {d : Nat} {q : Int → mzM → Prop} {a : Int} {n : Nat} {μ : mzM} (hn : μ 1 0 = n) (hn2 : n ≤ 12) (h1 : 0 ≤ a → a < n → q 1 μ) (h0 : a < 0 ∨ (n : Int) ≤ a → q 0 μ) : mzCl (d + 1) 6 [mzR 0, mzI a] μ (mzQi q) := by
  have e : mzW (μ 1 0 - 1) = (n : Int) - 1 := by rw [hn]; exact wid (by omega) (by omega)
  refine g6_e _ _ ⟨⟨by omega, by omega⟩, ?_⟩
  rw [e]
  exact c_in (fun z1 z2 => ⟨or10, h1 z1 (by omega)⟩) (fun z => ⟨or00, h0 (by omega)⟩)
theorem pow12 {n : Nat} (h : n ≤ 12) : 2 ^ n ≤ 4096 := Nat.pow_le_pow_right (n := 2) (by omega) h
theorem c_every {d : Nat} {q : Int → mzM → Prop} {n : Nat} {μ : mzM} (hn : μ 1 0 = n) (hn2 : n ≤ 12) (h : q ((2 ^ n - 1 : Nat) : Int) μ) : mzCl d 7 [mzR 0] μ (mzQi q) := by
  refine g7_e _ ⟨⟨by omega, by omega⟩, ?_⟩
  have h1 := pow12 hn2
  have h2 : 0 < 2 ^ n := Nat.pow_pos (by omega)
  have e : mzW (mzShl 1 (μ 1 0) - 1) = ((2 ^ n - 1 : Nat) : Int) := by
    rw [hn, nPow (by omega)]
    rw [wid (by omega) (by omega)]
    omega
  rw [e]
  exact h
theorem c_isSet {d : Nat} {q : Int → mzM → Prop} {a : Int} {n : Nat} {μ : mzM} (hn : μ 1 0 = n) (hn2 : n ≤ 12) (h1 : ∀ s : Nat, a = s → s < 2 ^ n → q 1 μ) (h0 : a < 0 ∨ ((2 ^ n : Nat) : Int) ≤ a → q 0 μ) : mzCl (d + 1) 8 [mzR 0, mzI a] μ (mzQi q) := by
  refine g8_e _ _ (c_every hn hn2 ?_)
  have h2 : 0 < 2 ^ n := Nat.pow_pos (by omega)
  exact c_in (fun z1 z2 => ⟨or10, h1 a.toNat (by omega) (by omega)⟩) (fun z => ⟨or00, h0 (by omega)⟩)
/-- how many of the first k are in a set -/
def cnt (a : Nat) : Nat → Nat
  | 0 => 0
  | k + 1 => cnt a k + if a.testBit k then 1 else 0
theorem cnt_le (a k : Nat) : cnt a k ≤ k := by
  induction k with
  | zero => exact Nat.le_refl _
  | succ k ih => unfold cnt; split <;> omega
theorem many_l {d : Nat} {q : Int → mzM → Prop} {a : Nat} {μ : mzM} (ha : a < 2147483648) (h : q (cnt a 12) μ) : ∀ (n i : Nat) (x1 x2 : Int), i + n = 12 → x2 = i → x1 = cnt a i → mzWp d 4 4 [mzI a, mzI x1, mzI x2] [] μ (mzQi q) := by
  intro n
  induction n with
  | zero =>
    intro i x1 x2 hi h2 h1
    have : i = 12 := by omega
    subst this
    subst h1
    exact g4_4 _ _ _ _ ⟨fun _ => h, fun z => by omega⟩
  | succ n ih =>
    intro i x1 x2 hi h2 h1
    subst h2
    have hc := cnt_le a i
    refine g4_4 _ _ _ _ ⟨fun z => by omega, fun _ => ih (i + 1) _ _ (by omega) ?_ ?_⟩
    · rw [wid (by omega) (by omega)]; omega
    · rw [nBit ha (by omega), h1]
      show _ = ((cnt a i + (if a.testBit i then 1 else 0) : Nat) : Int)
      cases a.testBit i
      · simp; rw [wid (by omega) (by omega)]
      · simp; rw [wid (by omega) (by omega)]
theorem c_many {d : Nat} {q : Int → mzM → Prop} {a : Nat} {μ : mzM} (ha : a < 2147483648) (h : q (cnt a 12) μ) : mzCl d 4 [mzI a] μ (mzQi q) := g4_e _ _ (many_l ha h 12 0 _ _ rfl rfl rfl)
theorem c_isDigit {d : Nat} {q : Int → mzM → Prop} {a : Int} {μ : mzM} (h1 : 48 ≤ a → a ≤ 57 → q 1 μ) (h0 : a < 48 ∨ 57 < a → q 0 μ) : mzCl (d + 1) 11 [mzI a] μ (mzQi q) := g11_e _ _ (c_in (fun z1 z2 => ⟨or10, h1 z1 z2⟩) (fun z => ⟨or00, h0 z⟩))
theorem c_isLetter {d : Nat} {q : Int → mzM → Prop} {a : Int} {μ : mzM} (h1 : 97 ≤ a → a ≤ 122 → q 1 μ) (h0 : a < 97 ∨ 122 < a → q 0 μ) : mzCl (d + 1) 12 [mzI a] μ (mzQi q) := g12_e _ _ (c_in (fun z1 z2 => ⟨or10, h1 z1 z2⟩) (fun z => ⟨or00, h0 z⟩))
