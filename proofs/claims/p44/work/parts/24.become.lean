/-! THE CLASS: one world becomes another -/
theorem C_in {μ : mzM} {a b n j : Nat} (h : j < n) : mzCp μ a 0 b 0 n b j = μ a j := by
  unfold mzCp
  rw [if_pos ⟨rfl, Nat.zero_le _, by omega⟩]
  simp
theorem C_ne {μ : mzM} {a b n k j : Nat} (h : k ≠ b) : mzCp μ a 0 b 0 n k j = μ k j := by
  unfold mzCp
  rw [if_neg (fun c => h c.1)]
/-- the first i rows are there -/
def BeI (a b i : Nat) (μ m : mzM) : Prop := (∀ k j, ¬ isW a k → m k j = μ k j) ∧ (∀ j, j < 5 → m (26 + a) j = μ (26 + b) j) ∧ (∀ p t, p < i → t < 9 → m (52 + 12 * a + p) t = μ (52 + 12 * b + p) t) ∧ (∀ p t, p < i → t < 12 → m (88 + 12 * a + p) t = μ (88 + 12 * b + p) t)
theorem be_0 {a b : Nat} {μ : mzM} : BeI a b 0 μ (mzS (mzS (mzS (mzS (mzS μ (26 + a) 0 (μ (26 + b) 0)) (26 + a) 1 (μ (26 + b) 1)) (26 + a) 2 (μ (26 + b) 2)) (26 + a) 3 (μ (26 + b) 3)) (26 + a) 4 (μ (26 + b) 4)) := by
  refine ⟨fun k j hk => ?_, fun j hj => ?_, fun p t hp => absurd hp (Nat.not_lt_zero _), fun p t hp => absurd hp (Nat.not_lt_zero _)⟩
  · unfold isW at hk
    rw [S_ne (by omega), S_ne (by omega), S_ne (by omega), S_ne (by omega), S_ne (by omega)]
  · have c : j = 0 ∨ j = 1 ∨ j = 2 ∨ j = 3 ∨ j = 4 := by omega
    rcases c with rfl | rfl | rfl | rfl | rfl <;> simp [mzS]
theorem be_s {a b i : Nat} {μ m : mzM} (ha : a < 3) (hb : b < 3) (hab : a ≠ b) (hi : i < 12) (h : BeI a b i μ m) : BeI a b (i + 1) μ (mzCp (mzCp m (52 + 12 * b + i) 0 (52 + 12 * a + i) 0 9) (88 + 12 * b + i) 0 (88 + 12 * a + i) 0 12) := by
  obtain ⟨h1, h2, h3, h4⟩ := h
  refine ⟨fun k j hk => ?_, fun j hj => ?_, fun p t hp ht => ?_, fun p t hp ht => ?_⟩
  · have hk' := hk
    unfold isW at hk'
    rw [C_ne (by omega), C_ne (by omega)]
    exact h1 k j hk
  · rw [C_ne (by omega), C_ne (by omega)]; exact h2 j hj
  · rw [C_ne (by omega)]
    by_cases e : p = i
    · rw [e, C_in ht]
      exact h1 _ _ (by unfold isW; omega)
    · rw [C_ne (by omega)]; exact h3 p t (by omega) ht
  · by_cases e : p = i
    · rw [e, C_in ht, C_ne (by omega)]
      exact h1 _ _ (by unfold isW; omega)
    · rw [C_ne (by omega), C_ne (by omega)]; exact h4 p t (by omega) ht
theorem be_e {a b : Nat} {μ m : mzM} (ha : a < 3) (hb : b < 3) (hab : a ≠ b) (h : BeI a b 12 μ m) : (∀ k j, ¬ isW a k → mzCp (mzCp (mzCp m (35 + b) 0 (35 + a) 0 20) (38 + b) 0 (38 + a) 0 20) (41 + b) 0 (41 + a) 0 10 k j = μ k j) ∧ ∀ w, wN w ≤ 12 → wK w ≤ 20 → CW μ b w → CW (mzCp (mzCp (mzCp m (35 + b) 0 (35 + a) 0 20) (38 + b) 0 (38 + a) 0 20) (41 + b) 0 (41 + a) 0 10) a w := by
  obtain ⟨h1, h2, h3, h4⟩ := h
  refine ⟨fun k j hk => ?_, fun w hN hK hw => ?_⟩
  · have hk' := hk
    unfold isW at hk'
    rw [C_ne (by omega), C_ne (by omega), C_ne (by omega)]
    exact h1 k j hk
  · obtain ⟨g0, g1, g2, g3, g4, g5, g6, g7, g8⟩ := hw
    refine ⟨?_, ?_, ?_, ?_, ?_, fun p t hp ht => ?_, fun f t hf ht => ?_, fun i hi => ⟨?_, ?_⟩, fun i hi => ?_⟩
    · rw [C_ne (by omega), C_ne (by omega), C_ne (by omega), h2 _ (by omega)]; exact g0
    · rw [C_ne (by omega), C_ne (by omega), C_ne (by omega), h2 _ (by omega)]; exact g1
    · rw [C_ne (by omega), C_ne (by omega), C_ne (by omega), h2 _ (by omega)]; exact g2
    · rw [C_ne (by omega), C_ne (by omega), C_ne (by omega), h2 _ (by omega)]; exact g3
    · rw [C_ne (by omega), C_ne (by omega), C_ne (by omega), h2 _ (by omega)]; exact g4
    · rw [C_ne (by omega), C_ne (by omega), C_ne (by omega), h3 p t (by omega) ht]; exact g5 p t hp ht
    · rw [C_ne (by omega), C_ne (by omega), C_ne (by omega), h4 f t hf ht]; exact g6 f t hf ht
    · rw [C_ne (by omega), C_ne (by omega), C_in (by omega), h1 _ _ (by unfold isW; omega)]; exact (g7 i hi).1
    · rw [C_ne (by omega), C_in (by omega), C_ne (by omega), h1 _ _ (by unfold isW; omega)]; exact (g7 i hi).2
    · rw [C_in hi, C_ne (by omega), C_ne (by omega), h1 _ _ (by unfold isW; omega)]; exact g8 i hi
theorem k_become_a {d : Nat} {q : mzM → Prop} {μ : mzM} (h : ∀ μ', (∀ k j, ¬ isW 2 k → μ' k j = μ k j) → (∀ w, wN w ≤ 12 → wK w ≤ 20 → CW μ 0 w → CW μ' 2 w) → q μ') : mzCl (d + 1) 93 [mzR 28, mzR 26] μ (mzQv q) := by
  have L : ∀ (c i : Nat) (x2 : Int) (m : mzM), i + c = 12 → x2 = i → BeI 2 0 i μ m → mzWp (d + 1) 93 42 [mzR 28, mzR 26, mzI x2] [] m (mzQv q) := by
    intro c
    induction c with
    | zero =>
      intro i x2 m hi hx I
      have : i = 12 := by omega
      subst this
      have z := be_e (a := 2) (b := 0) (by omega) (by omega) (by omega) I
      exact g93a_42 _ _ ⟨fun _ => ⟨by omega, by omega, by omega, h _ z.1 z.2⟩, fun z => by omega⟩
    | succ c ih =>
      intro i x2 m hi hx I
      subst hx
      refine g93a_42 _ _ ⟨fun z => by omega, fun _ => ?_⟩
      rw [Int.toNat_natCast]
      have h12 : i < 12 := by omega
      exact ⟨⟨by omega, by omega⟩, ⟨by omega, by omega⟩, h12, h12, by omega, ⟨by omega, by omega⟩, ⟨by omega, by omega⟩, h12, h12, by omega, ih (i + 1) _ _ (by omega) (by rw [wid (by omega) (by omega)]; omega) (be_s (a := 2) (b := 0) (by omega) (by omega) (by omega) h12 I)⟩
  exact g93a_e _ (L 12 0 0 _ rfl rfl (be_0 (a := 2) (b := 0)))
theorem k_become_b {d : Nat} {q : mzM → Prop} {μ : mzM} (h : ∀ μ', (∀ k j, ¬ isW 0 k → μ' k j = μ k j) → (∀ w, wN w ≤ 12 → wK w ≤ 20 → CW μ 2 w → CW μ' 0 w) → q μ') : mzCl (d + 1) 93 [mzR 26, mzR 28] μ (mzQv q) := by
  have L : ∀ (c i : Nat) (x2 : Int) (m : mzM), i + c = 12 → x2 = i → BeI 0 2 i μ m → mzWp (d + 1) 93 42 [mzR 26, mzR 28, mzI x2] [] m (mzQv q) := by
    intro c
    induction c with
    | zero =>
      intro i x2 m hi hx I
      have : i = 12 := by omega
      subst this
      have z := be_e (a := 0) (b := 2) (by omega) (by omega) (by omega) I
      exact g93b_42 _ _ ⟨fun _ => ⟨by omega, by omega, by omega, h _ z.1 z.2⟩, fun z => by omega⟩
    | succ c ih =>
      intro i x2 m hi hx I
      subst hx
      refine g93b_42 _ _ ⟨fun z => by omega, fun _ => ?_⟩
      rw [Int.toNat_natCast]
      have h12 : i < 12 := by omega
      exact ⟨⟨by omega, by omega⟩, ⟨by omega, by omega⟩, h12, h12, by omega, ⟨by omega, by omega⟩, ⟨by omega, by omega⟩, h12, h12, by omega, ih (i + 1) _ _ (by omega) (by rw [wid (by omega) (by omega)]; omega) (be_s (a := 0) (b := 2) (by omega) (by omega) (by omega) h12 I)⟩
  exact g93b_e _ (L 12 0 0 _ rfl rfl (be_0 (a := 0) (b := 2)))
theorem k_become_c {d : Nat} {q : mzM → Prop} {μ : mzM} (h : ∀ μ', (∀ k j, ¬ isW 1 k → μ' k j = μ k j) → (∀ w, wN w ≤ 12 → wK w ≤ 20 → CW μ 0 w → CW μ' 1 w) → q μ') : mzCl (d + 1) 93 [mzR 27, mzR 26] μ (mzQv q) := by
  have L : ∀ (c i : Nat) (x2 : Int) (m : mzM), i + c = 12 → x2 = i → BeI 1 0 i μ m → mzWp (d + 1) 93 42 [mzR 27, mzR 26, mzI x2] [] m (mzQv q) := by
    intro c
    induction c with
    | zero =>
      intro i x2 m hi hx I
      have : i = 12 := by omega
      subst this
      have z := be_e (a := 1) (b := 0) (by omega) (by omega) (by omega) I
      exact g93c_42 _ _ ⟨fun _ => ⟨by omega, by omega, by omega, h _ z.1 z.2⟩, fun z => by omega⟩
    | succ c ih =>
      intro i x2 m hi hx I
      subst hx
      refine g93c_42 _ _ ⟨fun z => by omega, fun _ => ?_⟩
      rw [Int.toNat_natCast]
      have h12 : i < 12 := by omega
      exact ⟨⟨by omega, by omega⟩, ⟨by omega, by omega⟩, h12, h12, by omega, ⟨by omega, by omega⟩, ⟨by omega, by omega⟩, h12, h12, by omega, ih (i + 1) _ _ (by omega) (by rw [wid (by omega) (by omega)]; omega) (be_s (a := 1) (b := 0) (by omega) (by omega) (by omega) h12 I)⟩
  exact g93c_e _ (L 12 0 0 _ rfl rfl (be_0 (a := 1) (b := 0)))
theorem k_become_e {d : Nat} {q : mzM → Prop} {μ : mzM} (h : ∀ μ', (∀ k j, ¬ isW 0 k → μ' k j = μ k j) → (∀ w, wN w ≤ 12 → wK w ≤ 20 → CW μ 1 w → CW μ' 0 w) → q μ') : mzCl (d + 1) 93 [mzR 26, mzR 27] μ (mzQv q) := by
  have L : ∀ (c i : Nat) (x2 : Int) (m : mzM), i + c = 12 → x2 = i → BeI 0 1 i μ m → mzWp (d + 1) 93 42 [mzR 26, mzR 27, mzI x2] [] m (mzQv q) := by
    intro c
    induction c with
    | zero =>
      intro i x2 m hi hx I
      have : i = 12 := by omega
      subst this
      have z := be_e (a := 0) (b := 1) (by omega) (by omega) (by omega) I
      exact g93e_42 _ _ ⟨fun _ => ⟨by omega, by omega, by omega, h _ z.1 z.2⟩, fun z => by omega⟩
    | succ c ih =>
      intro i x2 m hi hx I
      subst hx
      refine g93e_42 _ _ ⟨fun z => by omega, fun _ => ?_⟩
      rw [Int.toNat_natCast]
      have h12 : i < 12 := by omega
      exact ⟨⟨by omega, by omega⟩, ⟨by omega, by omega⟩, h12, h12, by omega, ⟨by omega, by omega⟩, ⟨by omega, by omega⟩, h12, h12, by omega, ih (i + 1) _ _ (by omega) (by rw [wid (by omega) (by omega)]; omega) (be_s (a := 0) (b := 1) (by omega) (by omega) (by omega) h12 I)⟩
  exact g93e_e _ (L 12 0 0 _ rfl rfl (be_0 (a := 0) (b := 1)))
