/-! PAIRS: image, undo, tear, sheet, write, copy -/
theorem c_imL {d : Nat} {q : Int → mzM → Prop} {μ : mzM} (h : ∀ μ', (∀ k j, k ≠ 2 → (k ≠ 0 ∨ j ≠ 2) → μ' k j = μ k j) → (∀ j, j < 318 → μ' 2 j = μ 1 j) → μ' 0 2 = 1 → q 1 μ') : mzCl d 86 [mzR 0] μ (mzQi q) := by
  have L : ∀ (c i : Nat) (x1 : Int) (m : mzM), i + c = 318 → x1 = i → (∀ k j, k ≠ 2 → m k j = μ k j) → (∀ j, j < i → m 2 j = μ 1 j) → mzWp d 86 2 [mzR 0, mzI x1] [] m (mzQi q) := by
    intro c
    induction c with
    | zero =>
      intro i x1 m hi hx e1 e2
      exact g86_2 _ _ ⟨fun _ => ⟨or10, h _ (fun k j a1 a2 => by rw [S_ne (by omega)]; exact e1 k j a1) (fun j hj => by rw [S_ne (by omega)]; exact e2 j (by omega)) S_eq⟩, fun z => by omega⟩
    | succ c ih =>
      intro i x1 m hi hx e1 e2
      subst hx
      refine g86_2 _ _ ⟨fun z => by omega, fun _ => ⟨by omega, by omega, ih (i + 1) _ _ (by omega) (by rw [wid (by omega) (by omega)]; omega) (fun k j hk => ?_) (fun j hj => ?_)⟩⟩
      · rw [S_ne (by omega)]; exact e1 k j hk
      · rw [Int.toNat_natCast]
        by_cases e : j = i
        · rw [e, S_eq, e1 1 i (by omega)]
        · rw [S_ne (by omega)]; exact e2 j (by omega)
  exact g86_e _ (L 318 0 0 μ rfl rfl (fun _ _ _ => rfl) (fun j hj => by omega))
theorem c_unL {d : Nat} {q : Int → mzM → Prop} {μ : mzM} (hk : μ 0 2 ≠ 0) (h : ∀ μ', (∀ k j, k ≠ 1 → (k ≠ 0 ∨ j ≠ 4) → μ' k j = μ k j) → (∀ j, j < 318 → μ' 1 j = μ 2 j) → μ' 0 4 = 0 → q (μ 2 0) μ') : mzCl (d + 1) 87 [mzR 0] μ (mzQi q) := by
  have L : ∀ (c i : Nat) (x1 : Int) (m : mzM), i + c = 318 → x1 = i → (∀ k j, k ≠ 1 → m k j = μ k j) → (∀ j, j < i → m 1 j = μ 2 j) → mzWp (d + 1) 87 16 [mzR 0, mzI x1] [] m (mzQi q) := by
    intro c
    induction c with
    | zero =>
      intro i x1 m hi hx e1 e2
      refine g87_16 _ _ ⟨fun _ => ⟨or00, by omega, ?_⟩, fun z => by omega⟩
      rw [e2 0 (by omega)]
      exact h _ (fun k j a1 a2 => by rw [S_ne (by omega)]; exact e1 k j a1) (fun j hj => by rw [S_ne (by omega)]; exact e2 j (by omega)) S_eq
    | succ c ih =>
      intro i x1 m hi hx e1 e2
      subst hx
      refine g87_16 _ _ ⟨fun z => by omega, fun _ => ⟨by omega, by omega, ih (i + 1) _ _ (by omega) (by rw [wid (by omega) (by omega)]; omega) (fun k j hk => ?_) (fun j hj => ?_)⟩⟩
      · rw [S_ne (by omega)]; exact e1 k j hk
      · rw [Int.toNat_natCast]
        by_cases e : j = i
        · rw [e, S_eq, e1 2 i (by omega)]
        · rw [S_ne (by omega)]; exact e2 j (by omega)
  exact g87_e _ ⟨fun _ => L 318 0 0 μ rfl rfl (fun _ _ _ => rfl) (fun j hj => by omega), fun z => absurd z hk⟩
theorem p_image {d : Nat} {μ : mzM} {w : Wd} {q : Int → Int → mzM → Prop} (R : RW μ w) (h : ∀ a μ' w', RW μ' w' → q a a μ') : mzCl (d + 2) 168 [mzR 14] μ (mzQi fun a m1 => mzCl (d + 2) 86 [mzR 0] m1 (mzQi fun c m2 => q a c m2)) := by
  obtain ⟨r1, r2, r3, r4, r5, r6⟩ := R
  refine g168_e _ (k_become_c (fun m1 h1 h2 => ⟨or10, c_imL (fun m2 g1 g2 g3 => h _ m2 w ?_)⟩))
  have e : ∀ k j, ¬ isW 1 k → k ≠ 2 → (k ≠ 0 ∨ j ≠ 2) → (k ≠ 14 ∨ j ≠ 7) → m2 k j = μ k j := fun k j a1 a2 a3 a4 => by rw [g1 k j a2 a3, S_ne a4]; exact h1 k j a1
  refine ⟨r1, r2.cg (e 0 4 (by unfold isW; omega) (by omega) (by omega) (by omega)) (fun j => e 1 j (by unfold isW; omega) (by omega) (by omega) (by omega)) (fun j => e 8 j (by unfold isW; omega) (by omega) (by omega) (by omega)), r3.cg r1.1 (fun k i hk => e k i (by unfold isW at *; omega) (by unfold isW at *; omega) (by unfold isW at *; omega) (by unfold isW at *; omega)), ⟨?_, Or.inr ⟨g3, w, r1, ?_, ?_⟩⟩, r5.cg (fun k j hk => e k j (by unfold isW at *; omega) (by omega) (by omega) (by omega)), r6.cg (fun k j hk => e k j (by unfold isW at *; omega) (by omega) (by omega) (by omega))⟩
  · rw [g3, g1 14 7 (by omega) (by omega), S_eq]
  · exact r2.1.cg' r1.1 r1.2.2.2.1 (fun j hj => by rw [g2 j hj, S_ne (by omega)]; exact h1 1 j (by unfold isW; omega))
  · exact (h2 w r1.1 r1.2.2.2.1 r3).cg r1.1 (fun k i hk => by unfold isW at hk; rw [g1 k i (by omega) (by omega), S_ne (by omega)])
theorem p_undo {d : Nat} {μ : mzM} {w : Wd} {q : Int → Int → mzM → Prop} (R : RW μ w) (h : ∀ a μ' w', RW μ' w' → q a a μ') : mzCl (d + 2) 169 [mzR 14] μ (mzQi fun a m1 => mzCl (d + 2) 87 [mzR 0] m1 (mzQi fun c m2 => q a c m2)) := by
  obtain ⟨r1, r2, r3, ⟨ke, kp⟩, r5, r6⟩ := id R
  refine g169_e _ ⟨fun z => ?_, fun z => k_fd (by omega) r1.1 r3 (fun m1 f1 c1 => ?_)⟩
  · rcases kp with kp | ⟨kp, k, a1, a2, a3⟩
    · rw [ke] at kp; exact absurd kp z
    · refine k_become_e (fun m1 h1 h2 => ?_)
      have c1 := h2 k a1.1 a1.2.2.2.1 a3
      have e0 : m1 26 0 = wN k := c1.1
      have e0' : m1 2 0 = wN k := by rw [h1 2 0 (by unfold isW; omega)]; exact a2.1
      rw [e0]
      refine c_unL (by rw [h1 0 2 (by unfold isW; omega), kp]; decide) (fun m2 g1 g2 g3 => ?_)
      rw [e0']
      have e : ∀ a j, ¬ isW 0 a → a ≠ 1 → (a ≠ 0 ∨ j ≠ 4) → m2 a j = μ a j := fun a j b1 b2 b3 => by rw [g1 a j b2 b3]; exact h1 a j b1
      refine h _ m2 k ⟨a1, ⟨a2.cg' a1.1 a1.2.2.2.1 (fun j hj => by rw [g2 j hj]; exact h1 2 j (by unfold isW; omega)), Or.inl g3⟩, c1.cg a1.1 (fun a i ha => g1 a i (by unfold isW at ha; omega) (by unfold isW at ha; omega)), KpOk.cg ⟨ke, Or.inr ⟨kp, k, a1, a2, a3⟩⟩ (fun a j ha => e a j (by unfold isW at *; omega) (by unfold isW at *; omega) (by unfold isW at *; omega)), r5.cg (fun a j ha => e a j (by unfold isW; omega) (by omega) (by omega)), r6.cg (fun a j ha => e a j (by unfold isW; omega) (by omega) (by omega))⟩
  · have e2 : m1 0 2 = 0 := by rw [f1 0 2 (by unfold scC isW; omega), ke]; exact z
    exact g87_e _ ⟨fun z2 => absurd e2 z2, fun _ => c_fd (by omega) (r2.c f1) (fun m2 f2 i2 => h _ m2 w (R.st r1 f1 c1 f2 i2))⟩
theorem p_tear {d : Nat} {μ : mzM} {w : Wd} {q : Int → Int → mzM → Prop} (R : RW μ w) (h : ∀ a μ' w', RW μ' w' → q a a μ') : mzCl d 170 [mzR 14] μ (mzQi fun a m1 => mzCl d 88 [mzR 0] m1 (mzQi fun c m2 => q a c m2)) := by
  obtain ⟨r1, r2, r3, ⟨ke, kp⟩, r5, r6⟩ := id R
  have fin : RW (mzS (mzS μ 14 7 0) 0 2 0) w := by
    have e : ∀ k j, (k ≠ 14 ∨ j ≠ 7) → (k ≠ 0 ∨ j ≠ 2) → mzS (mzS μ 14 7 0) 0 2 0 k j = μ k j := fun k j a b => by rw [S_ne b, S_ne a]
    exact ⟨r1, r2.cg (e 0 4 (by omega) (by omega)) (fun j => e 1 j (by omega) (by omega)) (fun j => e 8 j (by omega) (by omega)), r3.cg r1.1 (fun k i hk => e k i (by unfold isW at hk; omega) (by unfold isW at hk; omega)), ⟨by rw [S_eq, S_ne (by omega), S_eq], Or.inl S_eq⟩, r5.cg (fun k j hk => e k j (by omega) (by omega)), r6.cg (fun k j hk => e k j (by omega) (by omega))⟩
  refine g170_e _ ⟨fun z => ⟨or00, g88_e _ ⟨fun z2 => ⟨or00, h _ _ w fin⟩, fun z2 => absurd (by rw [S_ne (by omega), ke]; exact z) z2⟩⟩, fun z => ⟨or00, g88_e _ ⟨fun z2 => absurd (by rw [S_ne (by omega), ke] at z2; exact z2) z, fun z2 => ⟨or00, h _ _ w fin⟩⟩⟩⟩
-- sheets
theorem RW.sh {μ m : mzM} {w : Wd} (R : RW μ w) (e : ∀ k j, k ≠ 11 → k ≠ 12 → k ≠ 13 → (k < 44 ∨ 51 < k) → m k j = μ k j) (s : ShOk m) : RW m w := by
  obtain ⟨r1, r2, r3, r4, r5, -⟩ := R
  exact ⟨r1, r2.cg (e 0 4 (by omega) (by omega) (by omega) (by omega)) (fun j => e 1 j (by omega) (by omega) (by omega) (by omega)) (fun j => e 8 j (by omega) (by omega) (by omega) (by omega)), r3.cg r1.1 (fun k i hk => e k i (by unfold isW at hk; omega) (by unfold isW at hk; omega) (by unfold isW at hk; omega) (by unfold isW at hk; omega)), r4.cg (fun k j hk => e k j (by unfold isW at hk; omega) (by unfold isW at hk; omega) (by unfold isW at hk; omega) (by unfold isW at hk; omega)), r5.cg (fun k j hk => e k j (by omega) (by omega) (by omega) (by omega)), s⟩
theorem c_isSheet {d : Nat} {q : Int → mzM → Prop} {s : Int} {μ : mzM} (h1 : 0 ≤ s → s < 4 → q 1 μ) (h0 : ¬ (0 ≤ s ∧ s < 4) → q 0 μ) : mzCl (d + 1) 76 [mzI s] μ (mzQi q) := g76_e _ _ (c_in (fun a b => ⟨or10, h1 a (by omega)⟩) (fun a => ⟨or00, h0 (by omega)⟩))
theorem k_isSheet {d : Nat} {q : Int → mzM → Prop} {s : Int} {μ : mzM} (h1 : 0 ≤ s → s < 4 → q 1 μ) (h0 : ¬ (0 ≤ s ∧ s < 4) → q 0 μ) : mzCl d 176 [mzI s] μ (mzQi q) := g176_e _ _ ⟨fun z => ⟨or00, h0 (by omega)⟩, fun z => ⟨fun z2 => ⟨or00, h0 (by omega)⟩, fun z2 => ⟨or10, h1 z z2⟩⟩⟩
theorem k_filln {d : Nat} {q : mzM → Prop} {n : Nat} {μ : mzM} (hn : n < 4) (h : ∀ μ', (∀ k j, k ≠ 48 + n → μ' k j = μ k j) → (∀ j, j < 40 → μ' (48 + n) j = 0) → q μ') : mzCl d 191 [mzP 48 n, mzI 0] μ (mzQv q) := by
  have L : ∀ (c i : Nat) (x2 : Int) (m : mzM), i + c = 40 → x2 = i → (∀ k j, k ≠ 48 + n → m k j = μ k j) → (∀ j, j < i → m (48 + n) j = 0) → mzWp d 191 5 [mzP 48 n, mzI 0, mzI x2, mzI 40] [] m (mzQv q) := by
    intro c
    induction c with
    | zero => exact fun i x2 m hi hx a1 a2 => g191n_5 _ _ _ _ _ ⟨fun _ => h m a1 (fun j hj => a2 j (by omega)), fun z => by omega⟩
    | succ c ih =>
      intro i x2 m hi hx a1 a2
      subst hx
      refine g191n_5 _ _ _ _ _ ⟨fun z => by omega, fun _ => ⟨⟨hn, by omega, by omega⟩, ih (i + 1) _ _ (by omega) (by rw [wid (by omega) (by omega)]; omega) (fun k j hk => ?_) (fun j hj => ?_)⟩⟩
      · rw [S_ne (by omega)]; exact a1 k j hk
      · rw [Int.toNat_natCast]
        by_cases e : j = i
        · rw [e, S_eq]
        · rw [S_ne (by omega)]; exact a2 j (by omega)
  exact g191n_e _ _ _ ⟨hn, L 40 0 0 μ rfl rfl (fun _ _ _ => rfl) (fun j hj => by omega)⟩
theorem c_shL {d : Nat} {q : Int → mzM → Prop} {s : Nat} {μ : mzM} (hs : s < 4) (h : ∀ μ', (∀ k j, (k ≠ 13 ∨ j < 40 * s ∨ 40 * s + 40 ≤ j) → μ' k j = μ k j) → (∀ j, j < 40 → μ' 13 (40 * s + j) = 0) → q (μ 12 s) μ') : mzWp (d + 1) 83 86 [mzR 0, mzI s, none, none, mzI 0] [] μ (mzQi q) := by
  have L : ∀ (c i : Nat) (x4 : Int) (m : mzM), i + c = 40 → x4 = i → (∀ k j, (k ≠ 13 ∨ j < 40 * s ∨ 40 * s + 40 ≤ j) → m k j = μ k j) → (∀ j, j < i → m 13 (40 * s + j) = 0) → mzWp (d + 1) 83 86 [mzR 0, mzI s, none, none, mzI x4] [] m (mzQi q) := by
    intro c
    induction c with
    | zero =>
      intro i x4 m hi hx a1 a2
      refine g83_86 _ _ _ ⟨fun _ => ⟨by omega, ?_⟩, fun z => by omega⟩
      rw [Int.toNat_natCast, a1 12 s (by omega)]
      exact h m a1 (fun j hj => a2 j (by omega))
    | succ c ih =>
      intro i x4 m hi hx a1 a2
      subst hx
      have e : mzW (mzW (40 * (s : Int)) + (i : Int)) = ((40 * s + i : Nat) : Int) := by unfold mzW; omega
      refine g83_86 _ _ _ ⟨fun z => by omega, fun _ => ?_⟩
      rw [e, Int.toNat_natCast]
      refine ⟨by omega, ih (i + 1) _ _ (by omega) (by rw [wid (by omega) (by omega)]; omega) (fun k j hk => ?_) (fun j hj => ?_)⟩
      · rw [S_ne (by omega)]; exact a1 k j hk
      · by_cases e : j = i
        · rw [e, S_eq]
        · rw [S_ne (by omega)]; exact a2 j (by omega)
  exact L 40 0 0 μ rfl rfl (fun _ _ _ => rfl) (fun j hj => by omega)
theorem ShOk.put {μ m : mzM} (h : ShOk μ) {s : Nat} (hs : s < 4) {b n : Int} (hb : b = 0 ∨ b = 8 ∨ b = 16 ∨ b = 32) (hn : 0 ≤ n ∧ n ≤ 40) (e1 : m 11 s = b) (e2 : m (44 + s) 0 = b) (e3 : m 12 s = n) (e4 : m (44 + s) 1 = n) (e5 : ∀ i, i < 40 → m 13 (40 * s + i) = m (48 + s) i)
    (f : ∀ t, t < 4 → t ≠ s → m 11 t = μ 11 t ∧ m (44 + t) 0 = μ (44 + t) 0 ∧ m 12 t = μ 12 t ∧ m (44 + t) 1 = μ (44 + t) 1 ∧ ∀ i, i < 40 → m 13 (40 * t + i) = μ 13 (40 * t + i) ∧ m (48 + t) i = μ (48 + t) i) : ShOk m := by
  intro t ht
  by_cases c : t = s
  · subst c
    exact ⟨e1.trans e2.symm, e3.trans e4.symm, by rw [e3]; exact hn, by rw [e1]; exact hb, e5⟩
  · obtain ⟨a1, a2, a3, a4, a5⟩ := f t ht c
    obtain ⟨b1, b2, b3, b4, b5⟩ := h t ht
    exact ⟨by rw [a1, a2]; exact b1, by rw [a3, a4]; exact b2, by rw [a3]; exact b3, by rw [a1]; exact b4, fun i hi => by rw [(a5 i hi).1, (a5 i hi).2]; exact b5 i hi⟩
