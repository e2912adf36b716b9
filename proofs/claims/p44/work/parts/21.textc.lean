/-! THE CLASS'S TEXT -/
theorem kw_l {d : Nat} {q : Int → mzM → Prop} {b : Nat → Int} {len : Nat} {t : TT} {o : Nat} {μ : mzM} (ho : o < 14) (hl : len ≤ 120) (ht : TpC μ b len) (h8 : μ 23 3 = t.2.1) (he : t.2.1 + wl o ≤ len) (h : q (if eqS b t.2.1 o (wl o) = true then 1 else 0) μ) :
    ∀ (n k : Nat) (x3 : Int), k + n = wl o → x3 = k → eqS b t.2.1 o k = true → mzWp (d + 1) 124 28 [mzR 23, mzP 300 o, mzI x3] [] μ (mzQi q) := by
  intro n
  induction n with
  | zero =>
    intro k x3 hk h3 hE
    have : k = wl o := by omega
    subst this
    refine g124_28 _ _ _ ⟨ho, fun _ => ⟨or10, ?_⟩, fun z => ?_⟩
    · rw [if_pos hE] at h; exact h
    · rw [wl_sl, h3] at z; omega
  | succ n ih =>
    intro k x3 hk h3 hE
    have ew : mzW (μ 23 3 + x3) = ((t.2.1 + k : Nat) : Int) := by rw [h8, h3, wid (by omega) (by omega)]; omega
    have eb : μ 24 (mzW (μ 23 3 + x3)).toNat = b (t.2.1 + k) := by rw [ew, Int.toNat_natCast]; exact ht.2 _ (by omega)
    have ek : x3.toNat = k := by omega
    have e1 : mzW (x3 + 1) = ((k + 1 : Nat) : Int) := by rw [h3, wid (by have := (wl_le o ho).2; omega) (by have := (wl_le o ho).2; omega)]; omega
    refine g124_28 _ _ _ ⟨ho, fun z => ?_, fun z => ⟨?_, ⟨ho, by omega, z⟩, fun z2 => ?_, fun z2 => ⟨or00, ?_⟩⟩⟩
    · rw [wl_sl, h3] at z; omega
    · rw [ew]; omega
    · rw [eb, ek] at z2
      refine ih (k + 1) _ (by omega) e1 ?_
      unfold eqS
      rw [hE, z2]
      simp
    · rw [eb, ek] at z2
      rw [if_neg (by rw [eqS_not (by omega) z2]; decide)] at h
      exact h
theorem k_isWord {d : Nat} {q : Int → mzM → Prop} {b : Nat → Int} {len : Nat} {t : TT} {o : Nat} {μ : mzM} (ho : o < 14) (hl : len ≤ 120) (ht : TpC μ b len) (hk : TkC μ t) (hse : t.2.1 ≤ t.2.2.1) (hel : t.2.2.1 ≤ len) (h1 : isWd b t o = true → q 1 μ) (h0 : isWd b t o = false → q 0 μ) : mzCl (d + 1) 124 [mzR 23, mzP 300 o] μ (mzQi q) := by
  obtain ⟨k7, k8, k9, -⟩ := hk
  have ew : mzW (μ 23 4 - μ 23 3) = ((t.2.2.1 - t.2.1 : Nat) : Int) := by rw [k8, k9, wid (by omega) (by omega)]; omega
  refine g124_e _ _ ⟨fun z => ⟨or00, h0 ?_⟩, fun z => ⟨ho, fun z2 => ?_, fun z2 => ⟨or00, h0 ?_⟩⟩⟩
  · unfold isWd
    rw [decide_eq_false (by rw [k7] at z; omega)]
    rfl
  · rw [ew, wl_sl] at z2
    refine kw_l ho hl ht k8 (by omega) ?_ (wl o) 0 _ (by omega) rfl rfl
    have e : isWd b t o = eqS b t.2.1 o (wl o) := by
      unfold isWd
      rw [decide_eq_true (show t.1 = 1 by rw [k7] at z; omega), decide_eq_true (show t.2.2.1 - t.2.1 = wl o by omega)]
      rfl
    by_cases c : eqS b t.2.1 o (wl o) = true
    · rw [if_pos c]; exact h1 (by rw [e]; exact c)
    · rw [if_neg c]; exact h0 (by rw [e]; simpa using c)
  · rw [ew, wl_sl] at z2
    unfold isWd
    rw [decide_eq_false (p := t.2.2.1 - t.2.1 = wl o) (by omega)]
    simp
theorem kd_hit {b : Nat → Int} {t : TT} {i : Nat} (hi : i < 7) (h : isWd b t (2 + i) = true) (h0 : ∀ j, j < i → isWd b t (2 + j) = false) : kd b t = some i := by
  have c : i = 0 ∨ i = 1 ∨ i = 2 ∨ i = 3 ∨ i = 4 ∨ i = 5 ∨ i = 6 := by omega
  unfold kd
  rcases c with rfl | rfl | rfl | rfl | rfl | rfl | rfl
  · rw [if_pos h]
  · rw [if_neg (by rw [h0 0 (by omega)]; decide), if_pos h]
  · rw [if_neg (by rw [h0 0 (by omega)]; decide), if_neg (by rw [h0 1 (by omega)]; decide), if_pos h]
  · rw [if_neg (by rw [h0 0 (by omega)]; decide), if_neg (by rw [h0 1 (by omega)]; decide), if_neg (by rw [h0 2 (by omega)]; decide), if_pos h]
  · rw [if_neg (by rw [h0 0 (by omega)]; decide), if_neg (by rw [h0 1 (by omega)]; decide), if_neg (by rw [h0 2 (by omega)]; decide), if_neg (by rw [h0 3 (by omega)]; decide), if_pos h]
  · rw [if_neg (by rw [h0 0 (by omega)]; decide), if_neg (by rw [h0 1 (by omega)]; decide), if_neg (by rw [h0 2 (by omega)]; decide), if_neg (by rw [h0 3 (by omega)]; decide), if_neg (by rw [h0 4 (by omega)]; decide), if_pos h]
  · rw [if_neg (by rw [h0 0 (by omega)]; decide), if_neg (by rw [h0 1 (by omega)]; decide), if_neg (by rw [h0 2 (by omega)]; decide), if_neg (by rw [h0 3 (by omega)]; decide), if_neg (by rw [h0 4 (by omega)]; decide), if_neg (by rw [h0 5 (by omega)]; decide), if_pos h]
theorem kd_no {b : Nat → Int} {t : TT} (h0 : ∀ j, j < 7 → isWd b t (2 + j) = false) : kd b t = none := by
  unfold kd
  rw [if_neg (by rw [h0 0 (by omega)]; decide), if_neg (by rw [h0 1 (by omega)]; decide), if_neg (by rw [h0 2 (by omega)]; decide), if_neg (by rw [h0 3 (by omega)]; decide), if_neg (by rw [h0 4 (by omega)]; decide), if_neg (by rw [h0 5 (by omega)]; decide), if_neg (by rw [h0 6 (by omega)]; decide)]
theorem td_hit {b : Nat → Int} {t : TT} {i : Nat} (hi : i < 5) (h : isWd b t (9 + i) = true) (h0 : ∀ j, j < i → isWd b t (9 + j) = false) : td b t = some (2 + i) := by
  have c : i = 0 ∨ i = 1 ∨ i = 2 ∨ i = 3 ∨ i = 4 := by omega
  unfold td
  rcases c with rfl | rfl | rfl | rfl | rfl
  · rw [if_pos h]
  · rw [if_neg (by rw [h0 0 (by omega)]; decide), if_pos h]
  · rw [if_neg (by rw [h0 0 (by omega)]; decide), if_neg (by rw [h0 1 (by omega)]; decide), if_pos h]
  · rw [if_neg (by rw [h0 0 (by omega)]; decide), if_neg (by rw [h0 1 (by omega)]; decide), if_neg (by rw [h0 2 (by omega)]; decide), if_pos h]
  · rw [if_neg (by rw [h0 0 (by omega)]; decide), if_neg (by rw [h0 1 (by omega)]; decide), if_neg (by rw [h0 2 (by omega)]; decide), if_neg (by rw [h0 3 (by omega)]; decide), if_pos h]
theorem td_no {b : Nat → Int} {t : TT} (h0 : ∀ j, j < 5 → isWd b t (9 + j) = false) : td b t = none := by
  unfold td
  rw [if_neg (by rw [h0 0 (by omega)]; decide), if_neg (by rw [h0 1 (by omega)]; decide), if_neg (by rw [h0 2 (by omega)]; decide), if_neg (by rw [h0 3 (by omega)]; decide), if_neg (by rw [h0 4 (by omega)]; decide)]
theorem k_kindName {d : Nat} {q : Nat → Nat → mzM → Prop} {i : Nat} {μ : mzM} (hi : i < 7) (h : q 300 (2 + i) μ) : mzCl d 127 [mzI i] μ (mzQr q) := by
  have c : i = 0 ∨ i = 1 ∨ i = 2 ∨ i = 3 ∨ i = 4 ∨ i = 5 ∨ i = 6 := by omega
  rcases c with rfl | rfl | rfl | rfl | rfl | rfl | rfl
  all_goals exact g127_e _ _ ⟨⟨fun z => by first | exact h | omega, fun z => by first | exact h | omega, fun z => by first | exact h | omega, fun z => by first | exact h | omega, fun z => by first | exact h | omega, fun z => by first | exact h | omega, trivial⟩, fun z => by first | exact h | omega⟩
theorem k_traitName {d : Nat} {q : Nat → Nat → mzM → Prop} {i : Nat} {μ : mzM} (hi : i < 5) (h : q 300 (9 + i) μ) : mzCl d 128 [mzI ((2 + i : Nat) : Int)] μ (mzQr q) := by
  have c : i = 0 ∨ i = 1 ∨ i = 2 ∨ i = 3 ∨ i = 4 := by omega
  rcases c with rfl | rfl | rfl | rfl | rfl
  all_goals exact g128_e _ _ ⟨⟨fun z => by first | exact h | omega, fun z => by first | exact h | omega, fun z => by first | exact h | omega, fun z => by first | exact h | omega, trivial⟩, fun z => by first | exact h | omega⟩
theorem k_kindHere {d : Nat} {q : Int → mzM → Prop} {b : Nat → Int} {len : Nat} {t : TT} {μ : mzM} (hl : len ≤ 120) (ht : TpC μ b len) (hk : TkC μ t) (hse : t.2.1 ≤ t.2.2.1) (hel : t.2.2.1 ≤ len) (h1 : ∀ k, kd b t = some k → q k μ) (h0 : kd b t = none → q (-1) μ) : mzCl (d + 2) 125 [mzR 23] μ (mzQi q) := by
  have L : ∀ (c i : Nat) (x1 : Int), i + c = 7 → x1 = i → (∀ j, j < i → isWd b t (2 + j) = false) → mzWp (d + 2) 125 2 [mzR 23, mzI x1] [] μ (mzQi q) := by
    intro c
    induction c with
    | zero => exact fun i x1 hi hx hj => g125_2 _ _ ⟨fun _ => h0 (kd_no (fun j h => hj j (by omega))), fun z => by omega⟩
    | succ c ih =>
      intro i x1 hi hx hj
      subst hx
      refine g125_2 _ _ ⟨fun z => by omega, fun _ => k_kindName (by omega) ⟨rfl, k_isWord (by omega) hl ht hk hse hel (fun w => ⟨fun z => absurd z (by decide), fun _ => h1 i (kd_hit (by omega) w hj)⟩) (fun w => ⟨fun _ => ih (i + 1) _ (by omega) (by rw [wid (by omega) (by omega)]; omega) (fun j hj2 => ?_), fun z => absurd rfl z⟩)⟩⟩
      by_cases e : j = i
      · rw [e]; exact w
      · exact hj j (by omega)
  exact g125_e _ (L 7 0 0 rfl rfl (fun j hj => by omega))
theorem k_traitHere {d : Nat} {q : Int → mzM → Prop} {b : Nat → Int} {len : Nat} {t : TT} {μ : mzM} (hl : len ≤ 120) (ht : TpC μ b len) (hk : TkC μ t) (hse : t.2.1 ≤ t.2.2.1) (hel : t.2.2.1 ≤ len) (h1 : ∀ k, td b t = some k → q k μ) (h0 : td b t = none → q (-1) μ) : mzCl (d + 2) 126 [mzR 23] μ (mzQi q) := by
  have L : ∀ (c i : Nat) (x1 : Int), i + c = 5 → x1 = ((2 + i : Nat) : Int) → (∀ j, j < i → isWd b t (9 + j) = false) → mzWp (d + 2) 126 2 [mzR 23, mzI x1] [] μ (mzQi q) := by
    intro c
    induction c with
    | zero => exact fun i x1 hi hx hj => g126_2 _ _ ⟨fun _ => h0 (td_no (fun j h => hj j (by omega))), fun z => by omega⟩
    | succ c ih =>
      intro i x1 hi hx hj
      subst hx
      refine g126_2 _ _ ⟨fun z => by omega, fun _ => k_traitName (by omega) ⟨rfl, k_isWord (by omega) hl ht hk hse hel (fun w => ⟨fun z => absurd z (by decide), fun _ => h1 (2 + i) (td_hit (by omega) w hj)⟩) (fun w => ⟨fun _ => ih (i + 1) _ (by omega) (by rw [wid (by omega) (by omega)]; omega) (fun j hj2 => ?_), fun z => absurd rfl z⟩)⟩⟩
      by_cases e : j = i
      · rw [e]; exact w
      · exact hj j (by omega)
  exact g126_e _ (L 5 0 2 rfl rfl (fun j hj => by omega))
theorem k_isNumber {d : Nat} {q : Int → mzM → Prop} {t : TT} {a z : Int} {μ : mzM} (hk : TkC μ t) (h1 : t.1 = 2 → a ≤ (t.2.2.2 : Int) → (t.2.2.2 : Int) ≤ z → μ 23 5 = t.2.2.2 → q 1 μ) (h0 : ¬ (t.1 = 2 ∧ a ≤ (t.2.2.2 : Int) ∧ (t.2.2.2 : Int) ≤ z) → q 0 μ) : mzCl d 123 [mzR 23, mzI a, mzI z] μ (mzQi q) := by
  obtain ⟨k2, -, -, k5⟩ := hk
  refine g123_e _ _ _ ⟨fun c => ⟨or00, h0 (fun y => c (by rw [k2, y.1]; rfl))⟩, fun c => ?_⟩
  have e : t.1 = 2 := by omega
  have e5 := k5 e
  exact ⟨fun y => ⟨or00, h0 (by omega)⟩, fun y => ⟨fun y2 => ⟨or00, h0 (by omega)⟩, fun y2 => ⟨or10, h1 e (by omega) (by omega) e5⟩⟩⟩
theorem k_fillr {d : Nat} {q : mzM → Prop} {n : Nat} {μ : mzM} (hn : n < 12) (h : ∀ μ', (∀ k j, k ≠ 76 + n → μ' k j = μ k j) → (∀ j, j < 9 → μ' (76 + n) j = 0) → q μ') : mzCl d 191 [mzP 76 n, mzI 0] μ (mzQv q) := by
  have L : ∀ (c i : Nat) (x2 : Int) (m : mzM), i + c = 9 → x2 = i → (∀ k j, k ≠ 76 + n → m k j = μ k j) → (∀ j, j < i → m (76 + n) j = 0) → mzWp d 191 5 [mzP 76 n, mzI 0, mzI x2, mzI 9] [] m (mzQv q) := by
    intro c
    induction c with
    | zero => exact fun i x2 m hi hx a1 a2 => g191r_5 _ _ _ _ _ ⟨fun _ => h m a1 (fun j hj => a2 j (by omega)), fun z => by omega⟩
    | succ c ih =>
      intro i x2 m hi hx a1 a2
      subst hx
      refine g191r_5 _ _ _ _ _ ⟨fun z => by omega, fun _ => ⟨⟨hn, by omega, by omega⟩, ih (i + 1) _ _ (by omega) (by rw [wid (by omega) (by omega)]; omega) (fun k j hk => ?_) (fun j hj => ?_)⟩⟩
      · rw [S_ne (by omega)]; exact a1 k j hk
      · rw [Int.toNat_natCast]
        by_cases e : j = i
        · rw [e, S_eq]
        · rw [S_ne (by omega)]; exact a2 j (by omega)
  exact g191r_e _ _ _ ⟨hn, L 9 0 0 μ rfl rfl (fun _ _ _ => rfl) (fun j hj => by omega)⟩
theorem k_addPlace {d : Nat} {q : Nat → Nat → mzM → Prop} {n k v : Nat} {μ : mzM} (hn : n < 12) (h0 : μ 28 0 = n) (h : ∀ μ', (∀ a j, (a ≠ 28 ∨ j ≠ 0) → a ≠ 76 + n → μ' a j = μ a j) → μ' 28 0 = ((n + 1 : Nat) : Int) → (∀ t, t < 9 → μ' (76 + n) t = row0 k v t) → q 76 n μ') : mzCl (d + 1) 95 [mzR 28, mzI k, mzI v] μ (mzQr q) := by
  have e0 : (μ 28 0).toNat = n := by omega
  have e1 : mzW (μ 28 0 + 1) = ((n + 1 : Nat) : Int) := by rw [h0, wid (by omega) (by omega)]; omega
  refine g95_e _ _ _ ⟨by omega, ?_⟩
  rw [e0, e1]
  refine k_fillr hn (fun m1 a1 a2 => ⟨⟨hn, by omega, by omega⟩, ⟨hn, by omega, by omega⟩, ⟨hn, by omega, by omega⟩, ⟨hn, by omega, by omega⟩, ⟨hn, by omega, by omega⟩, h _ (fun a j b1 b2 => ?_) ?_ (fun t ht => ?_)⟩)
  · rw [S_ne (by omega), S_ne (by omega), S_ne (by omega), S_ne (by omega), S_ne (by omega), a1 a j b2, S_ne (by omega)]
  · rw [S_ne (by omega), S_ne (by omega), S_ne (by omega), S_ne (by omega), S_ne (by omega), a1 28 0 (by omega), S_eq]
  · have c : t = 0 ∨ t = 1 ∨ t = 2 ∨ t = 3 ∨ t = 4 ∨ t = 5 ∨ t = 6 ∨ t = 7 ∨ t = 8 := by omega
    rcases c with rfl | rfl | rfl | rfl | rfl | rfl | rfl | rfl | rfl <;> simp [mzS, row0, a2]
