/-! PAIRS: copy, two -/
theorem cp_up {d : Nat} {q : Int → mzM → Prop} {s f t o n : Nat} {μ : mzM} (hs : s < 4) (ht : t < 4) (hf : f + n ≤ 40) (ho : o + n ≤ 40) (hu : s ≠ t ∨ o ≤ f) (h : ∀ μ', (∀ k j, (k ≠ 13 ∨ j < 40 * t + o ∨ 40 * t + o + n ≤ j) → μ' k j = μ k j) → (∀ j, j < n → μ' 13 (40 * t + o + j) = μ 13 (40 * s + f + j)) → q n μ') :
    ∀ (c i : Nat) (x7 : Int) (m : mzM), i + c = n → x7 = i → (∀ k j, (k ≠ 13 ∨ j < 40 * t + o ∨ 40 * t + o + i ≤ j) → m k j = μ k j) → (∀ j, j < i → m 13 (40 * t + o + j) = μ 13 (40 * s + f + j)) → mzWp (d + 1) 85 139 [mzR 0, mzI s, mzI f, mzI t, mzI o, mzI n, mzI 0, mzI x7, none] [] m (mzQi q) := by
  intro c
  induction c with
  | zero =>
    intro i x7 m hi hx e1 e2
    have : i = n := by omega
    subst this
    exact g85_139 _ _ _ _ _ _ _ _ ⟨fun _ => h m e1 e2, fun z => by omega⟩
  | succ c ih =>
    intro i x7 m hi hx e1 e2
    subst hx
    have hi2 : i < n := by omega
    have rd : m 13 (40 * s + f + i) = μ 13 (40 * s + f + i) := e1 13 _ (by omega)
    have b1 : (0 : Int) ≤ ((40 * s + f + i : Nat) : Int) ∧ ((40 * s + f + i : Nat) : Int) < 160 := by omega
    have b2 : (0 : Int) ≤ ((40 * t + o + i : Nat) : Int) ∧ ((40 * t + o + i : Nat) : Int) < 160 := by omega
    refine g85_139 _ _ _ _ _ _ _ _ ⟨fun z => by omega, fun _ => ⟨fun _ => ?_, fun z => absurd rfl z⟩⟩
    rw [wcp hs (by omega) (by omega), wcp ht (by omega) (by omega), Int.toNat_natCast, Int.toNat_natCast, w1 (by omega)]
    refine ⟨b1, b2, ih (i + 1) _ _ (by omega) rfl (fun k j hk => ?_) (fun j hj => ?_)⟩
    · rw [S_ne (by omega)]; exact e1 k j (by omega)
    · by_cases e : j = i
      · rw [e, S_eq]; exact rd
      · rw [S_ne (by omega)]; exact e2 j (by omega)
theorem cp_dn {d : Nat} {q : Int → mzM → Prop} {s f o n : Nat} {μ : mzM} (hs : s < 4) (hf : f + n ≤ 40) (ho : o + n ≤ 40) (hu : f < o) (h : ∀ μ', (∀ k j, (k ≠ 13 ∨ j < 40 * s + o ∨ 40 * s + o + n ≤ j) → μ' k j = μ k j) → (∀ j, j < n → μ' 13 (40 * s + o + j) = μ 13 (40 * s + f + j)) → q n μ') :
    ∀ (c i : Nat) (x7 : Int) (m : mzM), i + c = n → x7 = i → (∀ k j, (k ≠ 13 ∨ j < 40 * s + o + c ∨ 40 * s + o + n ≤ j) → m k j = μ k j) → (∀ j, j < n → c ≤ j → m 13 (40 * s + o + j) = μ 13 (40 * s + f + j)) → mzWp (d + 1) 85 139 [mzR 0, mzI s, mzI f, mzI s, mzI o, mzI n, mzI 1, mzI x7, none] [] m (mzQi q) := by
  intro c
  induction c with
  | zero =>
    intro i x7 m hi hx e1 e2
    exact g85_139 _ _ _ _ _ _ _ _ ⟨fun _ => h m e1 (fun j hj => e2 j hj (Nat.zero_le _)), fun z => by omega⟩
  | succ c ih =>
    intro i x7 m hi hx e1 e2
    subst hx
    have hi2 : i < n := by omega
    have ec : n - 1 - i = c := by omega
    have rd : m 13 (40 * s + f + c) = μ 13 (40 * s + f + c) := e1 13 _ (by omega)
    have b1 : (0 : Int) ≤ ((40 * s + f + c : Nat) : Int) ∧ ((40 * s + f + c : Nat) : Int) < 160 := by omega
    have b2 : (0 : Int) ≤ ((40 * s + o + c : Nat) : Int) ∧ ((40 * s + o + c : Nat) : Int) < 160 := by omega
    refine g85_139 _ _ _ _ _ _ _ _ ⟨fun z => by omega, fun _ => ⟨fun z => absurd z (by decide), fun _ => ?_⟩⟩
    rw [wla hi2 (by omega), ec, wcp hs (by omega) (by omega), wcp hs (by omega) (by omega), Int.toNat_natCast, Int.toNat_natCast, w1 (by omega)]
    refine ⟨b1, b2, ih (i + 1) _ _ (by omega) rfl (fun k j hk => ?_) (fun j hj hcj => ?_)⟩
    · rw [S_ne (by omega)]; exact e1 k j (by omega)
    · by_cases e : j = c
      · rw [e, S_eq]; exact rd
      · rw [S_ne (by omega)]; exact e2 j hj (by omega)
