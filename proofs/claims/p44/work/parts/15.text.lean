/-! TEXTS: what a text does to the places and ties -/
abbrev TT : Type := Nat × Nat × Nat × Nat
theorem rn_gt {P : Int → Bool} {b : Nat → Int} {len f i : Nat} (hf : 0 < f) (hi : i < len) (hP : P (b i) = true) : i < rn P b len f i := by
  cases f with
  | zero => omega
  | succ f =>
    unfold rn
    rw [if_pos ⟨hi, hP⟩]
    exact Nat.lt_of_lt_of_le (Nat.lt_succ_self i) (rn_ge _ _ _ _ _)
/-- where tokens lie -/
theorem tk_bd {b : Nat → Int} {len pos : Nat} (hp : pos ≤ len) : pos ≤ (tk b len pos).2.1 ∧ (tk b len pos).2.1 ≤ (tk b len pos).2.2.1 ∧ (tk b len pos).2.2.1 ≤ len ∧ ((tk b len pos).1 ≠ 0 → pos < (tk b len pos).2.2.1) ∧ ((tk b len pos).1 = 0 ∨ (tk b len pos).2.1 < (tk b len pos).2.2.1) ∧ (tk b len pos).2.2.2 ≤ 10000 ∧ (tk b len pos).1 ≤ 4 := by
  have h1 := rn_ge isB b len (len - pos) pos
  have h2 := rn_le isB b len (len - pos) pos hp
  generalize hs : rn isB b len (len - pos) pos = s at h1 h2
  by_cases h : s < len
  · cases hL : isL (b s) with
    | true =>
      rw [tk_1 hs h hL]
      have a1 := rn_gt (f := len - s) (by omega) h hL
      have a2 := rn_le isL b len (len - s) s (by omega)
      exact ⟨h1, Nat.le_of_lt a1, a2, fun _ => Nat.lt_of_le_of_lt h1 a1, Or.inr a1, Nat.zero_le _, (show 1 ≤ 4 by decide)⟩
    | false =>
      cases hD : isD (b s) with
      | true =>
        rw [tk_2 hs h hL hD]
        have a1 := rn_gt (f := len - s) (by omega) h hD
        have a2 := rn_le isD b len (len - s) s (by omega)
        exact ⟨h1, Nat.le_of_lt a1, a2, fun _ => Nat.lt_of_le_of_lt h1 a1, Or.inr a1, vl_le _ _ _, (show 2 ≤ 4 by decide)⟩
      | false =>
        by_cases h9 : b s = 59
        · rw [tk_3 hs h hL hD h9]
          exact ⟨h1, Nat.le_succ s, h, fun _ => Nat.lt_succ_of_le h1, Or.inr (Nat.lt_succ_self s), Nat.zero_le _, (show 3 ≤ 4 by decide)⟩
        · rw [tk_4 hs h hL hD h9]
          exact ⟨h1, Nat.le_succ s, h, fun _ => Nat.lt_succ_of_le h1, Or.inr (Nat.lt_succ_self s), Nat.zero_le _, (show 4 ≤ 4 by decide)⟩
  · rw [tk_0 (by rw [hs]; exact h), hs]
    exact ⟨h1, Nat.le_refl _, h2, fun z => absurd rfl z, Or.inl rfl, Nat.zero_le _, (show 0 ≤ 4 by decide)⟩
/-- the first k bytes behind s are text o's -/
def eqS (b : Nat → Int) (s o : Nat) : Nat → Bool
  | 0 => true
  | k + 1 => eqS b s o k && decide (b (s + k) = mzSc o k)
def wl (o : Nat) : Nat := (mzStrT.getD o []).length
theorem wl_sl (o : Nat) : mzSl o = (wl o : Int) := rfl
theorem wl_le : ∀ o, o < 14 → 1 ≤ wl o ∧ wl o ≤ 7 := by decide +kernel
def isWd (b : Nat → Int) (t : TT) (o : Nat) : Bool := decide (t.1 = 1) && (decide (t.2.2.1 - t.2.1 = wl o) && eqS b t.2.1 o (wl o))
theorem eqS_mono {b : Nat → Int} {s o : Nat} : ∀ {k j : Nat}, eqS b s o k = true → j < k → b (s + j) = mzSc o j := by
  intro k
  induction k with
  | zero => intro j _ h; omega
  | succ k ih =>
    intro j h hj
    unfold eqS at h
    simp only [Bool.and_eq_true, decide_eq_true_eq] at h
    by_cases e : j = k
    · subst e; exact h.2
    · exact ih h.1 (by omega)
theorem eqS_not {b : Nat → Int} {s o k j : Nat} (hj : j < k) (h : b (s + j) ≠ mzSc o j) : eqS b s o k = false := by
  cases e : eqS b s o k with
  | false => rfl
  | true => exact absurd (eqS_mono e hj) h
theorem isWd_1 {b : Nat → Int} {t : TT} {o : Nat} (h : isWd b t o = true) : t.1 = 1 := by
  unfold isWd at h
  simp only [Bool.and_eq_true, decide_eq_true_eq] at h
  exact h.1
-- the reference
theorem wd_l {d : Nat} {q : Int → mzM → Prop} {b : Nat → Int} {len : Nat} {t : TT} {o : Nat} {μ : mzM} (ho : o < 14) (hl : len ≤ 120) (ht : TpM μ b len) (h8 : μ 0 8 = t.2.1) (he : t.2.1 + wl o ≤ len) (h : q (if eqS b t.2.1 o (wl o) = true then 1 else 0) μ) :
    ∀ (n k : Nat) (x3 : Int), k + n = wl o → x3 = k → eqS b t.2.1 o k = true → mzWp (d + 1) 14 39 [mzR 0, mzP 300 o, mzI 1, mzI x3] [] μ (mzQi q) := by
  intro n
  induction n with
  | zero =>
    intro k x3 hk h3 hE
    have : k = wl o := by omega
    subst this
    refine g14_39 _ _ _ _ ⟨fun z => absurd z (by decide), fun _ => ⟨ho, fun _ => ⟨or10, ?_⟩, fun z => ?_⟩⟩
    · rw [if_pos hE] at h; exact h
    · rw [wl_sl, h3] at z; omega
  | succ n ih =>
    intro k x3 hk h3 hE
    have ew : mzW (μ 0 8 + x3) = ((t.2.1 + k : Nat) : Int) := by rw [h8, h3, wid (by omega) (by omega)]; omega
    have eb : μ 4 (mzW (μ 0 8 + x3)).toNat = b (t.2.1 + k) := by rw [ew, Int.toNat_natCast]; exact ht.2 _ (by omega)
    have ek : x3.toNat = k := by omega
    have e1 : mzW (x3 + 1) = ((k + 1 : Nat) : Int) := by rw [h3, wid (by have := (wl_le o ho).2; omega) (by have := (wl_le o ho).2; omega)]; omega
    refine g14_39 _ _ _ _ ⟨fun z => absurd z (by decide), fun _ => ⟨ho, fun z => ?_, fun z => ⟨?_, ⟨ho, by omega, z⟩, fun z2 => ?_, fun z2 => ?_⟩⟩⟩
    · rw [wl_sl, h3] at z; omega
    · rw [ew]; omega
    · rw [eb, ek] at z2
      refine g14_39 _ _ _ _ ⟨fun _ => ⟨or00, ?_⟩, fun z => absurd rfl z⟩
      rw [if_neg (by rw [eqS_not (by omega) z2]; decide)] at h
      exact h
    · rw [eb, ek] at z2
      refine ih (k + 1) _ (by omega) e1 ?_
      unfold eqS
      rw [hE, z2]
      simp
theorem c_isWord {d : Nat} {q : Int → mzM → Prop} {b : Nat → Int} {len : Nat} {t : TT} {o : Nat} {μ : mzM} (ho : o < 14) (hl : len ≤ 120) (ht : TpM μ b len) (hk : TkM' μ t) (hse : t.2.1 ≤ t.2.2.1) (hel : t.2.2.1 ≤ len) (hb : μ 0 11 = 0) (h1 : isWd b t o = true → q 1 μ) (h0 : isWd b t o = false → q 0 μ) : mzCl (d + 1) 14 [mzR 0, mzP 300 o] μ (mzQi q) := by
  have stop : isWd b t o = false → mzWp (d + 1) 14 39 [mzR 0, mzP 300 o, mzI 0, mzI 0] [] μ (mzQi q) := fun e => g14_39 _ _ _ _ ⟨fun _ => ⟨or00, h0 e⟩, fun z => absurd rfl z⟩
  obtain ⟨k7, k8, k9, -⟩ := hk
  have ew : mzW (μ 0 9 - μ 0 8) = ((t.2.2.1 - t.2.1 : Nat) : Int) := by rw [k8, k9, wid (by omega) (by omega)]; omega
  refine g14_e _ _ ⟨fun z => absurd hb z, fun _ => ⟨fun z => stop ?_, fun z => ⟨ho, fun z2 => stop ?_, fun z2 => ?_⟩⟩⟩
  · unfold isWd
    rw [decide_eq_false (by rw [k7] at z; omega)]
    rfl
  · rw [ew, wl_sl] at z2
    unfold isWd
    rw [decide_eq_false (p := t.2.2.1 - t.2.1 = wl o) (by omega)]
    simp
  · rw [ew, wl_sl] at z2
    refine wd_l ho hl ht k8 (by omega) ?_ (wl o) 0 _ (by omega) rfl rfl
    have e : isWd b t o = eqS b t.2.1 o (wl o) := by
      unfold isWd
      rw [decide_eq_true (show t.1 = 1 by rw [k7] at z; omega), decide_eq_true (show t.2.2.1 - t.2.1 = wl o by omega)]
      rfl
    by_cases c : eqS b t.2.1 o (wl o) = true
    · rw [if_pos c]; exact h1 (by rw [e]; exact c)
    · rw [if_neg c]; exact h0 (by rw [e]; simpa using c)
/-- the sort of place that a token tells -/
def kd (b : Nat → Int) (t : TT) : Option Nat := if isWd b t 2 then some 0 else if isWd b t 3 then some 1 else if isWd b t 4 then some 2 else if isWd b t 5 then some 3 else if isWd b t 6 then some 4 else if isWd b t 7 then some 5 else if isWd b t 8 then some 6 else none
theorem c_kindHere {d : Nat} {q : Int → mzM → Prop} {b : Nat → Int} {len : Nat} {t : TT} {μ : mzM} (hl : len ≤ 120) (ht : TpM μ b len) (hk : TkM' μ t) (hse : t.2.1 ≤ t.2.2.1) (hel : t.2.2.1 ≤ len) (hb : μ 0 11 = 0) (h1 : ∀ k, kd b t = some k → q k μ) (h0 : kd b t = none → q (-1) μ) : mzCl (d + 2) 17 [mzR 0] μ (mzQi q) := by
  have W : ∀ {o : Nat} {q' : Int → mzM → Prop}, o < 14 → (isWd b t o = true → q' 1 μ) → (isWd b t o = false → q' 0 μ) → mzCl (d + 1) 14 [mzR 0, mzP 300 o] μ (mzQi q') := fun ho a1 a0 => c_isWord ho hl ht hk hse hel hb a1 a0
  refine g17_e _ (W (by omega) (fun w0 => ⟨fun z => absurd z (by decide), fun _ => h1 0 (by simp [kd, w0])⟩) (fun w0 => ⟨fun _ => ?_, fun z => absurd rfl z⟩))
  refine W (by omega) (fun w1 => ⟨fun z => absurd z (by decide), fun _ => h1 1 (by simp [kd, w0, w1])⟩) (fun w1 => ⟨fun _ => ?_, fun z => absurd rfl z⟩)
  refine W (by omega) (fun w2 => ⟨fun z => absurd z (by decide), fun _ => h1 2 (by simp [kd, w0, w1, w2])⟩) (fun w2 => ⟨fun _ => ?_, fun z => absurd rfl z⟩)
  refine W (by omega) (fun w3 => ⟨fun z => absurd z (by decide), fun _ => h1 3 (by simp [kd, w0, w1, w2, w3])⟩) (fun w3 => ⟨fun _ => ?_, fun z => absurd rfl z⟩)
  refine W (by omega) (fun w4 => ⟨fun z => absurd z (by decide), fun _ => h1 4 (by simp [kd, w0, w1, w2, w3, w4])⟩) (fun w4 => ⟨fun _ => ?_, fun z => absurd rfl z⟩)
  refine W (by omega) (fun w5 => ⟨fun z => absurd z (by decide), fun _ => h1 5 (by simp [kd, w0, w1, w2, w3, w4, w5])⟩) (fun w5 => ⟨fun _ => ?_, fun z => absurd rfl z⟩)
  exact W (by omega) (fun w6 => ⟨fun z => absurd z (by decide), fun _ => h1 6 (by simp [kd, w0, w1, w2, w3, w4, w5, w6])⟩) (fun w6 => ⟨fun _ => h0 (by simp [kd, w0, w1, w2, w3, w4, w5, w6]), fun z => absurd rfl z⟩)
