/-! THE CLASS'S YEARS: survey, gets, goes, falls -/
def EF (μ μ' : mzM) : Prop := ∀ k j, k ≠ 16 → k ≠ 17 → k ≠ 18 → k ≠ 19 → k ≠ 22 → (k < 124 ∨ 147 < k) → μ' k j = μ k j
theorem EF.rf {μ : mzM} : EF μ μ := fun _ _ _ _ _ _ _ _ => rfl
theorem EF.tr {μ μ' μ'' : mzM} (h : EF μ μ') (h2 : EF μ' μ'') : EF μ μ'' := fun a b h1 h3 h4 h5 h6 h7 => (h2 a b h1 h3 h4 h5 h6 h7).trans (h a b h1 h3 h4 h5 h6 h7)
theorem EF.st {μ μ' : mzM} {k j : Nat} {v : Int} (h : EF μ μ') (hs : k = 16 ∨ k = 17 ∨ k = 18 ∨ k = 19 ∨ k = 22 ∨ (124 ≤ k ∧ k ≤ 147)) : EF μ (mzS μ' k j v) := fun a b h1 h2 h3 h4 h5 h6 => by
  rw [S_ne (by omega)]
  exact h a b h1 h2 h3 h4 h5 h6
theorem EF.fc {μ μ' : mzM} (f : EF μ μ') : FC μ μ' := fun k j h => f k j (fun c => h (by unfold scC; omega)) (fun c => h (by unfold scC; omega)) (fun c => h (by unfold scC; omega)) (fun c => h (by unfold scC; omega)) (fun c => h (by unfold scC; omega)) (by unfold scC at h; omega)
theorem EF.cw {μ μ' : mzM} {w : Wd} (f : EF μ μ') (hN : wN w ≤ 12) (C : CW μ 0 w) : CW μ' 0 w := C.cg hN fun k i hk => by
  unfold isW at hk
  exact f k i (by omega) (by omega) (by omega) (by omega) (by omega) (by omega)
/-- a beginning and years -/
def NF (μ μ' : mzM) : Prop := ∀ k j, k ≠ 16 → k ≠ 22 → μ' k j = μ k j
theorem NF.rf {μ : mzM} : NF μ μ := fun _ _ _ _ => rfl
theorem NF.tr {μ μ' μ'' : mzM} (h : NF μ μ') (h2 : NF μ' μ'') : NF μ μ'' := fun a b h1 h3 => (h2 a b h1 h3).trans (h a b h1 h3)
theorem NF.ef {μ μ' : mzM} (f : NF μ μ') : EF μ μ' := fun k j h1 _ _ _ h5 _ => f k j h1 h5
/-- a year -/
def ZF (μ μ' : mzM) : Prop := ∀ k j, k ≠ 22 → (k ≠ 16 ∨ (j ≠ 7 ∧ j ≠ 8)) → μ' k j = μ k j
theorem ZF.rf {μ : mzM} : ZF μ μ := fun _ _ _ _ => rfl
theorem ZF.tr {μ μ' μ'' : mzM} (h : ZF μ μ') (h2 : ZF μ' μ'') : ZF μ μ'' := fun a b h1 h3 => (h2 a b h1 h3).trans (h a b h1 h3)
theorem ZF.st {μ μ' : mzM} {k j : Nat} {v : Int} (h : ZF μ μ') (hs : k = 22 ∨ (k = 16 ∧ (j = 7 ∨ j = 8))) : ZF μ (mzS μ' k j v) := fun a b h1 h2 => by
  rw [S_ne (by omega)]
  exact h a b h1 h2
theorem ZF.nf {μ μ' : mzM} (f : ZF μ μ') : NF μ μ' := fun k j h1 h2 => f k j h2 (by omega)
/-- how many of the first f give to t -/
def cg (P : Nat → Nat → Int) (t : Nat) : Nat → Nat
  | 0 => 0
  | f + 1 => cg P t f + if 0 < P f t then 1 else 0
theorem cg_le (P : Nat → Nat → Int) (t : Nat) : ∀ f, cg P t f ≤ f := by
  intro f
  induction f with
  | zero => exact Nat.le_refl _
  | succ f ih => unfold cg; split <;> omega
theorem cg_mono (P : Nat → Nat → Int) (t f : Nat) : ∀ k, cg P t f ≤ cg P t (f + k) := by
  intro k
  induction k with
  | zero => exact Nat.le_refl _
  | succ k ih =>
    have : cg P t (f + (k + 1)) = cg P t (f + k) + if 0 < P (f + k) t then 1 else 0 := rfl
    rw [this]
    omega
theorem cg_lt (P : Nat → Nat → Int) (t : Nat) {f n : Nat} (hf : f < n) (h : 0 < P f t) : cg P t f < cg P t n := by
  have h1 := cg_mono P t (f + 1) (n - (f + 1))
  rw [show f + 1 + (n - (f + 1)) = n by omega] at h1
  have : cg P t (f + 1) = cg P t f + if 0 < P f t then 1 else 0 := rfl
  rw [if_pos h] at this
  omega
def gvS (P : Nat → Nat → Int) (t n : Nat) : Nat := mk n (fun j => decide (0 < P j t))
theorem gvS_s (P : Nat → Nat → Int) (t n : Nat) : gvS P t (n + 1) = gvS P t n ||| if 0 < P n t then 2 ^ n else 0 := by
  show mk n _ ||| (if decide (0 < P n t) = true then 2 ^ n else 0) = _
  by_cases c : 0 < P n t
  · rw [if_pos c, if_pos (decide_eq_true c)]; rfl
  · rw [if_neg c, if_neg (by rw [decide_eq_false c]; decide)]; rfl
/-- the ties to t, closed up, as far as from f -/
def GT (μ : mzM) (w : Wd) (t f : Nat) : Prop := ∀ j, j < f → 0 < wP w j t → μ (124 + t) (cg (wP w) t j) = j ∧ μ (136 + t) (cg (wP w) t j) = wP w j t
def GM (μ : mzM) (w : Wd) : Prop := ∀ t, t < wN w → μ 19 t = (cg (wP w) t (wN w) : Nat) ∧ μ 18 t = (gvS (wP w) t (wN w) : Nat) ∧ GT μ w t (wN w)
def HC (μ : mzM) (n : Nat) (H : Nat → Int) : Prop := ∀ p, p < n → μ 17 p = H p
theorem GM.cg {μ μ' : mzM} {w : Wd} (h : GM μ w) (hN : wN w ≤ 12) (e : ∀ k j, (k = 18 ∨ k = 19 ∨ (124 ≤ k ∧ k ≤ 147)) → μ' k j = μ k j) : GM μ' w := fun t ht => by
  obtain ⟨h1, h2, h3⟩ := h t ht
  exact ⟨by rw [e _ _ (by omega)]; exact h1, by rw [e _ _ (by omega)]; exact h2, fun j hj hp => ⟨by rw [e _ _ (by omega)]; exact (h3 j hj hp).1, by rw [e _ _ (by omega)]; exact (h3 j hj hp).2⟩⟩
theorem NF.gm {μ μ' : mzM} {w : Wd} (f : NF μ μ') (hN : wN w ≤ 12) (h : GM μ w) : GM μ' w := h.cg hN fun k j hk => f k j (by omega) (by omega)
theorem NF.hc {μ μ' : mzM} {n : Nat} {H : Nat → Int} (f : NF μ μ') (h : HC μ n H) : HC μ' n H := fun p hp => by rw [f 17 p (by omega) (by omega)]; exact h p hp
theorem k_gets {d : Nat} {q : Int → mzM → Prop} {p s : Nat} {μ : mzM} {w : Wd} (hW : WOk w) (G : GM μ w) (hp : p < wN w) (hs : s < 4096) (h : q (gtS (wP w) p s (wN w)) μ) : mzCl d 112 [mzR 16, mzI p, mzI s] μ (mzQi q) := by
  have hN := hW.1
  obtain ⟨g1, g2, g3⟩ := G p hp
  have cb := cg_le (wP w) p (wN w)
  have L : ∀ (c f : Nat) (x3 x4 : Int), f + c = wN w → x4 = (cg (wP w) p f : Nat) → x3 = gtS (wP w) p s f → mzWp d 112 5 [mzR 16, mzI p, mzI s, mzI x3, mzI x4] [] μ (mzQi q) := by
    intro c
    induction c with
    | zero =>
      intro f x3 x4 hf h4 h3
      have : f = wN w := by omega
      subst this
      refine g112_5 _ _ _ _ _ ⟨by omega, ?_⟩
      rw [Int.toNat_natCast, g1]
      exact ⟨fun _ => by rw [h3]; exact h, fun z => by omega⟩
    | succ c ih =>
      intro f x3 x4 hf h4 h3
      have gb := gtS_bd hW.2.2.2.2.2.1 p s f
      have pb := hW.2.2.2.2.2.1 f p
      by_cases c0 : 0 < wP w f p
      · have lt := cg_lt (wP w) p (show f < wN w by omega) c0
        have es : cg (wP w) p (f + 1) = cg (wP w) p f + 1 := by
          show cg (wP w) p f + (if 0 < wP w f p then 1 else 0) = _
          rw [if_pos c0]
        obtain ⟨t1, t2⟩ := g3 f (by omega) c0
        have ew : mzW (x4 + 1) = (cg (wP w) p (f + 1) : Nat) := by rw [h4, w1 (by omega), es]
        have h4' : x4.toNat = cg (wP w) p f := by omega
        refine g112_5 _ _ _ _ _ ⟨by omega, ?_⟩
        rw [Int.toNat_natCast, g1, h4', t1, t2, ew]
        refine ⟨fun z => by omega, fun _ => ⟨by omega, ⟨by omega, by omega, by omega⟩, ?_⟩⟩
        refine ⟨fun z => ih (f + 1) _ _ (by omega) rfl ?_, fun z => ⟨by omega, ⟨by omega, by omega, by omega⟩, ih (f + 1) _ _ (by omega) rfl ?_⟩⟩
        · rw [nBit0 (by omega) (by omega)] at z
          rw [gtS, z, if_neg (by decide), h3, Int.add_zero]
        · rw [nBit1 (by omega) (by omega)] at z
          rw [gtS, if_pos z, h3, wid (by omega) (by omega)]
      · have es : cg (wP w) p (f + 1) = cg (wP w) p f := by
          show cg (wP w) p f + (if 0 < wP w f p then 1 else 0) = _
          rw [if_neg c0, Nat.add_zero]
        refine ih (f + 1) x3 x4 (by omega) (by rw [es]; exact h4) ?_
        rw [h3, gtS]
        split <;> omega
  exact g112_e _ _ _ (L (wN w) 0 0 0 (by omega) rfl rfl)
/-- company, counted by bits -/
theorem cnt_co {w : Wd} (hW : WOk w) (p s : Nat) : ∀ k, cnt (s &&& gvS (wP w) p (wN w)) k = coS (wP w) p s k := by
  intro k
  induction k with
  | zero => rfl
  | succ k ih =>
    unfold cnt coS
    rw [ih, Nat.testBit_and]
    unfold gvS
    rw [mk_bit]
    congr 1
    by_cases c : k < wN w
    · rw [decide_eq_true c, Bool.true_and]
      by_cases c2 : 0 < wP w k p <;> cases s.testBit k <;> simp [c2]
    · have e := hW.2.2.2.2.2.2.1 k p (Or.inl (by omega))
      rw [decide_eq_false c, e]
      simp
theorem coS_n {w : Wd} (hW : WOk w) (p s : Nat) : ∀ c, coS (wP w) p s (wN w + c) = coS (wP w) p s (wN w) := by
  intro c
  induction c with
  | zero => rfl
  | succ c ih =>
    have e := hW.2.2.2.2.2.2.1 (wN w + c) p (Or.inl (by omega))
    have : coS (wP w) p s (wN w + (c + 1)) = coS (wP w) p s (wN w + c) + if s.testBit (wN w + c) = true ∧ 0 < wP w (wN w + c) p then 1 else 0 := rfl
    rw [this, e, ih]
    simp
theorem k_goes {d : Nat} {q : Int → mzM → Prop} {p s : Nat} {H : Nat → Int} {μ : mzM} {w : Wd} (hW : WOk w) (C : CW μ 0 w) (G : GM μ w) (hp : p < wN w) (hs : s < 4096) (hH : μ 17 p = H p) (h : q (if goS w H p s = true then 1 else 0) μ) : mzCl (d + 1) 113 [mzR 16, mzI p, mzI s] μ (mzQi q) := by
  have hN := hW.1
  unfold goS at h
  refine g113_e _ _ _ (k_gets hW G hp hs ⟨by omega, ?_⟩)
  rw [Int.toNat_natCast, hH, C.T hp (by omega), (G p hp).2.1]
  refine ⟨fun z => ⟨by omega, ⟨by omega, by omega, by omega⟩, ?_⟩, fun z => ⟨or00, ?_⟩⟩
  · rw [decide_eq_true (by omega), Bool.true_and] at h
    refine ⟨fun z2 => ⟨or10, ?_⟩, fun z2 => ⟨by omega, ?_⟩⟩
    · rw [decide_eq_true z2, Bool.true_or, if_pos rfl] at h; exact h
    · rw [nAnd (by omega)]
      have e : cnt (s &&& gvS (wP w) p (wN w)) 12 = coS (wP w) p s (wN w) := by
        rw [cnt_co hW]
        have := coS_n hW p s (12 - wN w)
        rw [show wN w + (12 - wN w) = 12 by omega] at this
        exact this
      refine k_bitCount (Nat.lt_of_le_of_lt Nat.and_le_left hs) ?_
      rw [e]
      refine ⟨fun z3 => ⟨or00, ?_⟩, fun z3 => ⟨or10, ?_⟩⟩
      · rw [decide_eq_false (fun c => c z2), Bool.false_or, decide_eq_false (by omega), if_neg (by decide)] at h; exact h
      · rw [decide_eq_false (fun c => c z2), Bool.false_or, decide_eq_true (by omega), if_pos rfl] at h; exact h
  · rw [decide_eq_false (by omega), Bool.false_and, if_neg (by decide)] at h; exact h
theorem k_falls {d : Nat} {q : Int → mzM → Prop} {p s : Nat} {μ : mzM} {w : Wd} (hW : WOk w) (C : CW μ 0 w) (G : GM μ w) (hp : p < wN w) (hs : s < 4096) (h : q (if faS w p s = true then 1 else 0) μ) : mzCl (d + 1) 114 [mzR 16, mzI p, mzI s] μ (mzQi q) := by
  have hN := hW.1
  unfold faS at h
  have t3 : ∀ t : Int, 0 ≤ t → t < 9 → ((p : Int).toNat < 12 ∧ 0 ≤ t ∧ t < 9) := fun t h1 h2 => ⟨by omega, h1, h2⟩
  refine g114_e _ _ _ ?_
  rw [Int.toNat_natCast, C.T hp (by omega)]
  refine ⟨by omega, ⟨by omega, by omega, by omega⟩, fun z => ?_, fun z => ⟨fun z2 => ?_, fun z2 => ⟨or00, ?_⟩⟩⟩
  · refine k_gets hW G hp hs ⟨⟨by omega, by omega, by omega⟩, ?_⟩
    rw [C.T hp (by omega)]
    refine ⟨fun z2 => ⟨or00, ?_⟩, fun z2 => ⟨or10, ?_⟩⟩
    · rw [decide_eq_false (by omega), if_neg (by decide)] at h; exact h
    · rw [decide_eq_true ⟨Or.inl z, z2⟩, if_pos rfl] at h; exact h
  · rw [C.T hp (by omega)]
    refine ⟨⟨by omega, by omega, by omega⟩, fun z3 => ⟨or00, ?_⟩, fun z3 => k_gets hW G hp hs ⟨⟨by omega, by omega, by omega⟩, ?_⟩⟩
    · rw [decide_eq_false (by omega), if_neg (by decide)] at h; exact h
    · rw [C.T hp (by omega)]
      refine ⟨fun z4 => ⟨or00, ?_⟩, fun z4 => ⟨or10, ?_⟩⟩
      · rw [decide_eq_false (by omega), if_neg (by decide)] at h; exact h
      · rw [decide_eq_true ⟨Or.inr ⟨z2, z3⟩, z4⟩, if_pos rfl] at h; exact h
  · rw [decide_eq_false (by omega), if_neg (by decide)] at h; exact h
