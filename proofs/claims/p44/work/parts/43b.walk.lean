/-! THE YEAR, GOING ON -/
theorem spS_0 (w : Wd) : ∀ k, spS w 0 k = 0 := by
  intro k
  induction k with
  | zero => rfl
  | succ k ih => unfold spS; rw [ih]; simp
/-- a year in which nothing moves -/
theorem yr_same' {w : Wd} {H : Nat → Int} {h : Nat} {st : St} (hy : YI (wN w) st) (e : ∀ p, p < wN w → o1b w H h 0 st p = (thS h 0 st).testBit p ∧ w1S w H h 0 st p = st.2.2 p) : yrS w H h 0 st = st := by
  have o : o1S w H h 0 st = st.1 := by
    unfold o1S
    refine Nat.eq_of_testBit_eq (fun i => ?_)
    rw [mk_bit]
    by_cases c : i < wN w
    · rw [decide_eq_true c, Bool.true_and, (e i c).1, th0]
    · rw [decide_eq_false c, Bool.false_and, bit_lt hy.1 (Nat.le_of_not_lt c)]
  have n0 : nd st.1 st.1 = 0 := by
    refine Nat.eq_of_testBit_eq (fun i => ?_)
    rw [nd_bit]
    simp
  have n1 : nd st.1 0 = st.1 := by
    refine Nat.eq_of_testBit_eq (fun i => ?_)
    rw [nd_bit]
    simp
  unfold yrS
  rw [o, n0, spS_0]
  refine Prod.ext n1 (Prod.ext (Nat.or_zero _) (funext fun p => ?_))
  show (if p < wN w then _ else _) = _
  by_cases hp : p < wN w
  · rw [if_pos hp, Nat.zero_testBit, if_neg (by decide), (e p hp).2]
  · rw [if_neg hp]
theorem k_walk {d p : Nat} {q : Int → mzM → Prop} {g v t : Int} {μ : mzM} (hp : p < 12) (ev : μ 22 p = v) (et : μ (52 + p) 3 = t)
    (h1 : g ≠ 0 → mzW (v + 1) ≤ t → q 1 (mzS μ 22 p (mzW (v + 1)))) (h2 : g ≠ 0 → t < mzW (v + 1) → q 1 (mzS (mzS μ 22 p (mzW (v + 1))) 16 7 (mzOr (μ 16 7) (mzShl 1 (p : Int)))))
    (h3 : g = 0 → v = 0 → q 0 (mzS μ 22 p 0)) (h4 : g = 0 → v ≠ 0 → q 1 (mzS μ 22 p 0)) : mzCl d 110 [mzR 16, mzI p, mzI g] μ (mzQi q) := by
  have pb : (0 : Int) ≤ (p : Int) ∧ (p : Int) < 12 := ⟨Int.natCast_nonneg _, Int.ofNat_lt.mpr hp⟩
  refine g110_e _ _ _ ?_
  rw [Int.toNat_natCast, ev, S_eq, S_ne (Or.inl (Nat.ne_of_gt (Nat.lt_of_lt_of_le (by decide : 22 < 52) (Nat.le_add_right 52 p)))), et]
  exact ⟨pb, fun z => ⟨pb, pb, pb, pb, ⟨hp, by decide, by decide⟩, fun y => ⟨or10, h1 z y⟩, fun y => ⟨or10, h2 z y⟩⟩, fun z => ⟨pb, fun y => ⟨or00, h3 z y⟩, fun y => ⟨or10, h4 z y⟩⟩⟩
theorem nAndP {a p : Nat} (ha : a < 4096) (hp : p < 12) : (mzAnd (a : Int) (mzShl 1 (p : Int)) = 0 → a.testBit p = false) ∧ (mzAnd (a : Int) (mzShl 1 (p : Int)) ≠ 0 → a.testBit p = true) := by
  have := nAndPow0 (a := a) (p := p) (by omega) (by omega)
  refine ⟨this.mp, fun h => ?_⟩
  cases c : a.testBit p with
  | true => rfl
  | false => exact absurd (this.mpr c) h
