/-! THE YEARS: what both sides reckon -/
/-- the set of those below k that f takes -/
def mk : Nat → (Nat → Bool) → Nat
  | 0, _ => 0
  | k + 1, f => mk k f ||| if f k = true then 2 ^ k else 0
theorem mk_bit (n : Nat) (f : Nat → Bool) (p : Nat) : (mk n f).testBit p = (decide (p < n) && f p) := by
  induction n with
  | zero => unfold mk; simp
  | succ n ih =>
    unfold mk
    rw [Nat.testBit_or, ih]
    by_cases e : p = n
    · subst e
      cases h : f p
      · simp [h]
      · simp [h, Nat.testBit_two_pow_self]
    · cases h : f n
      · simp [h]
        by_cases c : p < n
        · simp [c, Nat.lt_succ_of_lt c]
        · simp [c, show ¬ p < n + 1 by omega]
      · rw [if_pos rfl, Nat.testBit_two_pow]
        have : decide (n = p) = false := decide_eq_false (fun z => e z.symm)
        rw [this, Bool.or_false]
        by_cases c : p < n
        · simp [c, Nat.lt_succ_of_lt c]
        · simp [c, show ¬ p < n + 1 by omega]
theorem mk_lt (n : Nat) (f : Nat → Bool) : mk n f < 2 ^ n := by
  refine Nat.lt_pow_two_of_testBit _ (fun i hi => ?_)
  rw [mk_bit, decide_eq_false (by omega)]
  rfl
theorem mk_cg {n : Nat} {f g : Nat → Bool} (h : ∀ p, p < n → f p = g p) : mk n f = mk n g := by
  refine Nat.eq_of_testBit_eq (fun i => ?_)
  rw [mk_bit, mk_bit]
  by_cases c : i < n
  · rw [h i c]
  · simp [c]
theorem nd_lt {a b m : Nat} (h : a < m) : nd a b < m := Nat.lt_of_le_of_lt (nd_le a b) h
theorem hB_mk (T : Nat → Nat → Int) (n : Nat) : hB T n = mk n (fun p => decide (T p 9 ≠ 0)) := by
  induction n with
  | zero => rfl
  | succ n ih =>
    unfold hB mk
    rw [ih]
    by_cases c : T n 9 = 0 <;> simp [c]
theorem hB_lt (T : Nat → Nat → Int) (n : Nat) : hB T n < 2 ^ n := by rw [hB_mk]; exact mk_lt _ _
theorem bit_lt {a n i : Nat} (h : a < 2 ^ n) (hi : n ≤ i) : a.testBit i = false := Nat.testBit_lt_two_pow (Nat.lt_of_lt_of_le h (Nat.pow_le_pow_right (by omega) hi))
/-- what p gets of those in s -/
def gtS (P : Nat → Nat → Int) (p s : Nat) : Nat → Int
  | 0 => 0
  | k + 1 => gtS P p s k + if s.testBit k = true then P k p else 0
theorem gtS_bd {P : Nat → Nat → Int} (h : ∀ f t, 0 ≤ P f t ∧ P f t ≤ 99) (p s : Nat) : ∀ k, 0 ≤ gtS P p s k ∧ gtS P p s k ≤ 99 * k := by
  intro k
  induction k with
  | zero => exact ⟨Int.le_refl _, by unfold gtS; omega⟩
  | succ k ih =>
    unfold gtS
    have := h k p
    split <;> omega
/-- how many of those in s give to p -/
def coS (P : Nat → Nat → Int) (p s : Nat) : Nat → Nat
  | 0 => 0
  | k + 1 => coS P p s k + if s.testBit k = true ∧ 0 < P k p then 1 else 0
theorem coS_le (P : Nat → Nat → Int) (p s : Nat) : ∀ k, coS P p s k ≤ k := by
  intro k
  induction k with
  | zero => exact Nat.le_refl _
  | succ k ih => unfold coS; split <;> omega
/-- a place's height with some bar -/
def heS (w : Wd) (p : Nat) (bar : Int) : Int := if wT w p 0 = 6 then (if bar / 2 < 1 then 1 else bar / 2) else if wT w p 0 = 5 then (if bar - 10 * wT w p 8 < 1 then 1 else bar - 10 * wT w p 8) else (if bar < 1 then 1 else bar)
def goS (w : Wd) (H : Nat → Int) (p s : Nat) : Bool := decide (H p ≤ gtS (wP w) p s (wN w)) && (decide (wT w p 0 ≠ 3) || decide (1 < coS (wP w) p s (wN w)))
def faS (w : Wd) (p s : Nat) : Bool := decide ((wT w p 0 = 2 ∨ (wT w p 0 = 5 ∧ wT w p 8 = 0)) ∧ gtS (wP w) p s (wN w) < wT w p 2)
abbrev St : Type := Nat × Nat × (Nat → Int)
def thS (h pu : Nat) (st : St) : Nat := st.1 ||| nd (nd pu h) st.2.1
def nwS (w : Wd) (H : Nat → Int) (h pu : Nat) (st : St) (p : Nat) : Int := if goS w H p (thS h pu st) = true then mzW (st.2.2 p + 1) else 0
/-- who is over behind the walk, who is on which way -/
def o1b (w : Wd) (H : Nat → Int) (h pu : Nat) (st : St) (p : Nat) : Bool := if (thS h pu st).testBit p = true then pu.testBit p || !faS w p (thS h pu st) else !(h ||| st.2.1).testBit p && decide (wT w p 3 < nwS w H h pu st p)
def o1S (w : Wd) (H : Nat → Int) (h pu : Nat) (st : St) : Nat := mk (wN w) (o1b w H h pu st)
def w1S (w : Wd) (H : Nat → Int) (h pu : Nat) (st : St) (p : Nat) : Int := if (thS h pu st).testBit p = true then (if (pu.testBit p || !faS w p (thS h pu st)) = true then st.2.2 p else 0) else if (h ||| st.2.1).testBit p = true then st.2.2 p else nwS w H h pu st p
/-- who is spoilt by those who came -/
def spS (w : Wd) (came : Nat) : Nat → Nat
  | 0 => 0
  | k + 1 => spS w came k ||| if wT w k 0 = 4 ∧ came.testBit k = true ∧ 0 ≤ wT w k 7 then 2 ^ (wT w k 7).toNat else 0
def yrS (w : Wd) (H : Nat → Int) (h pu : Nat) (st : St) : St := (nd (o1S w H h pu st) (spS w (nd (o1S w H h pu st) st.1) (wN w)), st.2.1 ||| spS w (nd (o1S w H h pu st) st.1) (wN w), fun p => if p < wN w then (if (spS w (nd (o1S w H h pu st) st.1) (wN w)).testBit p = true then 0 else w1S w H h pu st p) else st.2.2 p)
def ysS (w : Wd) (H : Nat → Int) (h : Nat) (pus : Nat → Nat) : Nat → St → St
  | 0, st => st
  | k + 1, st => yrS w H h (pus k) (ysS w H h pus k st)
def st0 : St := (0, 0, fun _ => 0)
def stS (w : Wd) (H : Nat → Int) (h set : Nat) : Nat := (ysS w H h (fun y => if y = 0 then set else 0) 24 st0).1
abbrev H0 (w : Wd) (p : Nat) : Int := heS w p (wT w p 1)
abbrev hw (w : Wd) : Nat := hB (wT w) (wN w)
/-- what always holds of a year's beginning -/
def YI (n : Nat) (st : St) : Prop := st.1 < 2 ^ n ∧ st.2.1 < 2 ^ n ∧ (∀ p, st.2.1.testBit p = true → st.1.testBit p = false) ∧ ∀ p, p < n → st.2.1.testBit p = true → st.2.2 p = 0
theorem st0_ok (n : Nat) : YI n st0 := ⟨Nat.pow_pos (by omega), Nat.pow_pos (by omega), fun p h => absurd h (by simp [st0]), fun p _ h => absurd h (by simp [st0])⟩
theorem spS_lt {w : Wd} (hW : WOk w) (came : Nat) : ∀ k, k ≤ wN w → spS w came k < 2 ^ wN w := by
  intro k
  induction k with
  | zero => intro _; exact Nat.pow_pos (by omega)
  | succ k ih =>
    intro hk
    unfold spS
    refine Nat.or_lt_two_pow (ih (by omega)) ?_
    split
    · rename_i c
      have := (hW.2.2.2.2.1 k (by omega) 7 (by omega)).2
      have e : thi (wN w) 7 = (wN w : Int) - 1 := by simp [thi]
      exact Nat.pow_lt_pow_right (by omega) (by omega)
    · exact Nat.pow_pos (by omega)
theorem yrS_ok {w : Wd} {H : Nat → Int} {h pu : Nat} {st : St} (hW : WOk w) (hy : YI (wN w) st) : YI (wN w) (yrS w H h pu st) := by
  obtain ⟨y1, y2, y3, y4⟩ := hy
  refine ⟨nd_lt (mk_lt _ _), Nat.or_lt_two_pow y2 (spS_lt hW _ _ (Nat.le_refl _)), fun p hp => ?_, fun p hn hp => ?_⟩
  · show (nd _ _).testBit p = false
    have hp2 : (st.2.1 ||| spS w (nd (o1S w H h pu st) st.1) (wN w)).testBit p = true := hp
    rw [nd_bit]
    rw [Nat.testBit_or] at hp2
    cases hs : (spS w (nd (o1S w H h pu st) st.1) (wN w)).testBit p with
    | true => simp
    | false =>
      rw [hs, Bool.or_false] at hp2
      have e : o1b w H h pu st p = false := by
        unfold o1b
        have : (thS h pu st).testBit p = false := by
          unfold thS
          rw [Nat.testBit_or, nd_bit, y3 p hp2, hp2]
          simp
        rw [this, Nat.testBit_or, hp2]
        simp
      unfold o1S
      rw [mk_bit, e]
      simp
  · show (if p < wN w then _ else _) = (0 : Int)
    have hp2 : (st.2.1 ||| spS w (nd (o1S w H h pu st) st.1) (wN w)).testBit p = true := hp
    rw [if_pos hn]
    rw [Nat.testBit_or] at hp2
    by_cases hs : (spS w (nd (o1S w H h pu st) st.1) (wN w)).testBit p = true
    · rw [if_pos hs]
    · rw [if_neg hs]
      have hd : st.2.1.testBit p = true := by simpa [hs] using hp2
      have : (thS h pu st).testBit p = false := by
        unfold thS
        rw [Nat.testBit_or, nd_bit, y3 p hd, hd]
        simp
      unfold w1S
      rw [this, if_neg (by decide), if_pos (by rw [Nat.testBit_or, hd]; simp)]
      exact y4 p hn hd
theorem ysS_ok {w : Wd} {H : Nat → Int} {h : Nat} {pus : Nat → Nat} (hW : WOk w) {st : St} (hy : YI (wN w) st) : ∀ k, YI (wN w) (ysS w H h pus k st) := by
  intro k
  induction k with
  | zero => exact hy
  | succ k ih => exact yrS_ok hW ih
theorem stS_lt {w : Wd} {H : Nat → Int} {h set : Nat} (hW : WOk w) : stS w H h set < 2 ^ wN w := (ysS_ok hW (st0_ok _) 24).1
