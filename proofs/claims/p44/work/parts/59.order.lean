/-! ORDERS: codes and what is tried -/
def fdF (f : Nat → Int × Int → Int × Int) : Nat → Int × Int → Int × Int
  | 0, S => S
  | p + 1, S => f p (fdF f p S)
theorem fd_cg {f g : Nat → Int × Int → Int × Int} : ∀ n, (∀ p, p < n → ∀ S, f p S = g p S) → ∀ S, fdF f n S = fdF g n S := by
  intro n
  induction n with
  | zero => intro _ S; rfl
  | succ n ih =>
    intro h S
    show f n (fdF f n S) = g n (fdF g n S)
    rw [ih (fun p hp => h p (Nat.lt_succ_of_lt hp)), h n (Nat.lt_succ_self n)]
theorem fd_id {f : Nat → Int × Int → Int × Int} : ∀ n, (∀ p, p < n → ∀ S, f p S = S) → ∀ S, fdF f n S = S := by
  intro n
  induction n with
  | zero => intro _ S; rfl
  | succ n ih =>
    intro h S
    show f n (fdF f n S) = S
    rw [h n (Nat.lt_succ_self n), ih (fun p hp => h p (Nat.lt_succ_of_lt hp))]
theorem fd_add (f : Nat → Int × Int → Int × Int) (x : Nat) (S : Int × Int) : ∀ y, fdF f (x + y) S = fdF (fun c => f (x + c)) y (fdF f x S) := by
  intro y
  induction y with
  | zero => rfl
  | succ y ih =>
    show f (x + y) (fdF f (x + y) S) = f (x + y) (fdF (fun c => f (x + c)) y (fdF f x S))
    rw [ih]
theorem fd_mul (f : Nat → Int × Int → Int × Int) (b : Nat) (S : Int × Int) : ∀ a, fdF f (a * b) S = fdF (fun p S => fdF (fun c => f (p * b + c)) b S) a S := by
  intro a
  induction a with
  | zero => rw [Nat.zero_mul]; rfl
  | succ a ih =>
    rw [Nat.succ_mul, fd_add, ih]
    rfl
/-- the set of the k lowest digits -/
def dsF : Nat → Nat → Nat
  | 0, _ => 0
  | k + 1, c => 2 ^ (c % 12) ||| dsF k (c / 12)
/-- who is pushed in year y by the k lowest digits, the lowest the last -/
def opF (gap y : Nat) : Nat → Nat → Nat
  | 0, _ => 0
  | k + 1, c => (if k * gap = y then 2 ^ (c % 12) else 0) ||| opF gap y k (c / 12)
theorem ds_split (N : Nat) : ∀ (k c t : Nat), c < 12 ^ k → dsF (k + t) (N * 12 ^ k + c) = dsF k c ||| dsF t N := by
  intro k
  induction k with
  | zero =>
    intro c t hc
    have : c = 0 := by rw [Nat.pow_zero] at hc; omega
    subst this
    rw [Nat.pow_zero, Nat.mul_one, Nat.add_zero, Nat.zero_add]
    show dsF t N = 0 ||| dsF t N
    rw [Nat.zero_or]
  | succ k ih =>
    intro c t hc
    have e1 : N * 12 ^ (k + 1) + c = 12 * (N * 12 ^ k) + c := by rw [Nat.pow_succ, ← Nat.mul_assoc, Nat.mul_comm]
    have e2 : (N * 12 ^ (k + 1) + c) % 12 = c % 12 := by rw [e1]; omega
    have e3 : (N * 12 ^ (k + 1) + c) / 12 = N * 12 ^ k + c / 12 := by rw [e1]; omega
    have hc2 : c / 12 < 12 ^ k := by rw [Nat.pow_succ] at hc; omega
    rw [show k + 1 + t = (k + t) + 1 by omega]
    show 2 ^ ((N * 12 ^ (k + 1) + c) % 12) ||| dsF (k + t) ((N * 12 ^ (k + 1) + c) / 12) = (2 ^ (c % 12) ||| dsF k (c / 12)) ||| dsF t N
    rw [e2, e3, ih _ _ hc2, Nat.or_assoc]
theorem cnt_sub {a b : Nat} (h : ∀ i, a.testBit i = true → b.testBit i = true) : ∀ k, cnt a k ≤ cnt b k := by
  intro k
  induction k with
  | zero => exact Nat.le_refl _
  | succ k ih =>
    show cnt a k + (if a.testBit k = true then 1 else 0) ≤ cnt b k + (if b.testBit k = true then 1 else 0)
    have := h k
    cases ha : a.testBit k with
    | false => exact Nat.le_trans ih (Nat.le_add_right _ _)
    | true => rw [this ha]; exact Nat.add_le_add_right ih _
theorem cnt_or (a j : Nat) : ∀ k, cnt (2 ^ j ||| a) k ≤ cnt a k + (if j < k then 1 else 0) := by
  intro k
  induction k with
  | zero => exact Nat.le_refl _
  | succ k ih =>
    show cnt (2 ^ j ||| a) k + (if (2 ^ j ||| a).testBit k = true then 1 else 0) ≤ cnt a k + (if a.testBit k = true then 1 else 0) + (if j < k + 1 then 1 else 0)
    rw [Nat.testBit_or, Nat.testBit_two_pow]
    by_cases c : j = k
    · rw [decide_eq_true c, Bool.true_or, if_pos (show j < k + 1 by omega)]
      rw [if_neg (show ¬ j < k by omega)] at ih
      have : (if true = true then 1 else 0 : Nat) = 1 := rfl
      omega
    · rw [decide_eq_false c, Bool.false_or]
      by_cases c2 : j < k
      · rw [if_pos c2] at ih
        rw [if_pos (show j < k + 1 by omega)]
        omega
      · rw [if_neg c2] at ih
        rw [if_neg (show ¬ j < k + 1 by omega)]
        omega
theorem cnt_ds : ∀ (k c : Nat), cnt (dsF k c) 12 ≤ k := by
  intro k
  induction k with
  | zero => intro c; exact Nat.le_of_eq (by show cnt 0 12 = 0; decide)
  | succ k ih =>
    intro c
    have h1 := cnt_or (dsF k (c / 12)) (c % 12) 12
    have h2 := ih (c / 12)
    show cnt (2 ^ (c % 12) ||| dsF k (c / 12)) 12 ≤ k + 1
    split at h1 <;> omega
theorem cnt_nd {a j : Nat} (hj : a.testBit j = true) : ∀ k, cnt (nd a (2 ^ j)) k + (if j < k then 1 else 0) = cnt a k := by
  intro k
  induction k with
  | zero => rfl
  | succ k ih =>
    show cnt (nd a (2 ^ j)) k + (if (nd a (2 ^ j)).testBit k = true then 1 else 0) + (if j < k + 1 then 1 else 0) = cnt a k + (if a.testBit k = true then 1 else 0)
    rw [nd_bit, Nat.testBit_two_pow]
    by_cases c : j = k
    · rw [if_neg (show ¬ j < k by omega)] at ih
      rw [decide_eq_true c, if_pos (show j < k + 1 by omega), ← c, hj]
      rw [← c] at ih
      have e1 : (if (true && !true) = true then 1 else 0 : Nat) = 0 := rfl
      have e2 : (if true = true then 1 else 0 : Nat) = 1 := rfl
      omega
    · rw [decide_eq_false c]
      have e1 : (a.testBit k && !false) = a.testBit k := by simp
      rw [e1]
      by_cases c2 : j < k
      · rw [if_pos c2] at ih
        rw [if_pos (show j < k + 1 by omega)]
        omega
      · rw [if_neg c2] at ih
        rw [if_neg (show ¬ j < k + 1 by omega)]
        omega
theorem cnt_pos {a i : Nat} (h : a.testBit i = true) : ∀ k, i < k → 0 < cnt a k := by
  intro k
  induction k with
  | zero => intro hi; omega
  | succ k ih =>
    intro hi
    show 0 < cnt a k + (if a.testBit k = true then 1 else 0)
    by_cases c : i = k
    · rw [← c, h]; exact Nat.lt_of_lt_of_le (by decide) (Nat.le_add_left 1 _)
    · exact Nat.lt_of_lt_of_le (ih (by omega)) (Nat.le_add_right _ _)
theorem cnt_0 {a n : Nat} (ha : a < 2 ^ n) (hn : n ≤ 12) (h : cnt a 12 = 0) : a = 0 := Nat.eq_of_testBit_eq (fun i => by
  rw [Nat.zero_testBit]
  by_cases hi : i < n
  · cases hb : a.testBit i with
    | false => rfl
    | true => have := cnt_pos hb 12 (by omega); omega
  · exact bit_lt ha (Nat.le_of_not_lt hi))
/-- an order is tried: kept if it takes fewer years -/
def visS (w : Wd) (gap size : Nat) (code : Nat) (S : Int × Int) : Int × Int := if (if alF w (H0 w) (hw w) (fun y => opF gap y size code) 49 0 < 0 then 50 else alF w (H0 w) (hw w) (fun y => opF gap y size code) 49 0) < S.2 then ((code : Int), if alF w (H0 w) (hw w) (fun y => opF gap y size code) 49 0 < 0 then 50 else alF w (H0 w) (hw w) (fun y => opF gap y size code) 49 0) else S
/-- all orders of those left behind a number -/
def trS (w : Wd) (gap size : Nat) : Nat → Nat → Nat → Int × Int → Int × Int
  | 0, _, nu, S => visS w gap size nu S
  | k + 1, left, nu, S => fdF (fun p S => if left.testBit p = true then trS w gap size k (nd left (2 ^ p)) (12 * nu + p) S else S) (wN w) S
/-- a code is tried if its digits are the set -/
def coT (w : Wd) (gap size set : Nat) (code : Nat) (S : Int × Int) : Int × Int := if dsF size code = set then visS w gap size code S else S
theorem ord_eq {w : Wd} (hN : wN w ≤ 12) (gap size set : Nat) : ∀ (k t nu left : Nat) (S : Int × Int), k + t = size → left < 2 ^ wN w → cnt left 12 = k → dsF t nu ||| left = set → (∀ i, left.testBit i = true → (dsF t nu).testBit i = false) → fdF (fun c => coT w gap size set (nu * 12 ^ k + c)) (12 ^ k) S = trS w gap size k left nu S := by
  intro k
  induction k with
  | zero =>
    intro t nu left S hk hl hc hs hd
    have l0 := cnt_0 hl hN hc
    subst l0
    rw [Nat.or_zero] at hs
    show coT w gap size set (nu * 12 ^ 0 + 0) S = visS w gap size nu S
    unfold coT
    rw [Nat.pow_zero, Nat.mul_one, Nat.add_zero, if_pos (by rw [← hk, Nat.zero_add]; exact hs)]
  | succ k ih =>
    intro t nu left S hk hl hc hs hd
    have ep : 12 ^ (k + 1) = 12 * 12 ^ k := by rw [Nat.pow_succ, Nat.mul_comm]
    rw [ep, fd_mul]
    show _ = fdF (fun p S => if left.testBit p = true then trS w gap size k (nd left (2 ^ p)) (12 * nu + p) S else S) (wN w) S
    -- one digit
    have one : ∀ p, p < 12 → ∀ S, fdF (fun c => coT w gap size set (nu * (12 * 12 ^ k) + (p * 12 ^ k + c))) (12 ^ k) S = if left.testBit p = true then trS w gap size k (nd left (2 ^ p)) (12 * nu + p) S else S := by
      intro p hp S
      have ei : ∀ c, nu * (12 * 12 ^ k) + (p * 12 ^ k + c) = (12 * nu + p) * 12 ^ k + c := fun c => by rw [← Nat.add_assoc, ← Nat.mul_assoc, ← Nat.add_mul, Nat.mul_comm nu 12]
      have ed : dsF (t + 1) (12 * nu + p) = 2 ^ p ||| dsF t nu := by
        show 2 ^ ((12 * nu + p) % 12) ||| dsF t ((12 * nu + p) / 12) = _
        rw [show (12 * nu + p) % 12 = p by omega, show (12 * nu + p) / 12 = nu by omega]
      by_cases hb : left.testBit p = true
      · rw [if_pos hb]
        have e := ih (t + 1) (12 * nu + p) (nd left (2 ^ p)) S (by omega) (nd_lt hl) (by have := cnt_nd hb 12; rw [if_pos hp] at this; omega) (by
          rw [ed, ← hs]
          refine Nat.eq_of_testBit_eq (fun i => ?_)
          rw [Nat.testBit_or, Nat.testBit_or, nd_bit, Nat.testBit_or, Nat.testBit_two_pow]
          by_cases c : p = i
          · rw [decide_eq_true c, ← c, hb]; simp
          · rw [decide_eq_false c]; simp) (fun i hi => by
          rw [nd_bit, Nat.testBit_two_pow] at hi
          rw [ed, Nat.testBit_or, Nat.testBit_two_pow]
          by_cases c : p = i
          · rw [decide_eq_true c] at hi; simp at hi
          · rw [decide_eq_false c] at hi ⊢
            simp at hi
            rw [hd i hi]
            rfl)
        rw [← e]
        exact fd_cg _ (fun c _ S => by rw [ei]) S
      · rw [if_neg hb]
        refine fd_id _ (fun c hc2 S => ?_) S
        unfold coT
        rw [ei, if_neg (fun e => ?_)]
        have e2 := ds_split (12 * nu + p) k c (t + 1) hc2
        rw [show k + (t + 1) = size by omega, e, ed] at e2
        have sub : ∀ i, left.testBit i = true → (dsF k c).testBit i = true := by
          intro i hi
          have h1 : set.testBit i = true := by rw [← hs, Nat.testBit_or, hi]; simp
          rw [e2, Nat.testBit_or, Nat.testBit_or, Nat.testBit_two_pow, hd i hi] at h1
          have ne : p ≠ i := fun c => hb (by rw [c]; exact hi)
          rw [decide_eq_false ne] at h1
          simpa using h1
        have h2 := cnt_sub sub 12
        have h3 := cnt_ds k c
        omega
    rw [fd_cg 12 one, show (12 : Nat) = wN w + (12 - wN w) by omega, fd_add]
    refine fd_id _ (fun c _ S => ?_) _
    rw [if_neg (by rw [bit_lt hl (Nat.le_add_right _ _)]; decide)]
