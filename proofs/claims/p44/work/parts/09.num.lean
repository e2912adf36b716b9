/-! numbers: the machine's operations on what is not below 0 -/
theorem wid {z : Int} (h1 : -2147483648 ≤ z) (h2 : z < 2147483648) : mzW z = z := by unfold mzW; omega
theorem xid {z : Int} (h1 : -9223372036854775808 ≤ z) (h2 : z < 9223372036854775808) : mzX z = z := by unfold mzX; omega
def bt (x : Int32) (i : Nat) : Bool := x.toBitVec.getLsbD i
theorem b_ext {x y : Int32} (h : ∀ i, i < 32 → bt x i = bt y i) : x = y := Int32.toBitVec_inj.mp (BitVec.eq_of_getLsbD_eq (fun i hi => h i hi))
theorem b_or (x y : Int32) (i : Nat) : bt (x ||| y) i = (bt x i || bt y i) := by unfold bt; rw [Int32.toBitVec_or, BitVec.getLsbD_or]
theorem b_and (x y : Int32) (i : Nat) : bt (x &&& y) i = (bt x i && bt y i) := by unfold bt; rw [Int32.toBitVec_and, BitVec.getLsbD_and]
theorem b_xor (x y : Int32) (i : Nat) : bt (x ^^^ y) i = (bt x i ^^ bt y i) := by unfold bt; rw [Int32.toBitVec_xor, BitVec.getLsbD_xor]
theorem b_big {x : Int32} {i : Nat} (h : 32 ≤ i) : bt x i = false := BitVec.getLsbD_of_ge _ _ h
theorem b_m1 : ∀ i, i < 32 → bt (-1) i = true := by decide +kernel
theorem b_nat (n i : Nat) (hi : i < 32) : bt (nI n) i = n.testBit i := by
  unfold bt nI
  show (BitVec.ofNat 32 n).getLsbD i = _
  rw [BitVec.getLsbD_ofNat]
  simp [hi]
theorem nI_int {n : Nat} (h : n < 2147483648) : (nI n).toInt = (n : Int) := nI_toInt h
theorem nAnd {a b : Nat} (ha : a < 2147483648) : mzAnd (a : Int) (b : Int) = ((a &&& b : Nat) : Int) := by
  show (nI a &&& nI b).toInt = _
  have e : nI a &&& nI b = nI (a &&& b) := b_ext fun i hi => by rw [b_and, b_nat _ _ hi, b_nat _ _ hi, b_nat _ _ hi, Nat.testBit_and]
  rw [e, nI_int (Nat.lt_of_le_of_lt Nat.and_le_left ha)]
theorem nOr {a b : Nat} (ha : a < 2147483648) (hb : b < 2147483648) : mzOr (a : Int) (b : Int) = ((a ||| b : Nat) : Int) := by
  show (nI a ||| nI b).toInt = _
  have e : nI a ||| nI b = nI (a ||| b) := b_ext fun i hi => by rw [b_or, b_nat _ _ hi, b_nat _ _ hi, b_nat _ _ hi, Nat.testBit_or]
  rw [e, nI_int (Nat.or_lt_two_pow (n := 31) ha hb)]
/-- a without b -/
def nd (a b : Nat) : Nat := a ^^^ (a &&& b)
theorem nd_bit (a b i : Nat) : (nd a b).testBit i = (a.testBit i && !b.testBit i) := by
  unfold nd
  rw [Nat.testBit_xor, Nat.testBit_and]
  cases a.testBit i <;> cases b.testBit i <;> rfl
theorem nd_le (a b : Nat) : nd a b ≤ a := by
  refine Nat.le_of_testBit (fun i h => ?_)
  rw [nd_bit] at h
  simp only [Bool.and_eq_true] at h
  exact h.1
theorem nNot {a b : Nat} (ha : a < 2147483648) : mzAnd (a : Int) (mzXor (b : Int) (-1)) = ((nd a b : Nat) : Int) := by
  show (nI a &&& Int32.ofInt (nI b ^^^ (-1)).toInt).toInt = _
  rw [mz_ofInt_toInt]
  have e : nI a &&& (nI b ^^^ (-1)) = nI (nd a b) := b_ext fun i hi => by
    rw [b_and, b_xor, b_m1 i hi, b_nat _ _ hi, b_nat _ _ hi, b_nat _ _ hi, nd_bit]
    cases a.testBit i <;> cases b.testBit i <;> rfl
  rw [e, nI_int (Nat.lt_of_le_of_lt (nd_le a b) ha)]
theorem s_l : ∀ n, n < 32 → ((nI n &&& 31).toBitVec.smod 32).toNat = n := by decide +kernel
theorem s_u : ∀ n, n < 32 → (((nI n).toUInt32 &&& Int32.toUInt32 31).toBitVec % 32).toNat = n := by decide +kernel
theorem nShr {a p : Nat} (ha : a < 2147483648) (hp : p < 32) : mzShr (a : Int) (p : Int) = ((a / 2 ^ p : Nat) : Int) := by
  show (nI a >>> (nI p &&& 31)).toInt = _
  rw [pk_shrN ha (nI p &&& 31) p (s_l p hp), nI_int (Nat.lt_of_le_of_lt (Nat.div_le_self _ _) ha)]
theorem nShl {a p : Nat} (h : a * 2 ^ p < 2147483648) (hp : p < 32) : mzShl (a : Int) (p : Int) = ((a * 2 ^ p : Nat) : Int) := by
  show (nI a <<< (nI p &&& 31)).toInt = _
  rw [pk_shlN (nI p &&& 31) p (s_l p hp) (by omega), nI_int h]
theorem nUsh {a p : Nat} (ha : a < 2147483648) (hp : p < 32) : mzUsh (a : Int) (p : Int) = ((a / 2 ^ p : Nat) : Int) := by
  show (((nI a).toUInt32 >>> ((nI p).toUInt32 &&& Int32.toUInt32 31)).toInt32).toInt = _
  rw [pk_ushrN (by omega) (nI p) p (s_u p hp), nI_int (Nat.lt_of_le_of_lt (Nat.div_le_self _ _) ha)]
theorem nPow {p : Nat} (hp : p < 31) : mzShl 1 (p : Int) = ((2 ^ p : Nat) : Int) := by
  have h2 : 2 ^ p < 2147483648 := Nat.pow_lt_pow_right (a := 2) (by omega) hp
  have := nShl (a := 1) (p := p) (by omega) (by omega)
  rw [Nat.one_mul] at this
  exact this
theorem nBit {a p : Nat} (ha : a < 2147483648) (hp : p < 32) : mzAnd (mzShr (a : Int) (p : Int)) 1 = if a.testBit p then 1 else 0 := by
  rw [nShr ha hp]
  show mzAnd ((a / 2 ^ p : Nat) : Int) ((1 : Nat) : Int) = _
  rw [nAnd (Nat.lt_of_le_of_lt (Nat.div_le_self _ _) ha), Nat.and_one_is_mod, Nat.testBit_eq_decide_div_mod_eq]
  by_cases h : a / 2 ^ p % 2 = 1
  · simp [h]
  · have : a / 2 ^ p % 2 = 0 := by omega
    simp [this]
theorem nBit0 {a p : Nat} (ha : a < 2147483648) (hp : p < 32) : mzAnd (mzShr (a : Int) (p : Int)) 1 = 0 ↔ a.testBit p = false := by
  rw [nBit ha hp]
  cases a.testBit p <;> simp
theorem nBit1 {a p : Nat} (ha : a < 2147483648) (hp : p < 32) : mzAnd (mzShr (a : Int) (p : Int)) 1 ≠ 0 ↔ a.testBit p = true := by
  rw [nBit ha hp]
  cases a.testBit p <;> simp
theorem nAndPow0 {a p : Nat} (ha : a < 2147483648) (hp : p < 31) : mzAnd (a : Int) (mzShl 1 (p : Int)) = 0 ↔ a.testBit p = false := by
  rw [nPow hp, nAnd ha]
  constructor
  · intro h
    have h0 : a &&& 2 ^ p = 0 := by omega
    have := congrArg (fun z => Nat.testBit z p) h0
    simpa [Nat.testBit_and, Nat.testBit_two_pow_self] using this
  · intro h
    have : a &&& 2 ^ p = 0 := Nat.eq_of_testBit_eq fun i => by
      rw [Nat.testBit_and, Nat.testBit_two_pow]
      by_cases e : p = i
      · subst e; simp [h]
      · simp [e]
    omega
