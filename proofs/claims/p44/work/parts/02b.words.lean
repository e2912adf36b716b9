/-! the words: each by its place in the tables, looked at once -/
def mzFq (ci j : Nat) : String × String × String × Bool := (mzCls.getD ci ("", fun _ => ("", "", "", false), 0)).2.1 j
def mzPn (c : Nat) : MethodName := match c with
  | 1 => Lib.Math.max.name
  | 2 => Lib.Math.min.name
  | 3 => arraycopyName
  | 4 => ⟨"java/lang/String", "length", "()I"⟩
  | _ => ⟨"java/lang/String", "charAt", "(I)C"⟩
def mzWd (k a b c d : Nat) : Jvm.Cond := match k with
  | 0 => .fieldLink (mzNo a) b (mzNo c) (mzFq c d).2.1 (mzFq c d).2.2.1
  | 1 => .methodLink (mzNo a) b (mzYn c)
  | 2 => .code (mzYn a) (mzBy a) (mzNl a) (mzRt a)
  | 3 => .initialized (mzNo a)
  | 4 => .instanceMethod (mzYn a)
  | 5 => .selects (mzYn a).cls (mzYn a) (mzYn a)
  | 6 => .static (mzYn a)
  | 7 => u_lay (mzNo a) (mzFq a) b
  | 8 => .constant (mzNo a) b (Int32.ofInt ((mzCL.getD c (0, 0, 0)).2.2))
  | 9 => .constantLong (mzNo a) b (Int64.ofInt ((mzJL.getD c (0, 0, 0)).2.2))
  | 10 => .fieldLink (mzNo a) b "MeltPins" (mzStat c) "[I"
  | 11 => .methodLink (mzNo a) b (mzPn c)
  | _ => (match a with
    | 0 => .static Lib.Math.max.name
    | 1 => .static Lib.Math.min.name
    | 2 => .initialized "java/lang/Math"
    | 5 => .native arraycopyName
    | 6 => .static arraycopyName
    | _ => .initialized "java/lang/System")
def mzWdN (k a b c d : Nat) : Jvm.Cond := match k with
  | 0 => .fieldLinkNest (mzNo a) b (mzNo c) (mzFq c d).2.1 (mzFq c d).2.2.1 "MeltPins"
  | 1 => .methodLinkNest (mzNo a) b (mzYn c) "MeltPins"
  | _ => .fieldLinkNest (mzNo a) b "MeltPins" (mzStat c) "[I" "MeltPins"
def mzWalk (f : Nat → Nat → Nat → Nat → Nat → Jvm.Cond) : List Jvm.Cond → Nat → List (Nat × Nat × Nat × Nat × Nat × Nat) → Bool
  | [], _, ps => (match ps with
    | [] => true
    | _ => false)
  | w :: t, n, ps => (match ps with
    | [] => true
    | (i, k, a, b, c, d) :: r => (match Nat.beq n i with
      | true => decide (w = f k a b c d) && mzWalk f t (n + 1) r
      | false => mzWalk f t (n + 1) ((i, k, a, b, c, d) :: r)))
theorem mz_walk {f : Nat → Nat → Nat → Nat → Nat → Jvm.Cond} : ∀ (l : List Jvm.Cond) (n : Nat) (ps : List (Nat × Nat × Nat × Nat × Nat × Nat)), mzWalk f l n ps = true → ∀ q ∈ ps, f q.2.1 q.2.2.1 q.2.2.2.1 q.2.2.2.2.1 q.2.2.2.2.2 ∈ l := by
  intro l
  induction l with
  | nil =>
    intro n ps h q hq
    cases ps with
    | nil => cases hq
    | cons _ _ => simp [mzWalk] at h
  | cons w t ih =>
    intro n ps h q hq
    cases ps with
    | nil => cases hq
    | cons z r =>
      obtain ⟨i, k, a, b, c, d⟩ := z
      unfold mzWalk at h
      dsimp only at h
      split at h
      · simp only [Bool.and_eq_true, decide_eq_true_eq] at h
        rcases List.mem_cons.mp hq with rfl | h9
        · rw [h.1]
          exact List.mem_cons_self
        · exact List.mem_cons_of_mem _ (ih _ _ h.2 q h9)
      · exact List.mem_cons_of_mem _ (ih _ _ h q hq)
theorem mz_all : mzWalk mzWd lw_tbl 0 mzAll = true := by decide +kernel
theorem mz_allN : mzWalk mzWdN mzNest 0 mzAlN = true := by decide +kernel
/-- the word is there -/
def mzHas (l : List (Nat × Nat × Nat × Nat × Nat × Nat)) (k a b c d : Nat) : Bool := l.any (fun q => Nat.beq q.2.2.2.1 b && (Nat.beq q.2.2.1 a && (Nat.beq q.2.1 k && (Nat.beq q.2.2.2.2.1 c && Nat.beq q.2.2.2.2.2 d))))
theorem mz_hasq {l : List (Nat × Nat × Nat × Nat × Nat × Nat)} {k a b c d : Nat} (h : mzHas l k a b c d = true) : ∃ q ∈ l, q.2.1 = k ∧ q.2.2.1 = a ∧ q.2.2.2.1 = b ∧ q.2.2.2.2.1 = c ∧ q.2.2.2.2.2 = d := by
  unfold mzHas at h
  obtain ⟨q, hq, h⟩ := List.any_eq_true.mp h
  simp only [Bool.and_eq_true] at h
  exact ⟨q, hq, Nat.eq_of_beq_eq_true h.2.2.1, Nat.eq_of_beq_eq_true h.2.1, Nat.eq_of_beq_eq_true h.1, Nat.eq_of_beq_eq_true h.2.2.2.1, Nat.eq_of_beq_eq_true h.2.2.2.2⟩
theorem mz_in {k a b c d : Nat} (h : mzHas mzAll k a b c d = true) : mzWd k a b c d ∈ lw_tbl := by
  obtain ⟨q, hq, rfl, rfl, rfl, rfl, rfl⟩ := mz_hasq h
  exact mz_walk _ _ _ mz_all q hq
theorem mz_inN {k a b c d : Nat} (h : mzHas mzAlN k a b c d = true) : mzWdN k a b c d ∈ mzNest := by
  obtain ⟨q, hq, rfl, rfl, rfl, rfl, rfl⟩ := mz_hasq h
  exact mz_walk _ _ _ mz_allN q hq
theorem mz_tb {w : Jvm.Cond} (h : w ∈ lw_tbl) (hg : goodWord w = true) : w ∈ mzTb := List.mem_filter.mpr ⟨h, hg⟩
/-- the code words, by place -/
def mzCw (y : Nat) : Jvm.Cond := .code (mzYn y) (mzBy y) (mzNl y) (mzRt y)
def mzCg (n : Nat) : Jvm.Cond := match Nat.ble 1000 n with
  | true => mzCot.getD (n - 1000) .tt
  | false => mzCw n
set_option maxRecDepth 200000 in
theorem mz_cws : tables_1.filter k2_isCode = mzCol.map mzCg := rfl
theorem mz_cys : ∀ y, y < 192 → 0 < y → y ∈ mzCol := by decide +kernel
theorem mz_cin {n : Nat} (h : n ∈ mzCol) : mzCg n ∈ lw_tbl := by
  have h1 : mzCg n ∈ tables_1.filter k2_isCode := by
    rw [mz_cws]
    exact List.mem_map.mpr ⟨n, h, rfl⟩
  exact List.mem_append_right _ (List.mem_filter.mp h1).1
theorem mz_code {y : Nat} (hy : y < 192) (h0 : 0 < y) : Jvm.Cond.code (mzYn y) (mzBy y) (mzNl y) (mzRt y) ∈ lw_tbl := by
  have h := mz_cin (mz_cys y hy h0)
  have e : Nat.ble 1000 y = false := by
    cases hb : Nat.ble 1000 y with
    | false => rfl
    | true => have := Nat.le_of_ble_eq_true hb; omega
  simp only [mzCg, e] at h
  exact h
theorem mz_cmax : Jvm.Cond.code Lib.Math.max.name Lib.Math.max.code 2 (some .int) ∈ lw_tbl := List.mem_of_getElem? (i := 450) (by decide +kernel)
theorem mz_cmin : Jvm.Cond.code Lib.Math.min.name Lib.Math.min.code 2 (some .int) ∈ lw_tbl := List.mem_of_getElem? (i := 330) (by decide +kernel)
