/-! THE MACHINE OF A FIXED MEMORY: numbers as Int, things by their numbers, the memory a function; a goal at an instruction is turned by computing -/
abbrev mzV : Type := Option (Int ⊕ (Int ⊕ (Nat ⊕ (Nat × Nat))))
abbrev mzI (x : Int) : mzV := some (.inl x)
abbrev mzL (x : Int) : mzV := some (.inr (.inl x))
abbrev mzR (k : Nat) : mzV := some (.inr (.inr (.inl k)))
abbrev mzP (b o : Nat) : mzV := some (.inr (.inr (.inr (b, o))))
abbrev mzM : Type := Nat → Nat → Int
abbrev mzO : Type := Nat × Instr × Int × Nat × Nat
/-- where things lie: the classes' numbers and slots; each thing's address; the classes of rows of numbers, of rows of those, of rows of sheets; the script -/
abbrev mzG : Type := va_G × (Nat → Nat) × ClassId × ClassId × ClassId × (Nat → Int) × Nat
def mzW (z : Int) : Int := (z + 2147483648) % 4294967296 - 2147483648
def mzX (z : Int) : Int := (z + 9223372036854775808) % 18446744073709551616 - 9223372036854775808
def mzAnd (x y : Int) : Int := (Int32.ofInt x &&& Int32.ofInt y).toInt
def mzOr (x y : Int) : Int := (Int32.ofInt x ||| Int32.ofInt y).toInt
def mzXor (x y : Int) : Int := (Int32.ofInt x ^^^ Int32.ofInt y).toInt
def mzShl (x y : Int) : Int := (Int32.ofInt x <<< (Int32.ofInt y &&& 31)).toInt
def mzShr (x y : Int) : Int := (Int32.ofInt x >>> (Int32.ofInt y &&& 31)).toInt
def mzUsh (x y : Int) : Int := (((Int32.ofInt x).toUInt32 >>> ((Int32.ofInt y).toUInt32 &&& Int32.toUInt32 31)).toInt32).toInt
def mzDiv (x y : Int) : Int := (Int32.ofInt x / Int32.ofInt y).toInt
def mzRem (x y : Int) : Int := (Int32.ofInt x - Int32.ofInt x / Int32.ofInt y * Int32.ofInt y).toInt
def mzB8 (x : Int) : Int := ((Int32.ofInt x).toInt8.toInt32).toInt
def mzB16 (x : Int) : Int := ((Int32.ofInt x).toInt16.toInt32).toInt
def mzMx (x y : Int) : Int := if x < y then y else x
def mzMn (x y : Int) : Int := if y < x then y else x
def mzCmp (x y : Int) : Int := if x < y then -1 else if x = y then 0 else 1
/-- the memory with one number put -/
def mzS (μ : mzM) (k j : Nat) (v : Int) : mzM := fun a b => if a = k ∧ b = j then v else μ a b
/-- the memory with n numbers of thing a from i on put into thing b from j on -/
def mzCp (μ : mzM) (a i b j n : Nat) : mzM := fun k q => if k = b ∧ j ≤ q ∧ q < j + n then μ a (i + (q - j)) else μ k q
def mzSh (k : Nat) : Nat × Nat × Nat := mzShape.getD k (9, 0, 0)
def mzFind : List (Nat × Nat × Nat × Nat) → Nat → Nat × Nat × Nat
  | [], _ => (0, 9, 0)
  | (k, v) :: r, b => match Nat.beq k b with
    | true => v
    | false => mzFind r b
def mzPq (b : Nat) : Nat × Nat × Nat := mzFind mzPools b
def mzRf (ci j k : Nat) : Nat := match (mzRfT.getD ci []).getD j (0, 0) with
  | (0, _) => 0
  | (1, v) => v
  | (_, v) => k + v
def mzCst (k j : Nat) : Int := (mzCstT.getD (k - 200) []).getD j 0
def mzCsl (k : Nat) : Nat := (mzCstT.getD (k - 200) []).length
def mzSl (o : Nat) : Int := ((mzStrT.getD o []).length : Int)
def mzSc (o j : Nat) : Int := (mzStrT.getD o []).getD j 0
def mzCc (c : Nat) : Nat := match Nat.ble 100 c with
  | true => c - 100
  | false => c
def mzIsO (k ci : Nat) : Bool := match mzSh k with
  | (1, c, _) => Nat.beq c ci
  | _ => false
def mzGt (L : List mzV) (k : Nat) : mzV := L.getD k none
def mzKill (L : List mzV) : Nat → List mzV
  | 0 => L
  | j + 1 => match L.getD j none with
    | some (.inr (.inl _)) => L.set j none
    | _ => L
def mzPut (L : List mzV) (k : Nat) (v : mzV) : List mzV := (mzKill L k).set k v
def mzPut2 (L : List mzV) (k : Nat) (v : mzV) : List mzV := ((mzKill L k).set k v).set (k + 1) none
def mzC1 (v : mzV) : Bool := match v with
  | some (.inr (.inl _)) => false
  | some _ => true
  | none => false
/-- how many words a stack takes -/
def mzSz : List mzV → Nat
  | [] => 0
  | some (.inr (.inl _)) :: r => mzSz r + 2
  | _ :: r => mzSz r + 1
/-- a row of numbers that may be written: its number and its places -/
def mzArr (v : mzV) (f : Nat → Nat → Prop) : Prop := match v with
  | some (.inr (.inr (.inl k))) => (match mzSh k with
    | (0, n, _) => f k n
    | _ => False)
  | some (.inr (.inr (.inr (p, o)))) => (match mzPq p with
    | (cnt, 0, n) => o < cnt ∧ f (p + o) n
    | _ => False)
  | _ => False
/-- one instruction without branch or call -/
def mz1 (i : Instr) (a : Int) (b c y : Nat) (K : List mzV → List mzV → mzM → Prop) (L S : List mzV) (μ : mzM) : Prop :=
  match i with
  | .iconst n => K L (mzI n :: S) μ
  | .bipush n => K L (mzI n :: S) μ
  | .sipush n => K L (mzI n :: S) μ
  | .ldc _ => (match c with
    | 0 => K L (mzI a :: S) μ
    | _ => K L (mzP 300 b :: S) μ)
  | .ldc_w _ => K L (mzI a :: S) μ
  | .ldc2_w _ => K L (mzL a :: S) μ
  | .lconst n => K L (mzL ((n : Nat) : Int) :: S) μ
  | .iload k => (match mzGt L k with
    | some (.inl x) => K L (mzI x :: S) μ
    | _ => False)
  | .iload_n k => (match mzGt L k.val with
    | some (.inl x) => K L (mzI x :: S) μ
    | _ => False)
  | .lload k => (match mzGt L k with
    | some (.inr (.inl x)) => K L (mzL x :: S) μ
    | _ => False)
  | .lload_n k => (match mzGt L k.val with
    | some (.inr (.inl x)) => K L (mzL x :: S) μ
    | _ => False)
  | .aload k => (match mzGt L k with
    | some (.inr (.inr v)) => K L (some (.inr (.inr v)) :: S) μ
    | _ => False)
  | .aload_n k => (match mzGt L k.val with
    | some (.inr (.inr v)) => K L (some (.inr (.inr v)) :: S) μ
    | _ => False)
  | .istore k => (match S with
    | some (.inl x) :: S' => K (mzPut L k (mzI x)) S' μ
    | _ => False)
  | .istore_n k => (match S with
    | some (.inl x) :: S' => K (mzPut L k.val (mzI x)) S' μ
    | _ => False)
  | .lstore k => (match S with
    | some (.inr (.inl x)) :: S' => K (mzPut2 L k (mzL x)) S' μ
    | _ => False)
  | .lstore_n k => (match S with
    | some (.inr (.inl x)) :: S' => K (mzPut2 L k.val (mzL x)) S' μ
    | _ => False)
  | .astore k => (match S with
    | some (.inr (.inr v)) :: S' => K (mzPut L k (some (.inr (.inr v)))) S' μ
    | _ => False)
  | .astore_n k => (match S with
    | some (.inr (.inr v)) :: S' => K (mzPut L k.val (some (.inr (.inr v)))) S' μ
    | _ => False)
  | .iinc k n => (match mzGt L k with
    | some (.inl x) => K (mzPut L k (mzI (mzW (x + n)))) S μ
    | _ => False)
  | .iadd => (match S with
    | some (.inl v) :: some (.inl u) :: S' => K L (mzI (mzW (u + v)) :: S') μ
    | _ => False)
  | .isub => (match S with
    | some (.inl v) :: some (.inl u) :: S' => K L (mzI (mzW (u - v)) :: S') μ
    | _ => False)
  | .imul => (match S with
    | some (.inl v) :: some (.inl u) :: S' => K L (mzI (mzW (u * v)) :: S') μ
    | _ => False)
  | .iand => (match S with
    | some (.inl v) :: some (.inl u) :: S' => K L (mzI (mzAnd u v) :: S') μ
    | _ => False)
  | .ior => (match S with
    | some (.inl v) :: some (.inl u) :: S' => K L (mzI (mzOr u v) :: S') μ
    | _ => False)
  | .ixor => (match S with
    | some (.inl v) :: some (.inl u) :: S' => K L (mzI (mzXor u v) :: S') μ
    | _ => False)
  | .ishl => (match S with
    | some (.inl v) :: some (.inl u) :: S' => K L (mzI (mzShl u v) :: S') μ
    | _ => False)
  | .ishr => (match S with
    | some (.inl v) :: some (.inl u) :: S' => K L (mzI (mzShr u v) :: S') μ
    | _ => False)
  | .iushr => (match S with
    | some (.inl v) :: some (.inl u) :: S' => K L (mzI (mzUsh u v) :: S') μ
    | _ => False)
  | .idiv => (match S with
    | some (.inl v) :: some (.inl u) :: S' => v ≠ 0 ∧ K L (mzI (mzDiv u v) :: S') μ
    | _ => False)
  | .irem => (match S with
    | some (.inl v) :: some (.inl u) :: S' => v ≠ 0 ∧ K L (mzI (mzRem u v) :: S') μ
    | _ => False)
  | .ladd => (match S with
    | some (.inr (.inl v)) :: some (.inr (.inl u)) :: S' => K L (mzL (mzX (u + v)) :: S') μ
    | _ => False)
  | .lmul => (match S with
    | some (.inr (.inl v)) :: some (.inr (.inl u)) :: S' => K L (mzL (mzX (u * v)) :: S') μ
    | _ => False)
  | .lcmp => (match S with
    | some (.inr (.inl v)) :: some (.inr (.inl u)) :: S' => K L (mzI (mzCmp u v) :: S') μ
    | _ => False)
  | .i2l => (match S with
    | some (.inl u) :: S' => K L (mzL u :: S') μ
    | _ => False)
  | .i2b => (match S with
    | some (.inl u) :: S' => K L (mzI (mzB8 u) :: S') μ
    | _ => False)
  | .i2s => (match S with
    | some (.inl u) :: S' => K L (mzI (mzB16 u) :: S') μ
    | _ => False)
  | .dup => (match S with
    | v :: S' => (match mzC1 v with
      | true => K L (v :: v :: S') μ
      | false => False)
    | _ => False)
  | .dup2 => (match S with
    | v :: w :: S' => (match mzC1 v && mzC1 w with
      | true => K L (v :: w :: v :: w :: S') μ
      | false => False)
    | _ => False)
  | .pop => (match S with
    | v :: S' => (match mzC1 v with
      | true => K L S' μ
      | false => False)
    | _ => False)
  | .pop2 => (match S with
    | some (.inr (.inl _)) :: S' => K L S' μ
    | _ => False)
  | .getfield _ => (match S with
    | some (.inr (.inr (.inl k))) :: S' => (match mzIsO k (mzCc c) with
      | true => (match mzRf (mzCc c) b k with
        | 0 => K L (mzI (μ k b) :: S') μ
        | t + 1 => K L (mzR (t + 1) :: S') μ)
      | false => False)
    | some (.inr (.inr (.inr (p, o)))) :: S' => (match mzPq p with
      | (cnt, 1, ci) => (match Nat.beq ci (mzCc c) with
        | true => o < cnt ∧ (match mzRf (mzCc c) b 0 with
          | 0 => K L (mzI (μ (p + o) b) :: S') μ
          | t + 1 => K L (mzP (p + (t + 1)) o :: S') μ)
        | false => False)
      | _ => False)
    | _ => False)
  | .putfield _ => (match S with
    | some (.inl x) :: some (.inr (.inr (.inl k))) :: S' => (match mzIsO k (mzCc c) && Nat.beq (mzRf (mzCc c) b k) 0 with
      | true => (match Nat.ble 100 c with
        | true => (x = 0 ∨ x = 1) ∧ K L S' (mzS μ k b x)
        | false => K L S' (mzS μ k b x))
      | false => False)
    | some (.inl x) :: some (.inr (.inr (.inr (p, o)))) :: S' => (match mzPq p with
      | (cnt, 1, ci) => (match Nat.beq ci c && Nat.beq (mzRf c b 0) 0 with
        | true => o < cnt ∧ K L S' (mzS μ (p + o) b x)
        | false => False)
      | _ => False)
    | _ => False)
  | .getstatic _ => K L (mzR (200 + b) :: S) μ
  | .iaload => (match S with
    | some (.inl i) :: some (.inr (.inr (.inl k))) :: S' => (match Nat.ble 148 k with
      | true => (match Nat.beq k 148 && Nat.beq y 0 with
        | true => (0 ≤ i ∧ i < μ 149 0) ∧ K L (mzI (μ 148 i.toNat) :: S') μ
        | false => (match Nat.ble 200 k && Nat.ble k 202 with
          | true => (0 ≤ i ∧ i < (mzCsl k : Int)) ∧ K L (mzI (mzCst k i.toNat) :: S') μ
          | false => False))
      | false => (match mzSh k with
        | (0, n, _) => (0 ≤ i ∧ i < (n : Int)) ∧ K L (mzI (μ k i.toNat) :: S') μ
        | _ => False))
    | some (.inl i) :: some (.inr (.inr (.inr (p, o)))) :: S' => (match mzPq p with
      | (cnt, 0, n) => (o < cnt ∧ 0 ≤ i ∧ i < (n : Int)) ∧ K L (mzI (μ (p + o) i.toNat) :: S') μ
      | _ => False)
    | _ => False)
  | .iastore => (match S with
    | some (.inl x) :: some (.inl i) :: some (.inr (.inr (.inl k))) :: S' => (match mzSh k with
      | (0, n, _) => (0 ≤ i ∧ i < (n : Int)) ∧ K L S' (mzS μ k i.toNat x)
      | _ => False)
    | some (.inl x) :: some (.inl i) :: some (.inr (.inr (.inr (p, o)))) :: S' => (match mzPq p with
      | (cnt, 0, n) => (o < cnt ∧ 0 ≤ i ∧ i < (n : Int)) ∧ K L S' (mzS μ (p + o) i.toNat x)
      | _ => False)
    | _ => False)
  | .aaload => (match S with
    | some (.inl i) :: some (.inr (.inr (.inl k))) :: S' => (match mzSh k with
      | (2, n, f) => (0 ≤ i ∧ i < (n : Int)) ∧ K L (mzP f i.toNat :: S') μ
      | (3, n, f) => (0 ≤ i ∧ i < (n : Int)) ∧ K L (mzP f i.toNat :: S') μ
      | _ => False)
    | _ => False)
  | .arraylength => (match S with
    | some (.inr (.inr (.inl k))) :: S' => (match Nat.beq k 148 && Nat.beq y 0 with
      | true => K L (mzI (μ 149 0) :: S') μ
      | false => (match mzSh k with
        | (0, n, _) => K L (mzI (n : Int) :: S') μ
        | _ => False))
    | some (.inr (.inr (.inr (p, o)))) :: S' => (match mzPq p with
      | (cnt, 0, n) => o < cnt ∧ K L (mzI (n : Int) :: S') μ
      | _ => False)
    | _ => False)
  | _ => False
def mzIf (q : Jvm.ClassFile.Cond) (x v : Int) (T F : Prop) : Prop := match q with
  | .eq => (x = v → T) ∧ (x ≠ v → F)
  | .ne => (x ≠ v → T) ∧ (x = v → F)
  | .lt => (x < v → T) ∧ (v ≤ x → F)
  | .ge => (v ≤ x → T) ∧ (x < v → F)
  | .gt => (v < x → T) ∧ (x ≤ v → F)
  | .le => (x ≤ v → T) ∧ (v < x → F)
def mzTs (pc : Nat) : List Int → Int → Int → (Nat → Prop) → Prop
  | [], _, _, _ => True
  | o :: r, lo, x, k => (x = lo → k ((pc : Int) + o).toNat) ∧ mzTs pc r (lo + 1) x k
def mzLs (pc : Nat) : List (Int × Int) → Int → (Nat → Prop) → Prop → Prop
  | [], _, _, D => D
  | (q, o) :: r, x, k, D => (x = q → k ((pc : Int) + o).toNat) ∧ (x ≠ q → mzLs pc r x k D)
/-- where a road is cut: the place, and which of the frame's numbers are needed behind it -/
def mzIn : Nat → List (Nat × List Bool) → Option (List Bool)
  | _, [] => none
  | a, (b, k) :: r => match Nat.beq a b with
    | true => some k
    | false => mzIn a r
def mzMask : List Bool → List mzV → List mzV
  | true :: bs, v :: r => v :: mzMask bs r
  | false :: bs, _ :: r => none :: mzMask bs r
  | [], r => r
  | _ :: _, [] => []
def mzDr : List mzO → Nat → List mzO
  | [], _ => []
  | e :: r, t => match Nat.beq e.1 t with
    | true => e :: r
    | false => mzDr r t
-- the methods' table, by number
def mzTq (y : Nat) : MethodName × ByteArray × Nat × Option FieldType × Nat := (mzTab.getD (y / 16) []).getD (y % 16) (⟨"", "", ""⟩, ⟨#[]⟩, 0, none, 0)
def mzYn (y : Nat) : MethodName := (mzTq y).1
def mzBy (y : Nat) : ByteArray := (mzTq y).2.1
def mzNl (y : Nat) : Nat := (mzTq y).2.2.1
def mzRt (y : Nat) : Option FieldType := (mzTq y).2.2.2.1
def mzOw (y : Nat) : Nat := (mzTq y).2.2.2.2
def mzNo (o : Nat) : String := mzNm.getD o ""
def mzRk (y : Nat) : Nat := match mzRt y with
  | none => 0
  | some .int => 1
  | some .boolean => 1
  | some .long => 2
  | some _ => 3
def mzQi (q : Int → mzM → Prop) (v : mzV) (μ : mzM) : Prop := match v with
  | some (.inl x) => q x μ
  | _ => False
def mzQj (q : Int → mzM → Prop) (v : mzV) (μ : mzM) : Prop := match v with
  | some (.inr (.inl x)) => q x μ
  | _ => False
def mzQr (q : Nat → Nat → mzM → Prop) (v : mzV) (μ : mzM) : Prop := match v with
  | some (.inr (.inr (.inr (p, o)))) => q p o μ
  | _ => False
def mzQv (q : mzM → Prop) (_ : mzV) (μ : mzM) : Prop := q μ
/-- the places with which a method begins -/
def mzLay : List mzV → List mzV
  | [] => []
  | some (.inr (.inl x)) :: r => mzL x :: none :: mzLay r
  | v :: r => v :: mzLay r
def mzEn (n : Nat) (as : List mzV) : List mzV := mzLay as ++ List.replicate (n - (mzLay as).length) none
-- the words
def mzTb : List Jvm.Cond := lw_tbl.filter goodWord
def mzNest : List Jvm.Cond := tables_1.filter fun w => match w with
  | .fieldLinkNest .. => true
  | .methodLinkNest .. => true
  | _ => false
def mzWs (y : Nat) : List Jvm.Cond := .code (mzYn y) (mzBy y) (mzNl y) (mzRt y) :: mzTb
def mzAd (G : mzG) (k : Nat) : Nat := G.2.1 k
def mzC (G : mzG) (v : mzV) : Value := match v with
  | some (.inl x) => .int (Int32.ofInt x)
  | some (.inr (.inl x)) => .long (Int64.ofInt x)
  | some (.inr (.inr (.inl k))) => .ref (mzAd G k)
  | some (.inr (.inr (.inr (p, o)))) => .ref (mzAd G (p + o))
  | none => .null
/-- numbers in their bounds -/
def mzK (v : mzV) : Prop := match v with
  | some (.inl x) => -2147483648 ≤ x ∧ x < 2147483648
  | some (.inr (.inl x)) => -9223372036854775808 ≤ x ∧ x < 9223372036854775808
  | _ => True
def mzNf (ci : Nat) : Nat := (mzRfT.getD ci []).length
def mzFv (G : mzG) (μ : mzM) (ci k j : Nat) : Value := match mzRf ci j k with
  | 0 => .int (Int32.ofInt (μ k j))
  | t + 1 => .ref (mzAd G (t + 1))
def mzRow (G : mzG) (n f : Nat) : Nat → Option Nat := fun i => if i < n then some (mzAd G (f + i)) else none
def mzEnt (G : mzG) (μ : mzM) (k : Nat) : va_E := match mzSh k with
  | (0, n, _) => .inl (G.2.2.1, n, .inl (fun j => Int32.ofInt (μ k j)))
  | (1, ci, _) => .inr (ci, (List.range (mzNf ci)).map (mzFv G μ ci k))
  | (2, n, f) => .inl (G.2.2.2.1, n, .inr (.inr (.inr (.inr (mzRow G n f)))))
  | (_, n, f) => .inl (G.2.2.2.2.1, n, .inr (.inr (.inr (.inr (mzRow G n f)))))
def mzWo (G : mzG) (μ : mzM) : va_W := (List.range 148).map (fun k => (mzAd G k, mzEnt G μ k))
def mzTys (G : mzG) : List (ClassId × FieldType) := [(G.2.2.1, .int), (G.2.2.2.1, .array .int), (G.2.2.2.2.1, .object "MeltPins$Sheet")]
def mzA (G : mzG) : Nat → Prop := fun q => ∃ k, k < 148 ∧ q = mzAd G k
def mzSt (G : mzG) (H : Heap) (μ : mzM) : Prop := va_P G.1 mzCls (mzWo G μ) H ∧ (∀ k j, -2147483648 ≤ μ k j ∧ μ k j < 2147483648) ∧ (∀ j, μ 148 j = G.2.2.2.2.2.1 j) ∧ μ 149 0 = (G.2.2.2.2.2.2 : Int)
def mzInj (G : mzG) : Prop := ∀ i j, i < 148 → j < 148 → mzAd G i = mzAd G j → i = j
def mzScr (G : mzG) (s : State) : Prop := va_X (mzAd G 148) G.2.2.2.2.2.2 (fun j => Int32.ofInt (G.2.2.2.2.2.1 j)) s s.heap ∧ mzAd G 148 < s.heap.size ∧ ¬ mzA G (mzAd G 148)
def mzStat (k : Nat) : String := ["KIND_ABOVE", "LEAST", "GREATEST"].getD k ""
/-- what holds of the tables and of what is there from the start, in every method -/
def mzAmb (G : mzG) (U : State) : Prop := (∀ w ∈ mzNest, va_Nw w U) ∧ va_K G.1 mzCls (mzTys G) U ∧
  (∀ k, k < 3 → va_Z "MeltPins" (mzStat k) "[I" (.ref (mzAd G (200 + k))) (mzA G) U U.heap ∧ va_T .int (mzAd G (200 + k)) (mzCsl (200 + k)) (fun j => .int (Int32.ofInt (mzCst (200 + k) j))) (mzA G) U U.heap) ∧
  (∀ q ∈ mzSL, vk_R (mzNo q.1) q.2.1 (mzStrS.getD q.2.2 "") (mzAd G (300 + q.2.2)) U) ∧
  vk_S 14 (mzStrT.map List.length) (mzStrT.map (List.map Int32.ofInt)) (fun i => mzAd G (300 + i)) (fun i => mzAd G (320 + i)) (mzA G) U U.heap ∧
  va_Z "java/lang/String" "COMPACT_STRINGS" "Z" (.int 1) (mzA G) U U.heap ∧
  va_Zq "jdk/internal/util/Preconditions" "SIOOBE_FORMATTER" "Ljava/util/function/BiFunction;" (mzA G) U U.heap
def mzRm (d : Nat) : Room := { frames := d + 4, cells := 0, slots := 0, locals := 64 * d + 32 }
def mzCx (G : mzG) (p : Program) (R : Room) (s : State) (m : MethodId) (args : Array Value) (meth : Method) (c : Code) (y d cells slots : Nat) : Prop :=
  p.tables.exec = Jvm.exec ∧ c.code = mzBy y ∧ c.maxLocals = mzNl y ∧ meth.sig.returnType = mzRt y ∧ meth.locks = false ∧ s.vm.findClass (mzNo (mzOw y)) = some m.cls ∧ (∀ w ∈ mzTb, w.before args s = true) ∧ mzAmb G s ∧ mzInj G ∧
  (cells ≤ R.cells ∧ slots ≤ R.slots) ∧ (d + 4 ≤ R.frames ∧ 64 * d + 32 ≤ R.locals) ∧ (y = 0 → mzScr G s)
def mzFr (G : mzG) (y : Nat) (ls : Array Slot) (L : List mzV) : Prop := ls.size = mzNl y ∧ lv_wf ls ∧ L.length = mzNl y ∧ ∀ (i : Nat) (v : Int ⊕ (Int ⊕ (Nat ⊕ (Nat × Nat)))), L[i]? = some (some v) → ls[i]? = some (Slot.val (mzC G (some v))) ∧ mzK (some v)
def mzSk (S : List mzV) : Prop := ∀ v ∈ S, v ≠ none ∧ mzK v
section MZ
variable (G : mzG) (p : Program) (l : Launch) (e : Env) (R : Room) (s : State) (m : MethodId) (args : Array Value) (below : List Frame) (meth : Method) (c : Code) (cells slots : Nat) (Z : State → Prop)
/-- from every heap that holds the memory, every frame that holds the places, the machine comes to Z -/
def mzGo (y pc : Nat) (L S : List mzV) (μ : mzM) : Prop := ∀ (H : Heap) (locs : List Loc) (ls : Array Slot), mzSt G H μ → va_S (mzA G) s.heap H locs → mzFr G y ls L → mzSk S → W p l e R s m args below meth c H locs cells slots Z (F0 m pc ls (S.map (mzC G)))
end MZ
def mzTyp (r : Option FieldType) (v : mzV) : Prop := match r with
  | none => v = none
  | some .int => ∃ x, v = mzI x
  | some .boolean => v = mzI 0 ∨ v = mzI 1
  | some .long => ∃ x, v = mzL x
  | some _ => ∃ p o, v = mzP p o
def mzRi (r : Option FieldType) : Instr := match r with
  | none => .return_
  | some .int => .ireturn
  | some .boolean => .ireturn
  | some .long => .lreturn
  | some _ => .areturn
def mzRs (G : mzG) (v : mzV) : List Value := match v with
  | none => []
  | some w => [mzC G (some w)]
/-- a method's frame: the machine goes from here to its end with v and a memory that Q holds of -/
def mzWp (d y pc : Nat) (L S : List mzV) (μ : mzM) (Q : mzV → mzM → Prop) : Prop :=
  ∀ (G : mzG) (p : Program) (l : Launch) (e : Env) (R : Room) (s : State) (m : MethodId) (args : Array Value) (below : List Frame) (meth : Method) (c : Code) (cells slots : Nat) (Z : State → Prop), mzCx G p R s m args meth c y d cells slots →
    (∀ (v : mzV) (μ' : mzM) (H' : Heap) (locs' : List Loc) (ls' : Array Slot) (pc' : Nat), Q v μ' → mzTyp (mzRt y) v → mzK v → mzSt G H' μ' → va_S (mzA G) s.heap H' locs' → decode (mzBy y) pc' = .ok (mzRi (mzRt y), 1) → W p l e R s m args below meth c H' locs' cells slots Z (F0 m pc' ls' (mzRs G v))) →
    mzGo G p l e R s m args below meth c cells slots Z y pc L S μ
/-- a call of method y, from its entry -/
def mzCl (d y : Nat) (as : List mzV) (μ : mzM) (Q : mzV → mzM → Prop) : Prop := mzWp d y 0 (mzEn (mzNl y) as) [] μ Q
/-- the receiver is an object of the method's class -/
def mzRc (ci : Nat) (v : mzV) (P : Prop) : Prop := match v with
  | some (.inr (.inr (.inl k))) => (match mzIsO k ci with
    | true => P
    | false => False)
  | some (.inr (.inr (.inr (p, o)))) => (match mzPq p with
    | (cnt, 1, c) => (match Nat.beq c ci with
      | true => o < cnt ∧ P
      | false => False)
    | _ => False)
  | _ => False
/-- a call, by what comes back -/
def mzRp (b : Nat) : Nat := match mzRt b with
  | some (.array _) => 76
  | _ => 300
def mzCall (d b : Nat) (as : List mzV) (μ : mzM) (K : mzV → mzM → Prop) : Prop := match mzRk b with
  | 0 => mzCl d b as μ (mzQv (fun μ' => K none μ'))
  | 1 => mzCl d b as μ (mzQi (fun x μ' => K (mzI x) μ'))
  | 2 => mzCl d b as μ (mzQj (fun x μ' => K (mzL x) μ'))
  | _ => mzCl d b as μ (mzQr (fun p o μ' => p = mzRp b ∧ K (mzP (mzRp b) o) μ'))
def mzPu (v : mzV) (S : List mzV) : List mzV := match v with
  | none => S
  | some w => some w :: S
/-- members of the library that are taken by the kit's own rows -/
def mzPr (c : Nat) (K : List mzV → List mzV → mzM → Prop) (L S : List mzV) (μ : mzM) : Prop := match c with
  | 1 => (match S with
    | some (.inl v) :: some (.inl u) :: S' => (match Nat.ble (mzSz S') 8 with
      | true => K L (mzI (mzMx u v) :: S') μ
      | false => False)
    | _ => False)
  | 2 => (match S with
    | some (.inl v) :: some (.inl u) :: S' => (match Nat.ble (mzSz S') 8 with
      | true => K L (mzI (mzMn u v) :: S') μ
      | false => False)
    | _ => False)
  | 3 => (match S with
    | some (.inl n) :: some (.inl j) :: w :: some (.inl i) :: u :: S' => (match Nat.ble (mzSz S') 8 with
      | true => mzArr u (fun ka na => mzArr w (fun kb nb => (0 ≤ i ∧ 0 ≤ j ∧ 0 ≤ n ∧ i + n ≤ (na : Int) ∧ j + n ≤ (nb : Int)) ∧ K L S' (mzCp μ ka i.toNat kb j.toNat n.toNat)))
      | false => False)
    | _ => False)
  | 4 => (match S with
    | some (.inr (.inr (.inr (300, o)))) :: S' => (match Nat.ble (mzSz S') 8 with
      | true => o < 14 ∧ K L (mzI (mzSl o) :: S') μ
      | false => False)
    | _ => False)
  | 5 => (match S with
    | some (.inl i) :: some (.inr (.inr (.inr (300, o)))) :: S' => (match Nat.ble (mzSz S') 8 with
      | true => (o < 14 ∧ 0 ≤ i ∧ i < mzSl o) ∧ K L (mzI (mzSc o i.toNat) :: S') μ
      | false => False)
    | _ => False)
  | _ => False
def mzInv (d : Nat) (st : Bool) (b c : Nat) (K : List mzV → List mzV → mzM → Prop) (L S : List mzV) (μ : mzM) : Prop := match d with
  | 0 => False
  | d + 1 => (match b with
    | 0 => mzPr c K L S μ
    | _ => (match Nat.ble (mzSz (S.drop c)) 8 && (Nat.ble c S.length && Nat.ble (mzLay (S.take c).reverse).length (mzNl b)) with
      | true => (match st with
        | true => mzCall d b (S.take c).reverse μ (fun v μ' => K L (mzPu v (S.drop c)) μ')
        | false => mzRc (mzOw b) ((S.take c).reverse.headD none) (mzCall d b (S.take c).reverse μ (fun v μ' => K L (mzPu v (S.drop c)) μ')))
      | false => False))
/-- one instruction, V what comes behind it -/
def mzStp (d y : Nat) (cd : List mzO) (Q : mzV → mzM → Prop) (V : List mzO → List mzV → List mzV → mzM → Prop) (pc : Nat) (i : Instr) (a : Int) (b c : Nat) (r : List mzO) (L S : List mzV) (μ : mzM) : Prop := match i with
  | .goto _ => V (mzDr cd b) L S μ
  | .ifCond q _ => (match S with
    | some (.inl x) :: S' => mzIf q x 0 (V (mzDr cd b) L S' μ) (V r L S' μ)
    | _ => False)
  | .if_icmp q _ => (match S with
    | some (.inl v) :: some (.inl x) :: S' => mzIf q x v (V (mzDr cd b) L S' μ) (V r L S' μ)
    | _ => False)
  | .tableswitch dflt lo hi offs => (match S with
    | some (.inl x) :: S' => mzTs pc offs.toList lo x (fun t => V (mzDr cd t) L S' μ) ∧ ((x < lo ∨ hi < x) → V (mzDr cd ((pc : Int) + dflt).toNat) L S' μ)
    | _ => False)
  | .lookupswitch dflt ps => (match S with
    | some (.inl x) :: S' => mzLs pc ps.toList x (fun t => V (mzDr cd t) L S' μ) (V (mzDr cd ((pc : Int) + dflt).toNat) L S' μ)
    | _ => False)
  | .ireturn => (match S with
    | [some (.inl x)] => (match c with
      | 0 => Q (mzI x) μ
      | _ => (x = 0 ∨ x = 1) ∧ Q (mzI x) μ)
    | _ => False)
  | .lreturn => (match S with
    | [some (.inr (.inl x))] => Q (mzL x) μ
    | _ => False)
  | .areturn => (match S with
    | [some (.inr (.inr (.inr (p, o))))] => Q (mzP p o) μ
    | _ => False)
  | .return_ => (match S with
    | [] => Q none μ
    | _ => False)
  | .invokevirtual _ => mzInv d false b c (fun L S μ => V r L S μ) L S μ
  | .invokestatic _ => mzInv d true b c (fun L S μ => V r L S μ) L S μ
  | i => mz1 i a b c y (fun L S μ => V r L S μ) L S μ
def mzVc (d y : Nat) (cd : List mzO) (Q : mzV → mzM → Prop) (cuts : List (Nat × List Bool)) : Nat → List mzO → List mzV → List mzV → mzM → Prop
  | 0, _, _, _, _ => False
  | n + 1, r, L, S, μ => match r with
    | [] => False
    | (pc, i, a, b, c) :: r' => match mzIn pc cuts with
      | some k => mzWp d y pc (mzMask k L) S μ Q
      | none => mzStp d y cd Q (mzVc d y cd Q cuts n) pc i a b c r' L S μ
/-- from an instruction on, that one whether it is a cut or not -/
def mzVg (d y : Nat) (cd : List mzO) (Q : mzV → mzM → Prop) (cuts : List (Nat × List Bool)) (n pc : Nat) (L S : List mzV) (μ : mzM) : Prop := match mzDr cd pc with
  | [] => False
  | (pc, i, a, b, c) :: r' => mzStp d y cd Q (mzVc d y cd Q cuts n) pc i a b c r' L S μ
