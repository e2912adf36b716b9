/-! the bytes of an instruction: told once for each kind, so that a method's code is looked at byte by byte -/
def mzHi (n : Int) : Nat := ((n % 65536) / 256).toNat
def mzLo (n : Int) : Nat := (n % 256).toNat
def mzCo (q : Jvm.ClassFile.Cond) : Nat := match q with
  | .eq => 0
  | .ne => 1
  | .lt => 2
  | .ge => 3
  | .gt => 4
  | .le => 5
def mzBy1 (i : Instr) : List Nat := match i with
  | .iaload => [46]
  | .aaload => [50]
  | .iastore => [79]
  | .pop => [87]
  | .pop2 => [88]
  | .dup => [89]
  | .dup2 => [92]
  | .iadd => [96]
  | .ladd => [97]
  | .isub => [100]
  | .imul => [104]
  | .lmul => [105]
  | .idiv => [108]
  | .irem => [112]
  | .ishl => [120]
  | .ishr => [122]
  | .iushr => [124]
  | .iand => [126]
  | .ior => [128]
  | .ixor => [130]
  | .i2l => [133]
  | .i2b => [145]
  | .i2s => [147]
  | .lcmp => [148]
  | .ireturn => [172]
  | .lreturn => [173]
  | .areturn => [176]
  | .return_ => [177]
  | .arraylength => [190]
  | .ldc k => [18, k]
  | .iload k => [21, k]
  | .lload k => [22, k]
  | .aload k => [25, k]
  | .istore k => [54, k]
  | .lstore k => [55, k]
  | .astore k => [58, k]
  | .ldc_w k => [19, k / 256, k % 256]
  | .ldc2_w k => [20, k / 256, k % 256]
  | .getstatic k => [178, k / 256, k % 256]
  | .getfield k => [180, k / 256, k % 256]
  | .putfield k => [181, k / 256, k % 256]
  | .invokevirtual k => [182, k / 256, k % 256]
  | .invokestatic k => [184, k / 256, k % 256]
  | .iload_n k => [26 + k.val]
  | .lload_n k => [30 + k.val]
  | .aload_n k => [42 + k.val]
  | .istore_n k => [59 + k.val]
  | .lstore_n k => [63 + k.val]
  | .astore_n k => [75 + k.val]
  | .iconst n => [(n + 3).toNat]
  | .lconst n => [9 + n.val]
  | .bipush n => [16, mzLo n]
  | .sipush n => [17, mzHi n, mzLo n]
  | .iinc k n => [132, k, mzLo n]
  | .ifCond q n => [153 + mzCo q, mzHi n, mzLo n]
  | .if_icmp q n => [159 + mzCo q, mzHi n, mzLo n]
  | .goto n => [167, mzHi n, mzLo n]
  | _ => []
def mzEn1 (i : Instr) : Bool := match i with
  | .iaload => true
  | .aaload => true
  | .iastore => true
  | .pop => true
  | .pop2 => true
  | .dup => true
  | .dup2 => true
  | .iadd => true
  | .ladd => true
  | .isub => true
  | .imul => true
  | .lmul => true
  | .idiv => true
  | .irem => true
  | .ishl => true
  | .ishr => true
  | .iushr => true
  | .iand => true
  | .ior => true
  | .ixor => true
  | .i2l => true
  | .i2b => true
  | .i2s => true
  | .lcmp => true
  | .ireturn => true
  | .lreturn => true
  | .areturn => true
  | .return_ => true
  | .arraylength => true
  | .ldc _ => true
  | .iload _ => true
  | .lload _ => true
  | .aload _ => true
  | .istore _ => true
  | .lstore _ => true
  | .astore _ => true
  | .ldc_w _ => true
  | .ldc2_w _ => true
  | .getstatic _ => true
  | .getfield _ => true
  | .putfield _ => true
  | .invokevirtual _ => true
  | .invokestatic _ => true
  | .iload_n _ => true
  | .lload_n _ => true
  | .aload_n _ => true
  | .istore_n _ => true
  | .lstore_n _ => true
  | .astore_n _ => true
  | .iconst n => decide (-1 ≤ n ∧ n ≤ 5)
  | .lconst _ => true
  | .bipush n => decide (-128 ≤ n ∧ n < 128)
  | .sipush n => decide (-32768 ≤ n ∧ n < 32768)
  | .iinc _ n => decide (-128 ≤ n ∧ n < 128)
  | .ifCond _ n => decide (-32768 ≤ n ∧ n < 32768)
  | .if_icmp _ n => decide (-32768 ≤ n ∧ n < 32768)
  | .goto n => decide (-32768 ≤ n ∧ n < 32768)
  | _ => false
section MZD
variable {code : ByteArray} {pc : Nat}
def mzAt (code : ByteArray) (p b : Nat) : Prop := ∃ u : UInt8, code.data.toList[p]? = some u ∧ u.toNat = b
theorem mz_u1 {p b : Nat} (h : mzAt code p b) : (Reader.u1 : Decoder Nat) code p = .ok (b, p + 1) := by
  obtain ⟨u, hu, rfl⟩ := h
  have hl : p < code.data.toList.length := (List.getElem?_eq_some_iff.mp hu).1
  have hs : p < code.size := by rw [ByteArray.size]; simpa using hl
  have hv : code[p] = u := by
    have := (List.getElem?_eq_some_iff.mp hu).2
    show code.data[p] = u
    simpa using this
  show (if h : p < code.size then _ else _ : Reader DecodeError Nat) code p = _
  simp only [hs, dite_true]
  rw [← hv]
  rfl
theorem mz_bind {α β : Type} {r : Decoder α} {F : α → Decoder β} {p q : Nat} {a : α} (h : r code p = .ok (a, q)) : (r >>= F) code p = F a code q := by
  show Except.bind (r code p) _ = _
  rw [h]
  rfl
theorem mz_u2 {p a b : Nat} (h1 : mzAt code p a) (h2 : mzAt code (p + 1) b) : (Reader.u2 : Decoder Nat) code p = .ok (a * 256 + b, p + 2) := (mz_bind (mz_u1 h1)).trans ((mz_bind (mz_u1 h2)).trans rfl)
theorem mz_s1 {p a : Nat} (h1 : mzAt code p a) : (Reader.s1 : Decoder Int) code p = .ok (Reader.signed 8 a, p + 1) := (mz_bind (F := fun n => pure (Reader.signed 8 n)) (mz_u1 h1)).trans rfl
theorem mz_s2 {p a b : Nat} (h1 : mzAt code p a) (h2 : mzAt code (p + 1) b) : (Reader.s2 : Decoder Int) code p = .ok (Reader.signed 16 (a * 256 + b), p + 2) := (mz_bind (F := fun n => pure (Reader.signed 16 n)) (mz_u2 h1 h2)).trans rfl
theorem mz_dec {i : Instr} {n : Nat} (h : Decoder.instr pc code pc = .ok (i, pc + n)) : decode code pc = .ok (i, n) := by
  show Except.bind (Decoder.instr pc code pc) _ = _
  rw [h]
  show Except.ok (i, pc + n - pc) = _
  rw [Nat.add_sub_cancel_left]
theorem mz_sg8 {n : Int} (h : -128 ≤ n ∧ n < 128) : Reader.signed 8 (mzLo n) = n := by
  unfold Reader.signed mzLo
  split <;> omega
theorem mz_sg16 {n : Int} (h : -32768 ≤ n ∧ n < 32768) : Reader.signed 16 (mzHi n * 256 + mzLo n) = n := by
  unfold Reader.signed mzLo mzHi
  split <;> omega
theorem mz_k16 (k : Nat) : k / 256 * 256 + k % 256 = k := by omega
theorem mz_enc {i : Instr} (hok : mzEn1 i = true) (h : ∀ k b, (mzBy1 i)[k]? = some b → mzAt code (pc + k) b) : decode code pc = .ok (i, (mzBy1 i).length) := by
  cases i with
  | iaload => exact mz_dec ((mz_bind (mz_u1 (h 0 _ rfl))).trans rfl)
  | aaload => exact mz_dec ((mz_bind (mz_u1 (h 0 _ rfl))).trans rfl)
  | iastore => exact mz_dec ((mz_bind (mz_u1 (h 0 _ rfl))).trans rfl)
  | pop => exact mz_dec ((mz_bind (mz_u1 (h 0 _ rfl))).trans rfl)
  | pop2 => exact mz_dec ((mz_bind (mz_u1 (h 0 _ rfl))).trans rfl)
  | dup => exact mz_dec ((mz_bind (mz_u1 (h 0 _ rfl))).trans rfl)
  | dup2 => exact mz_dec ((mz_bind (mz_u1 (h 0 _ rfl))).trans rfl)
  | iadd => exact mz_dec ((mz_bind (mz_u1 (h 0 _ rfl))).trans rfl)
  | ladd => exact mz_dec ((mz_bind (mz_u1 (h 0 _ rfl))).trans rfl)
  | isub => exact mz_dec ((mz_bind (mz_u1 (h 0 _ rfl))).trans rfl)
  | imul => exact mz_dec ((mz_bind (mz_u1 (h 0 _ rfl))).trans rfl)
  | lmul => exact mz_dec ((mz_bind (mz_u1 (h 0 _ rfl))).trans rfl)
  | idiv => exact mz_dec ((mz_bind (mz_u1 (h 0 _ rfl))).trans rfl)
  | irem => exact mz_dec ((mz_bind (mz_u1 (h 0 _ rfl))).trans rfl)
  | ishl => exact mz_dec ((mz_bind (mz_u1 (h 0 _ rfl))).trans rfl)
  | ishr => exact mz_dec ((mz_bind (mz_u1 (h 0 _ rfl))).trans rfl)
  | iushr => exact mz_dec ((mz_bind (mz_u1 (h 0 _ rfl))).trans rfl)
  | iand => exact mz_dec ((mz_bind (mz_u1 (h 0 _ rfl))).trans rfl)
  | ior => exact mz_dec ((mz_bind (mz_u1 (h 0 _ rfl))).trans rfl)
  | ixor => exact mz_dec ((mz_bind (mz_u1 (h 0 _ rfl))).trans rfl)
  | i2l => exact mz_dec ((mz_bind (mz_u1 (h 0 _ rfl))).trans rfl)
  | i2b => exact mz_dec ((mz_bind (mz_u1 (h 0 _ rfl))).trans rfl)
  | i2s => exact mz_dec ((mz_bind (mz_u1 (h 0 _ rfl))).trans rfl)
  | lcmp => exact mz_dec ((mz_bind (mz_u1 (h 0 _ rfl))).trans rfl)
  | ireturn => exact mz_dec ((mz_bind (mz_u1 (h 0 _ rfl))).trans rfl)
  | lreturn => exact mz_dec ((mz_bind (mz_u1 (h 0 _ rfl))).trans rfl)
  | areturn => exact mz_dec ((mz_bind (mz_u1 (h 0 _ rfl))).trans rfl)
  | return_ => exact mz_dec ((mz_bind (mz_u1 (h 0 _ rfl))).trans rfl)
  | arraylength => exact mz_dec ((mz_bind (mz_u1 (h 0 _ rfl))).trans rfl)
  | ldc k => exact mz_dec ((mz_bind (mz_u1 (h 0 _ rfl))).trans ((mz_bind (mz_u1 (h 1 _ rfl))).trans rfl))
  | iload k => exact mz_dec ((mz_bind (mz_u1 (h 0 _ rfl))).trans ((mz_bind (mz_u1 (h 1 _ rfl))).trans rfl))
  | lload k => exact mz_dec ((mz_bind (mz_u1 (h 0 _ rfl))).trans ((mz_bind (mz_u1 (h 1 _ rfl))).trans rfl))
  | aload k => exact mz_dec ((mz_bind (mz_u1 (h 0 _ rfl))).trans ((mz_bind (mz_u1 (h 1 _ rfl))).trans rfl))
  | istore k => exact mz_dec ((mz_bind (mz_u1 (h 0 _ rfl))).trans ((mz_bind (mz_u1 (h 1 _ rfl))).trans rfl))
  | lstore k => exact mz_dec ((mz_bind (mz_u1 (h 0 _ rfl))).trans ((mz_bind (mz_u1 (h 1 _ rfl))).trans rfl))
  | astore k => exact mz_dec ((mz_bind (mz_u1 (h 0 _ rfl))).trans ((mz_bind (mz_u1 (h 1 _ rfl))).trans rfl))
  | ldc_w k => exact mz_dec ((mz_bind (mz_u1 (h 0 _ rfl))).trans ((mz_bind (mz_u2 (h 1 _ rfl) (h 2 _ rfl))).trans (by rw [mz_k16]; rfl)))
  | ldc2_w k => exact mz_dec ((mz_bind (mz_u1 (h 0 _ rfl))).trans ((mz_bind (mz_u2 (h 1 _ rfl) (h 2 _ rfl))).trans (by rw [mz_k16]; rfl)))
  | getstatic k => exact mz_dec ((mz_bind (mz_u1 (h 0 _ rfl))).trans ((mz_bind (mz_u2 (h 1 _ rfl) (h 2 _ rfl))).trans (by rw [mz_k16]; rfl)))
  | getfield k => exact mz_dec ((mz_bind (mz_u1 (h 0 _ rfl))).trans ((mz_bind (mz_u2 (h 1 _ rfl) (h 2 _ rfl))).trans (by rw [mz_k16]; rfl)))
  | putfield k => exact mz_dec ((mz_bind (mz_u1 (h 0 _ rfl))).trans ((mz_bind (mz_u2 (h 1 _ rfl) (h 2 _ rfl))).trans (by rw [mz_k16]; rfl)))
  | invokevirtual k => exact mz_dec ((mz_bind (mz_u1 (h 0 _ rfl))).trans ((mz_bind (mz_u2 (h 1 _ rfl) (h 2 _ rfl))).trans (by rw [mz_k16]; rfl)))
  | invokestatic k => exact mz_dec ((mz_bind (mz_u1 (h 0 _ rfl))).trans ((mz_bind (mz_u2 (h 1 _ rfl) (h 2 _ rfl))).trans (by rw [mz_k16]; rfl)))
  | iload_n k =>
    match k, h with
    | 0, h => exact mz_dec ((mz_bind (mz_u1 (b := 26) (h 0 _ rfl))).trans rfl)
    | 1, h => exact mz_dec ((mz_bind (mz_u1 (b := 27) (h 0 _ rfl))).trans rfl)
    | 2, h => exact mz_dec ((mz_bind (mz_u1 (b := 28) (h 0 _ rfl))).trans rfl)
    | 3, h => exact mz_dec ((mz_bind (mz_u1 (b := 29) (h 0 _ rfl))).trans rfl)
  | lload_n k =>
    match k, h with
    | 0, h => exact mz_dec ((mz_bind (mz_u1 (b := 30) (h 0 _ rfl))).trans rfl)
    | 1, h => exact mz_dec ((mz_bind (mz_u1 (b := 31) (h 0 _ rfl))).trans rfl)
    | 2, h => exact mz_dec ((mz_bind (mz_u1 (b := 32) (h 0 _ rfl))).trans rfl)
    | 3, h => exact mz_dec ((mz_bind (mz_u1 (b := 33) (h 0 _ rfl))).trans rfl)
  | aload_n k =>
    match k, h with
    | 0, h => exact mz_dec ((mz_bind (mz_u1 (b := 42) (h 0 _ rfl))).trans rfl)
    | 1, h => exact mz_dec ((mz_bind (mz_u1 (b := 43) (h 0 _ rfl))).trans rfl)
    | 2, h => exact mz_dec ((mz_bind (mz_u1 (b := 44) (h 0 _ rfl))).trans rfl)
    | 3, h => exact mz_dec ((mz_bind (mz_u1 (b := 45) (h 0 _ rfl))).trans rfl)
  | istore_n k =>
    match k, h with
    | 0, h => exact mz_dec ((mz_bind (mz_u1 (b := 59) (h 0 _ rfl))).trans rfl)
    | 1, h => exact mz_dec ((mz_bind (mz_u1 (b := 60) (h 0 _ rfl))).trans rfl)
    | 2, h => exact mz_dec ((mz_bind (mz_u1 (b := 61) (h 0 _ rfl))).trans rfl)
    | 3, h => exact mz_dec ((mz_bind (mz_u1 (b := 62) (h 0 _ rfl))).trans rfl)
  | lstore_n k =>
    match k, h with
    | 0, h => exact mz_dec ((mz_bind (mz_u1 (b := 63) (h 0 _ rfl))).trans rfl)
    | 1, h => exact mz_dec ((mz_bind (mz_u1 (b := 64) (h 0 _ rfl))).trans rfl)
    | 2, h => exact mz_dec ((mz_bind (mz_u1 (b := 65) (h 0 _ rfl))).trans rfl)
    | 3, h => exact mz_dec ((mz_bind (mz_u1 (b := 66) (h 0 _ rfl))).trans rfl)
  | astore_n k =>
    match k, h with
    | 0, h => exact mz_dec ((mz_bind (mz_u1 (b := 75) (h 0 _ rfl))).trans rfl)
    | 1, h => exact mz_dec ((mz_bind (mz_u1 (b := 76) (h 0 _ rfl))).trans rfl)
    | 2, h => exact mz_dec ((mz_bind (mz_u1 (b := 77) (h 0 _ rfl))).trans rfl)
    | 3, h => exact mz_dec ((mz_bind (mz_u1 (b := 78) (h 0 _ rfl))).trans rfl)
  | iconst n =>
    have hn : -1 ≤ n ∧ n ≤ 5 := of_decide_eq_true hok
    have hc : n = -1 ∨ n = 0 ∨ n = 1 ∨ n = 2 ∨ n = 3 ∨ n = 4 ∨ n = 5 := by omega
    rcases hc with rfl | rfl | rfl | rfl | rfl | rfl | rfl
    · exact mz_dec ((mz_bind (mz_u1 (b := 2) (h 0 _ rfl))).trans rfl)
    · exact mz_dec ((mz_bind (mz_u1 (b := 3) (h 0 _ rfl))).trans rfl)
    · exact mz_dec ((mz_bind (mz_u1 (b := 4) (h 0 _ rfl))).trans rfl)
    · exact mz_dec ((mz_bind (mz_u1 (b := 5) (h 0 _ rfl))).trans rfl)
    · exact mz_dec ((mz_bind (mz_u1 (b := 6) (h 0 _ rfl))).trans rfl)
    · exact mz_dec ((mz_bind (mz_u1 (b := 7) (h 0 _ rfl))).trans rfl)
    · exact mz_dec ((mz_bind (mz_u1 (b := 8) (h 0 _ rfl))).trans rfl)
  | lconst k =>
    match k, h with
    | 0, h => exact mz_dec ((mz_bind (mz_u1 (b := 9) (h 0 _ rfl))).trans rfl)
    | 1, h => exact mz_dec ((mz_bind (mz_u1 (b := 10) (h 0 _ rfl))).trans rfl)
  | bipush n => exact mz_dec ((mz_bind (mz_u1 (h 0 _ rfl))).trans ((mz_bind (mz_s1 (h 1 _ rfl))).trans (by rw [mz_sg8 (of_decide_eq_true hok)]; rfl)))
  | sipush n => exact mz_dec ((mz_bind (mz_u1 (h 0 _ rfl))).trans ((mz_bind (mz_s2 (h 1 _ rfl) (h 2 _ rfl))).trans (by rw [mz_sg16 (of_decide_eq_true hok)]; rfl)))
  | iinc k n => exact mz_dec ((mz_bind (mz_u1 (h 0 _ rfl))).trans ((mz_bind (mz_u1 (h 1 _ rfl))).trans ((mz_bind (mz_s1 (h 2 _ rfl))).trans (by rw [mz_sg8 (of_decide_eq_true hok)]; rfl))))
  | goto n => exact mz_dec ((mz_bind (mz_u1 (h 0 _ rfl))).trans ((mz_bind (mz_s2 (h 1 _ rfl) (h 2 _ rfl))).trans (by rw [mz_sg16 (of_decide_eq_true hok)]; rfl)))
  | ifCond q n =>
    cases q with
    | eq => exact mz_dec ((mz_bind (mz_u1 (b := 153) (h 0 _ rfl))).trans ((mz_bind (mz_s2 (h 1 _ rfl) (h 2 _ rfl))).trans (by rw [mz_sg16 (of_decide_eq_true hok)]; rfl)))
    | ne => exact mz_dec ((mz_bind (mz_u1 (b := 154) (h 0 _ rfl))).trans ((mz_bind (mz_s2 (h 1 _ rfl) (h 2 _ rfl))).trans (by rw [mz_sg16 (of_decide_eq_true hok)]; rfl)))
    | lt => exact mz_dec ((mz_bind (mz_u1 (b := 155) (h 0 _ rfl))).trans ((mz_bind (mz_s2 (h 1 _ rfl) (h 2 _ rfl))).trans (by rw [mz_sg16 (of_decide_eq_true hok)]; rfl)))
    | ge => exact mz_dec ((mz_bind (mz_u1 (b := 156) (h 0 _ rfl))).trans ((mz_bind (mz_s2 (h 1 _ rfl) (h 2 _ rfl))).trans (by rw [mz_sg16 (of_decide_eq_true hok)]; rfl)))
    | gt => exact mz_dec ((mz_bind (mz_u1 (b := 157) (h 0 _ rfl))).trans ((mz_bind (mz_s2 (h 1 _ rfl) (h 2 _ rfl))).trans (by rw [mz_sg16 (of_decide_eq_true hok)]; rfl)))
    | le => exact mz_dec ((mz_bind (mz_u1 (b := 158) (h 0 _ rfl))).trans ((mz_bind (mz_s2 (h 1 _ rfl) (h 2 _ rfl))).trans (by rw [mz_sg16 (of_decide_eq_true hok)]; rfl)))
  | if_icmp q n =>
    cases q with
    | eq => exact mz_dec ((mz_bind (mz_u1 (b := 159) (h 0 _ rfl))).trans ((mz_bind (mz_s2 (h 1 _ rfl) (h 2 _ rfl))).trans (by rw [mz_sg16 (of_decide_eq_true hok)]; rfl)))
    | ne => exact mz_dec ((mz_bind (mz_u1 (b := 160) (h 0 _ rfl))).trans ((mz_bind (mz_s2 (h 1 _ rfl) (h 2 _ rfl))).trans (by rw [mz_sg16 (of_decide_eq_true hok)]; rfl)))
    | lt => exact mz_dec ((mz_bind (mz_u1 (b := 161) (h 0 _ rfl))).trans ((mz_bind (mz_s2 (h 1 _ rfl) (h 2 _ rfl))).trans (by rw [mz_sg16 (of_decide_eq_true hok)]; rfl)))
    | ge => exact mz_dec ((mz_bind (mz_u1 (b := 162) (h 0 _ rfl))).trans ((mz_bind (mz_s2 (h 1 _ rfl) (h 2 _ rfl))).trans (by rw [mz_sg16 (of_decide_eq_true hok)]; rfl)))
    | gt => exact mz_dec ((mz_bind (mz_u1 (b := 163) (h 0 _ rfl))).trans ((mz_bind (mz_s2 (h 1 _ rfl) (h 2 _ rfl))).trans (by rw [mz_sg16 (of_decide_eq_true hok)]; rfl)))
    | le => exact mz_dec ((mz_bind (mz_u1 (b := 164) (h 0 _ rfl))).trans ((mz_bind (mz_s2 (h 1 _ rfl) (h 2 _ rfl))).trans (by rw [mz_sg16 (of_decide_eq_true hok)]; rfl)))
  | _ => exact absurd hok Bool.false_ne_true
end MZD
def mzLn (i : Instr) : Nat := match i with
  | .bipush _ => 2
  | .sipush _ => 3
  | .ldc _ => 2
  | .ldc_w _ => 3
  | .ldc2_w _ => 3
  | .iload _ => 2
  | .lload _ => 2
  | .aload _ => 2
  | .istore _ => 2
  | .lstore _ => 2
  | .astore _ => 2
  | .iinc _ _ => 3
  | .getfield _ => 3
  | .putfield _ => 3
  | .getstatic _ => 3
  | .goto _ => 3
  | .ifCond _ _ => 3
  | .if_icmp _ _ => 3
  | .invokevirtual _ => 3
  | .invokestatic _ => 3
  | _ => 1

def mzSw (i : Instr) : Bool := match i with
  | .tableswitch _ _ _ _ => true
  | .lookupswitch _ _ => true
  | _ => false
/-- an instruction's length as the code has it -/
def mzLb (e : mzO) : Nat := match mzSw e.2.1 with
  | true => e.2.2.2.1
  | false => mzLn e.2.1
def mzPfx : List Nat → List UInt8 → Option (List UInt8)
  | [], bs => some bs
  | _ :: _, [] => none
  | n :: ns, b :: bs => match Nat.beq b.toNat n with
    | true => mzPfx ns bs
    | false => none
/-- the code's bytes from pc on are those of the instructions -/
def mzBts : Nat → List mzO → List UInt8 → Bool
  | _, [], _ => true
  | pc, (p, i, a, b, c) :: r, bs => Nat.beq p pc && (match mzSw i with
    | true => mzBts (pc + b) r (bs.drop b)
    | false => mzEn1 i && (Nat.beq (mzBy1 i).length (mzLn i) && (match mzPfx (mzBy1 i) bs with
      | some bs' => mzBts (pc + mzLn i) r bs'
      | none => false)))
theorem mz_prep : ∀ (ns : List Nat) (bs bs' : List UInt8), mzPfx ns bs = some bs' → bs' = bs.drop ns.length ∧ ∀ (k b : Nat), ns[k]? = some b → ∃ u : UInt8, bs[k]? = some u ∧ u.toNat = b := by
  intro ns
  induction ns with
  | nil =>
    intro bs bs' h
    cases h
    exact ⟨rfl, fun k b hk => by simp at hk⟩
  | cons n ns ih =>
    intro bs bs' h
    cases bs with
    | nil => cases h
    | cons u bs =>
      unfold mzPfx at h
      split at h
      · next hb =>
        obtain ⟨h1, h2⟩ := ih bs bs' h
        refine ⟨h1, fun k b hk => ?_⟩
        cases k with
        | zero =>
          cases hk
          exact ⟨u, rfl, Nat.eq_of_beq_eq_true hb⟩
        | succ k => exact h2 k b hk
      · cases h
theorem mz_bts {code : ByteArray} : ∀ (cd : List mzO) (pc : Nat) (bs : List UInt8), bs = code.data.toList.drop pc → mzBts pc cd bs = true → ∀ e ∈ cd, mzSw e.2.1 = false → decode code e.1 = .ok (e.2.1, mzLn e.2.1) := by
  intro cd
  induction cd with
  | nil => intro pc bs _ _ e he; cases he
  | cons z r ih =>
    obtain ⟨p, i, a, b, c⟩ := z
    intro pc bs hbs h e he hsw
    simp only [mzBts, Bool.and_eq_true] at h
    obtain ⟨hp, h⟩ := h
    have hp := Nat.eq_of_beq_eq_true hp
    subst hp
    split at h
    · next hs =>
      rcases List.mem_cons.mp he with rfl | he
      · rw [hs] at hsw
        cases hsw
      · exact ih (p + b) _ (by rw [hbs, List.drop_drop]) h e he hsw
    · next hs =>
      simp only [Bool.and_eq_true] at h
      obtain ⟨h1, h2, h3⟩ := h
      have h2 := Nat.eq_of_beq_eq_true h2
      split at h3
      · next bs' hb =>
        obtain ⟨g1, g2⟩ := mz_prep _ _ _ hb
        rcases List.mem_cons.mp he with rfl | he
        · show decode code p = .ok (i, mzLn i)
          rw [← h2]
          refine mz_enc h1 (fun k b hk => ?_)
          obtain ⟨u, hu, hv⟩ := g2 k b hk
          rw [hbs, List.getElem?_drop] at hu
          exact ⟨u, hu, hv⟩
        · exact ih (p + mzLn i) _ (by rw [g1, hbs, List.drop_drop, h2]) h3 e he hsw
      · cases h3

