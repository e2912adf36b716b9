/-! what is looked at in an instruction ahead of time, and that the machine follows one instruction -/
def mzO1 (y pc : Nat) (i : Instr) (a : Int) (b c : Nat) : Bool := match i with
  | .iconst n => decide (-2147483648 ≤ n ∧ n < 2147483648)
  | .bipush n => decide (-128 ≤ n ∧ n < 128)
  | .sipush n => decide (-32768 ≤ n ∧ n < 32768)
  | .ldc k => (match c with
    | 0 => decide ((mzOw y, k, a) ∈ mzCL)
    | _ => decide ((mzOw y, k, b) ∈ mzSL))
  | .ldc_w k => decide ((mzOw y, k, a) ∈ mzCL)
  | .ldc2_w k => decide ((mzOw y, k, a) ∈ mzJL)
  | .istore k => decide (k < mzNl y)
  | .istore_n k => decide (k.val < mzNl y)
  | .lstore k => decide (k + 1 < mzNl y)
  | .lstore_n k => decide (k.val + 1 < mzNl y)
  | .astore k => decide (k < mzNl y)
  | .astore_n k => decide (k.val < mzNl y)
  | .iinc k _ => decide (k < mzNl y)
  | .getfield k => decide ((mzOw y, k, mzCc c, b, 0) ∈ mzFL ∨ (mzOw y, k, mzCc c, b, 1) ∈ mzFL)
  | .putfield k => decide ((mzOw y, k, mzCc c, b, 0) ∈ mzFL ∨ (mzOw y, k, mzCc c, b, 1) ∈ mzFL) && (decide ((mzFq (mzCc c) b).2.2.2 = false) && (match Nat.ble 100 c with
    | true => decide ((mzFq (mzCc c) b).2.2.1 = "Z")
    | false => decide ((mzFq (mzCc c) b).2.2.1 = "I")))
  | .getstatic k => decide ((mzOw y, k, b) ∈ mzTL)
  | _ => true
theorem mz_i8 {n : Int} (h : -128 ≤ n ∧ n < 128) : (Int8.ofInt n).toInt32 = Int32.ofInt n := by
  rw [← mz_ofInt_toInt (Int8.ofInt n).toInt32, Int8.toInt_toInt32, Int8.toInt_ofInt, Int.bmod_def]
  have e : Int8.size = 256 := rfl
  rw [e]
  congr 1
  omega
theorem mz_i16 {n : Int} (h : -32768 ≤ n ∧ n < 32768) : (Int16.ofInt n).toInt32 = Int32.ofInt n := by
  rw [← mz_ofInt_toInt (Int16.ofInt n).toInt32, Int16.toInt_toInt32, Int16.toInt_ofInt, Int.bmod_def]
  have e : Int16.size = 65536 := rfl
  rw [e]
  congr 1
  omega
theorem mz_i2l {u : Int} (h : -2147483648 ≤ u ∧ u < 2147483648) : (Int32.ofInt u).toInt64 = Int64.ofInt u := by
  rw [← mz_ofInt_toInt64 ((Int32.ofInt u).toInt64), Int32.toInt_toInt64, mz_id h]
theorem mz_cmp {u v : Int} (hu : -9223372036854775808 ≤ u ∧ u < 9223372036854775808) (hv : -9223372036854775808 ≤ v ∧ v < 9223372036854775808) : lg_cmp (Int64.ofInt u) (Int64.ofInt v) = Int32.ofInt (mzCmp u v) := by
  unfold lg_cmp mzCmp
  simp only [Int64.lt_iff_toInt_lt, mz_id64 hu, mz_id64 hv, show (Int64.ofInt u = Int64.ofInt v ↔ u = v) from ⟨fun h => by rw [← mz_id64 hu, ← mz_id64 hv, h], fun h => by rw [h]⟩]
  repeat' split
  all_goals first | rfl | omega
theorem mz_cmpb (u v : Int) : -2147483648 ≤ mzCmp u v ∧ mzCmp u v < 2147483648 := by
  unfold mzCmp
  split
  · omega
  · split <;> omega
theorem mz_num {G : mzG} {μ : mzM} (o : Nat) : mzFv G μ 1 (44 + o) 2 = mzC G (mzP 48 o) := by
  show Value.ref (mzAd G ((44 + o) + 4)) = .ref (mzAd G (48 + o))
  rw [show (44 + o) + 4 = 48 + o by omega]
section MZ1
variable {G : mzG} {p : Program} {l : Launch} {e : Env} {R : Room} {s : State} {m : MethodId} {args : Array Value} {below : List Frame} {meth : Method} {c : Code} {cells slots : Nat} {Z : State → Prop} {y d pc : Nat} {L S : List mzV} {μ : mzM}
theorem mz_go_b {pc : Nat} {L S : List mzV} {μ : mzM} (h : (∀ k j, -2147483648 ≤ μ k j ∧ μ k j < 2147483648) → mzGo G p l e R s m args below meth c cells slots Z y pc L S μ) : mzGo G p l e R s m args below meth c cells slots Z y pc L S μ :=
  fun H locs ls h1 h2 h3 h4 => h h1.2.1 H locs ls h1 h2 h3 h4
set_option maxHeartbeats 4000000 in
theorem mz1_ok (C : mzCx G p R s m args meth c y d cells slots) {i : Instr} {a : Int} {b c0 : Nat} {K : List mzV → List mzV → mzM → Prop} (hdg : decode (mzBy y) pc = .ok (i, mzLn i)) (hok : mzO1 y pc i a b c0 = true) (h : mz1 i a b c0 y K L S μ)
    (kk : ∀ L' S' μ', K L' S' μ' → mzGo G p l e R s m args below meth c cells slots Z y (pc + mzLn i) L' S' μ') : mzGo G p l e R s m args below meth c cells slots Z y pc L S μ := by
  cases i with
  | iconst n =>
    exact mzr_const C (of_decide_eq_true hok) (fun H locs ls rest g => lv_iconst C.1 C.2.1 hdg rfl g) (kk _ _ _ h)
  | bipush n =>
    have hn : -128 ≤ n ∧ n < 128 := of_decide_eq_true hok
    exact mzr_const C ⟨by omega, by omega⟩ (fun H locs ls rest g => lv_bipush C.1 C.2.1 hdg (mz_i8 hn) g) (kk _ _ _ h)
  | sipush n =>
    have hn : -32768 ≤ n ∧ n < 32768 := of_decide_eq_true hok
    exact mzr_const C ⟨by omega, by omega⟩ (fun H locs ls rest g => lv_sipush C.1 C.2.1 hdg (mz_i16 hn) g) (kk _ _ _ h)
  | ldc k =>
    cases c0 with
    | zero =>
      have hw := mz_CL _ (of_decide_eq_true (show decide ((mzOw y, k, a) ∈ mzCL) = true from hok))
      exact mzr_const C hw.2 (fun H locs ls rest g => lv_ldc C.1 C.2.1 C.2.2.2.2.2.1 (C.2.2.2.2.2.2.1 _ hw.1) hdg g) (kk _ _ _ h)
    | succ n =>
      have hw : (mzOw y, k, b) ∈ mzSL := of_decide_eq_true (show decide ((mzOw y, k, b) ∈ mzSL) = true from hok)
      have hz := C.2.2.2.2.2.2.2.1.2.2.2.1 _ hw
      exact mzr_push C (v := mzP 300 b) (by simp) (fun _ _ => trivial) (fun H locs ls rest _ _ g => va_ldcS C.1 C.2.1 C.2.2.2.2.2.1 hz hdg g) (kk _ _ _ h)
  | ldc_w k =>
    have hw := mz_CL _ (of_decide_eq_true (show decide ((mzOw y, k, a) ∈ mzCL) = true from hok))
    exact mzr_const C hw.2 (fun H locs ls rest g => lv_ldcw C.1 C.2.1 C.2.2.2.2.2.1 (C.2.2.2.2.2.2.1 _ hw.1) hdg g) (kk _ _ _ h)
  | ldc2_w k =>
    have hw := mz_JL _ (of_decide_eq_true (show decide ((mzOw y, k, a) ∈ mzJL) = true from hok))
    exact mzr_push C (v := mzL a) (by simp) (fun _ _ => hw.2) (fun H locs ls rest _ _ g => lv_ldc2 C.1 C.2.1 C.2.2.2.2.2.1 (C.2.2.2.2.2.2.1 _ hw.1) hdg g) (kk _ _ _ h)
  | lconst n =>
    exact mzr_push C (v := mzL ((n : Nat) : Int)) (by simp) (fun _ _ => by show -9223372036854775808 ≤ ((n : Nat) : Int) ∧ ((n : Nat) : Int) < 9223372036854775808; omega) (fun H locs ls rest _ _ g => lv_lconst C.1 C.2.1 hdg rfl g) (kk _ _ _ h)
  | iload k =>
    simp only [mz1] at h
    split at h
    · next x hx => exact mzr_push C (v := mzI x) (by simp) (fun ls hf => (hf.2.2.2 k _ (mz_gt hx)).2) (fun H locs ls rest _ hf g => lv_iload C.1 C.2.1 hdg (hf.2.2.2 k _ (mz_gt hx)).1 g) (kk _ _ _ h)
    · exact h.elim
  | iload_n k =>
    simp only [mz1] at h
    split at h
    · next x hx => exact mzr_push C (v := mzI x) (by simp) (fun ls hf => (hf.2.2.2 _ _ (mz_gt hx)).2) (fun H locs ls rest _ hf g => lv_iload_n C.1 C.2.1 hdg rfl (hf.2.2.2 _ _ (mz_gt hx)).1 g) (kk _ _ _ h)
    · exact h.elim
  | lload k =>
    simp only [mz1] at h
    split at h
    · next x hx => exact mzr_push C (v := mzL x) (by simp) (fun ls hf => (hf.2.2.2 k _ (mz_gt hx)).2) (fun H locs ls rest _ hf g => lv_lload C.1 C.2.1 hdg (hf.2.2.2 k _ (mz_gt hx)).1 g) (kk _ _ _ h)
    · exact h.elim
  | lload_n k =>
    simp only [mz1] at h
    split at h
    · next x hx => exact mzr_push C (v := mzL x) (by simp) (fun ls hf => (hf.2.2.2 _ _ (mz_gt hx)).2) (fun H locs ls rest _ hf g => lv_lload_n C.1 C.2.1 hdg rfl (hf.2.2.2 _ _ (mz_gt hx)).1 g) (kk _ _ _ h)
    · exact h.elim
  | aload k =>
    simp only [mz1] at h
    split at h
    · next v hx => 
      refine mzr_push C (v := some (.inr (.inr v))) (by simp) (fun ls hf => (hf.2.2.2 k _ (mz_gt hx)).2) (fun H locs ls rest _ hf g => ?_) (kk _ _ _ h)
      have hl := (hf.2.2.2 _ _ (mz_gt hx)).1
      match v, hl, g with
      | .inl k1, hl, g => exact lv_aload C.1 C.2.1 hdg hl g
      | .inr (p1, o1), hl, g => exact lv_aload C.1 C.2.1 hdg hl g
    · exact h.elim
  | aload_n k =>
    simp only [mz1] at h
    split at h
    · next v hx => 
      refine mzr_push C (v := some (.inr (.inr v))) (by simp) (fun ls hf => (hf.2.2.2 _ _ (mz_gt hx)).2) (fun H locs ls rest _ hf g => ?_) (kk _ _ _ h)
      have hl := (hf.2.2.2 _ _ (mz_gt hx)).1
      match v, hl, g with
      | .inl k1, hl, g => exact lv_aload_n C.1 C.2.1 hdg rfl hl g
      | .inr (p1, o1), hl, g => exact lv_aload_n C.1 C.2.1 hdg rfl hl g
    · exact h.elim
  | istore k =>
    have hn : k < mzNl y := of_decide_eq_true hok
    simp only [mz1] at h
    split at h
    · exact mzr_st C (k := k) rfl (fun H locs ls rest lv g1 g2 g3 => lv_istore C.1 C.2.1 hdg g1 hn g2 g3) (kk _ _ _ h)
    · exact h.elim
  | istore_n k =>
    have hn : k.val < mzNl y := of_decide_eq_true hok
    simp only [mz1] at h
    split at h
    · exact mzr_st C (k := k.val) rfl (fun H locs ls rest lv g1 g2 g3 => lv_istore_n C.1 C.2.1 hdg rfl g1 hn g2 g3) (kk _ _ _ h)
    · exact h.elim
  | lstore k =>
    have hn : k + 1 < mzNl y := of_decide_eq_true hok
    simp only [mz1] at h
    split at h
    · exact mzr_st2 C (k := k) (fun H locs ls rest lv g1 g2 g3 => lv_lstore C.1 C.2.1 hdg g1 hn g2 g3) (kk _ _ _ h)
    · exact h.elim
  | lstore_n k =>
    have hn : k.val + 1 < mzNl y := of_decide_eq_true hok
    simp only [mz1] at h
    split at h
    · exact mzr_st2 C (k := k.val) (fun H locs ls rest lv g1 g2 g3 => lv_lstore_n C.1 C.2.1 hdg rfl g1 hn g2 g3) (kk _ _ _ h)
    · exact h.elim
  | astore k =>
    have hn : k < mzNl y := of_decide_eq_true hok
    simp only [mz1] at h
    split at h
    · next v S' =>
      match v, h with
      | .inl k1, h => exact mzr_st C (v := mzR k1) (k := k) rfl (fun H locs ls rest lv g1 g2 g3 => lv_astore C.1 C.2.1 hdg g1 hn g2 g3) (kk _ _ _ h)
      | .inr (p1, o1), h => exact mzr_st C (v := mzP p1 o1) (k := k) rfl (fun H locs ls rest lv g1 g2 g3 => lv_astore C.1 C.2.1 hdg g1 hn g2 g3) (kk _ _ _ h)
    · exact h.elim
  | astore_n k =>
    have hn : k.val < mzNl y := of_decide_eq_true hok
    simp only [mz1] at h
    split at h
    · next v S' =>
      match v, h with
      | .inl k1, h => exact mzr_st C (v := mzR k1) (k := k.val) rfl (fun H locs ls rest lv g1 g2 g3 => lv_astore_n C.1 C.2.1 hdg rfl g1 hn g2 g3) (kk _ _ _ h)
      | .inr (p1, o1), h => exact mzr_st C (v := mzP p1 o1) (k := k.val) rfl (fun H locs ls rest lv g1 g2 g3 => lv_astore_n C.1 C.2.1 hdg rfl g1 hn g2 g3) (kk _ _ _ h)
    · exact h.elim
  | iinc k n =>
    have hn : k < mzNl y := of_decide_eq_true hok
    simp only [mz1] at h
    split at h
    · next x hx => exact mzr_iinc C hn hdg hx (kk _ _ _ h)
    · exact h.elim
  | iadd =>
    simp only [mz1] at h
    split at h
    · next v u _ => exact mzr_op2 C (w := mzI (mzW (u + v))) (by simp) (mz_Wb _) (fun H locs ls rest _ _ g => lv_iadd C.1 C.2.1 hdg (by rw [mz_add]; exact g)) (kk _ _ _ h)
    · exact h.elim
  | isub =>
    simp only [mz1] at h
    split at h
    · next v u _ => exact mzr_op2 C (w := mzI (mzW (u - v))) (by simp) (mz_Wb _) (fun H locs ls rest _ _ g => lv_isub C.1 C.2.1 hdg (by rw [mz_sub]; exact g)) (kk _ _ _ h)
    · exact h.elim
  | imul =>
    simp only [mz1] at h
    split at h
    · next v u _ => exact mzr_op2 C (w := mzI (mzW (u * v))) (by simp) (mz_Wb _) (fun H locs ls rest _ _ g => lv_imul C.1 C.2.1 hdg (by rw [mz_mul]; exact g)) (kk _ _ _ h)
    · exact h.elim
  | iand =>
    simp only [mz1] at h
    split at h
    · next v u _ => exact mzr_op2 C (w := mzI (mzAnd u v)) (by simp) (mz_bd _) (fun H locs ls rest _ _ g => lv_iand C.1 C.2.1 hdg (by rw [← mz_ofInt_toInt (Int32.ofInt u &&& Int32.ofInt v)]; exact g)) (kk _ _ _ h)
    · exact h.elim
  | ior =>
    simp only [mz1] at h
    split at h
    · next v u _ => exact mzr_op2 C (w := mzI (mzOr u v)) (by simp) (mz_bd _) (fun H locs ls rest _ _ g => lv_ior C.1 C.2.1 hdg (by rw [← mz_ofInt_toInt (Int32.ofInt u ||| Int32.ofInt v)]; exact g)) (kk _ _ _ h)
    · exact h.elim
  | ixor =>
    simp only [mz1] at h
    split at h
    · next v u _ => exact mzr_op2 C (w := mzI (mzXor u v)) (by simp) (mz_bd _) (fun H locs ls rest _ _ g => lv_ixor C.1 C.2.1 hdg (by rw [← mz_ofInt_toInt (Int32.ofInt u ^^^ Int32.ofInt v)]; exact g)) (kk _ _ _ h)
    · exact h.elim
  | ishl =>
    simp only [mz1] at h
    split at h
    · next v u _ => exact mzr_op2 C (w := mzI (mzShl u v)) (by simp) (mz_bd _) (fun H locs ls rest _ _ g => lv_ishl C.1 C.2.1 hdg (by rw [← mz_ofInt_toInt (Int32.ofInt u <<< (Int32.ofInt v &&& 31))]; exact g)) (kk _ _ _ h)
    · exact h.elim
  | ishr =>
    simp only [mz1] at h
    split at h
    · next v u _ => exact mzr_op2 C (w := mzI (mzShr u v)) (by simp) (mz_bd _) (fun H locs ls rest _ _ g => lv_ishr C.1 C.2.1 hdg (by rw [← mz_ofInt_toInt (Int32.ofInt u >>> (Int32.ofInt v &&& 31))]; exact g)) (kk _ _ _ h)
    · exact h.elim
  | iushr =>
    simp only [mz1] at h
    split at h
    · next v u _ => exact mzr_op2 C (w := mzI (mzUsh u v)) (by simp) (mz_bd _) (fun H locs ls rest _ _ g => lv_iushr C.1 C.2.1 hdg (mz_ofInt_toInt _).symm g) (kk _ _ _ h)
    · exact h.elim
  | idiv =>
    simp only [mz1] at h
    split at h
    · next v u _ => exact mzr_op2 C (u := mzI u) (v := mzI v) (w := mzI (mzDiv u v)) (by simp) (mz_bd _) (fun H locs ls rest hu hv g => lv_idiv C.1 C.2.1 hdg (fun z => h.1 ((mz_eq hv ⟨by omega, by omega⟩).mp z)) (by rw [← mz_ofInt_toInt (Int32.ofInt u / Int32.ofInt v)]; exact g)) (kk _ _ _ h.2)
    · exact h.elim
  | irem =>
    simp only [mz1] at h
    split at h
    · next v u _ => exact mzr_op2 C (u := mzI u) (v := mzI v) (w := mzI (mzRem u v)) (by simp) (mz_bd _) (fun H locs ls rest hu hv g => lv_irem C.1 C.2.1 hdg (fun z => h.1 ((mz_eq hv ⟨by omega, by omega⟩).mp z)) (by rw [← mz_ofInt_toInt (Int32.ofInt u - Int32.ofInt u / Int32.ofInt v * Int32.ofInt v)]; exact g)) (kk _ _ _ h.2)
    · exact h.elim
  | ladd =>
    simp only [mz1] at h
    split at h
    · next v u _ => exact mzr_op2 C (w := mzL (mzX (u + v))) (by simp) (mz_Xb _) (fun H locs ls rest _ _ g => lv_ladd C.1 C.2.1 hdg (by rw [mz_addL]; exact g)) (kk _ _ _ h)
    · exact h.elim
  | lmul =>
    simp only [mz1] at h
    split at h
    · next v u _ => exact mzr_op2 C (w := mzL (mzX (u * v))) (by simp) (mz_Xb _) (fun H locs ls rest _ _ g => lv_lmul C.1 C.2.1 hdg (by rw [mz_mulL]; exact g)) (kk _ _ _ h)
    · exact h.elim
  | lcmp =>
    simp only [mz1] at h
    split at h
    · next v u _ => exact mzr_op2 C (u := mzL u) (v := mzL v) (w := mzI (mzCmp u v)) (by simp) (mz_cmpb u v) (fun H locs ls rest hu hv g => W.lcmp C.1 C.2.1 hdg (by rw [mz_cmp hu hv]; exact g)) (kk _ _ _ h)
    · exact h.elim
  | i2l =>
    simp only [mz1] at h
    split at h
    · next u _ => exact mzr_op1 C (u := mzI u) (w := mzL u) (by simp) (fun (q : -2147483648 ≤ u ∧ u < 2147483648) => ⟨by omega, by omega⟩) (fun H locs ls rest hu g => t_i2l C.1 C.2.1 hdg (mz_i2l hu) g) (kk _ _ _ h)
    · exact h.elim
  | i2b =>
    simp only [mz1] at h
    split at h
    · next u _ => exact mzr_op1 C (u := mzI u) (w := mzI (mzB8 u)) (by simp) (fun _ => mz_bd _) (fun H locs ls rest hu g => lv_i2b C.1 C.2.1 hdg (mz_ofInt_toInt _).symm g) (kk _ _ _ h)
    · exact h.elim
  | i2s =>
    simp only [mz1] at h
    split at h
    · next u _ => exact mzr_op1 C (u := mzI u) (w := mzI (mzB16 u)) (by simp) (fun _ => mz_bd _) (fun H locs ls rest hu g => lv_i2s C.1 C.2.1 hdg (mz_ofInt_toInt _).symm g) (kk _ _ _ h)
    · exact h.elim
  | dup =>
    simp only [mz1] at h
    split at h
    · split at h
      · next hc => exact fun H locs ls h1 h2 h3 h4 => lv_dup C.1 C.2.1 hdg (mz_cat1 hc) (kk _ _ _ h H locs ls h1 h2 h3 (mz_sk (mz_skh h4).1 (mz_skh h4).2 h4))
      · exact h.elim
    · exact h.elim
  | dup2 =>
    simp only [mz1] at h
    split at h
    · split at h
      · next hc =>
        simp only [Bool.and_eq_true] at hc
        exact fun H locs ls h1 h2 h3 h4 => lv_dup2_11 C.1 C.2.1 hdg (mz_cat1 hc.1) (mz_cat1 hc.2) (kk _ _ _ h H locs ls h1 h2 h3 (mz_sk (mz_skh h4).1 (mz_skh h4).2 (mz_sk (mz_skh (mz_skt h4)).1 (mz_skh (mz_skt h4)).2 h4)))
      · exact h.elim
    · exact h.elim
  | pop =>
    simp only [mz1] at h
    split at h
    · split at h
      · next hc => exact fun H locs ls h1 h2 h3 h4 => lv_pop C.1 C.2.1 hdg (mz_cat1 hc) (kk _ _ _ h H locs ls h1 h2 h3 (mz_skt h4))
      · exact h.elim
    · exact h.elim
  | pop2 =>
    simp only [mz1] at h
    split at h
    · exact fun H locs ls h1 h2 h3 h4 => lv_pop2_2 C.1 C.2.1 hdg rfl (kk _ _ _ h H locs ls h1 h2 h3 (mz_skt h4))
    · exact h.elim
  | getfield k =>
    have hin : (mzOw y, k, mzCc c0, b, 0) ∈ mzFL ∨ (mzOw y, k, mzCc c0, b, 1) ∈ mzFL := of_decide_eq_true hok
    simp only [mz1] at h
    split at h
    · next k1 S' =>
      split at h
      · next hO =>
        obtain ⟨z, hz⟩ := mz_isO hO
        refine mz_go_b (fun hb => ?_)
        split at h
        · next hr => exact mzr_getO C hin hdg hz (v := mzI (μ k1 b)) (by simp) (hb _ _) (u := mzR k1) rfl (by unfold mzFv; rw [hr]; rfl) (kk _ _ _ h)
        · next t hr => exact mzr_getO C hin hdg hz (v := mzR (t + 1)) (by simp) trivial (u := mzR k1) rfl (by unfold mzFv; rw [hr]; rfl) (kk _ _ _ h)
      · exact h.elim
    · next p1 o1 S' =>
      split at h
      · next cnt ci hp =>
        split at h
        · next hc =>
          obtain ⟨rfl, rfl, rfl⟩ := mz_pool1 hp
          have hcc : mzCc c0 = 1 := (Nat.eq_of_beq_eq_true hc).symm
          rw [hcc] at h hin
          have hz : mzSh (44 + o1) = (1, 1, 0) := mz_pools (44, 4, 1, 1) (by decide) (by decide) o1 h.1
          refine mz_go_b (fun hb => ?_)
          have hj : b < 3 := by
            rcases hin with q | q
            · exact (mz_FL _ q).2.1
            · exact (mz_FL _ q).2.1
          have h2 := h.2
          match b, hj, hin, h2 with
          | 0, _, hin, h2 => exact mzr_getO C hin hdg hz (v := mzI (μ (44 + o1) 0)) (by simp) (hb _ _) (u := mzP 44 o1) rfl rfl (kk _ _ _ h2)
          | 1, _, hin, h2 => exact mzr_getO C hin hdg hz (v := mzI (μ (44 + o1) 1)) (by simp) (hb _ _) (u := mzP 44 o1) rfl rfl (kk _ _ _ h2)
          | 2, _, hin, h2 => exact mzr_getO C hin hdg hz (v := mzP 48 o1) (by simp) trivial (u := mzP 44 o1) rfl (mz_num o1) (kk _ _ _ h2)
        · exact h.elim
      · exact h.elim
    · exact h.elim
  | putfield k =>
    simp only [mzO1, Bool.and_eq_true, decide_eq_true_eq] at hok
    obtain ⟨hin, hfin, hty⟩ := hok
    simp only [mz1] at h
    split at h
    · next x k1 S' =>
      split at h
      · next hO =>
        simp only [Bool.and_eq_true] at hO
        obtain ⟨z, hz⟩ := mz_isO hO.1
        have hr := Nat.eq_of_beq_eq_true hO.2
        split at h
        · next hc =>
          rw [hc] at hty
          have hty := of_decide_eq_true hty
          rcases h.1 with rfl | rfl
          · exact mzr_putO C hin hdg hz hr hfin (ty := .boolean) (by rw [hty]; decide) (by decide) (by decide) (u := mzR k1) rfl (kk _ _ _ h.2)
          · exact mzr_putO C hin hdg hz hr hfin (ty := .boolean) (by rw [hty]; decide) (by decide) (by decide) (u := mzR k1) rfl (kk _ _ _ h.2)
        · next hc =>
          rw [hc] at hty
          have hty := of_decide_eq_true hty
          exact mzr_putO C hin hdg hz hr hfin (ty := .int) (by rw [hty]; decide) rfl rfl (u := mzR k1) rfl (kk _ _ _ h)
      · exact h.elim
    · next x p1 o1 S' =>
      split at h
      · next cnt ci hp =>
        split at h
        · next hc =>
          simp only [Bool.and_eq_true] at hc
          obtain ⟨rfl, rfl, rfl⟩ := mz_pool1 hp
          have hcc : c0 = 1 := (Nat.eq_of_beq_eq_true hc.1).symm
          subst hcc
          have hr := Nat.eq_of_beq_eq_true hc.2
          have hz : mzSh (44 + o1) = (1, 1, 0) := mz_pools (44, 4, 1, 1) (by decide) (by decide) o1 h.1
          have hj : b < 3 := by
            rcases hin with q | q
            · exact (mz_FL _ q).2.1
            · exact (mz_FL _ q).2.1
          have hty := of_decide_eq_true hty
          have hr2 : mzRf 1 b (44 + o1) = 0 := by
            match b, hj, hr with
            | 0, _, _ => rfl
            | 1, _, _ => rfl
            | 2, _, hr => exact absurd hr (by decide)
          exact mzr_putO C hin hdg hz hr2 hfin (ty := .int) (by rw [hty]; decide) rfl rfl (u := mzP 44 o1) rfl (kk _ _ _ h.2)
        · exact h.elim
      · exact h.elim
    · exact h.elim
  | getstatic k =>
    have hin : (mzOw y, k, b) ∈ mzTL := of_decide_eq_true hok
    have hw := mz_TL _ hin
    have hz := (C.2.2.2.2.2.2.2.1.2.2.1 b hw.1).1
    refine mzr_push C (v := mzR (200 + b)) (by simp) (fun _ _ => trivial) (fun H locs ls rest hS _ g => ?_) (kk _ _ _ h)
    by_cases h4 : mzOw y = 4
    · exact va_gets C.1 C.2.1 hz hS C.2.2.2.2.2.1 (C.2.2.2.2.2.2.1 _ (hw.2.1 h4)) (fun _ q => q) hdg g
    · exact va_getsN C.1 C.2.1 hz hS C.2.2.2.2.2.1 (va_Nw.use rfl (C.2.2.2.2.2.2.2.1.1 _ (hw.2.2 h4))) (fun _ q => q) hdg g
  | iaload =>
    simp only [mz1] at h
    split at h
    · next i k1 S' =>
      split at h
      · split at h
        · next hc =>
          simp only [Bool.and_eq_true] at hc
          have e1 := Nat.eq_of_beq_eq_true hc.1
          have e2 := Nat.eq_of_beq_eq_true hc.2
          subst e1
          exact mzr_sld C e2 h.1 hdg (kk _ _ _ h.2)
        · split at h
          · next hc =>
            simp only [Bool.and_eq_true] at hc
            exact mzr_cald C ⟨Nat.le_of_ble_eq_true hc.1, Nat.le_of_ble_eq_true hc.2⟩ h.1 hdg (kk _ _ _ h.2)
          · exact h.elim
      · split at h
        · next n z hz => exact mzr_iald C hz h.1 hdg (u := mzR k1) rfl (kk _ _ _ h.2)
        · exact h.elim
    · next i p1 o1 S' =>
      split at h
      · next cnt n hp => exact mzr_iald C (mz_pool0 hp h.1.1) h.1.2 hdg (u := mzP p1 o1) rfl (kk _ _ _ h.2)
      · exact h.elim
    · exact h.elim
  | iastore =>
    simp only [mz1] at h
    split at h
    · next x i k1 S' =>
      split at h
      · next n z hz => exact mzr_iast C hz h.1 hdg (u := mzR k1) rfl (kk _ _ _ h.2)
      · exact h.elim
    · next x i p1 o1 S' =>
      split at h
      · next cnt n hp => exact mzr_iast C (mz_pool0 hp h.1.1) h.1.2 hdg (u := mzP p1 o1) rfl (kk _ _ _ h.2)
      · exact h.elim
    · exact h.elim
  | aaload =>
    simp only [mz1] at h
    split at h
    · next i k1 S' =>
      split at h
      · next n f hz => exact mzr_aald C (mz_shlt hz (by decide)) (mz_ent2 hz) (by have := (mz_shn k1 (mz_shlt hz (by decide))).2.2; rw [hz] at this; exact this (show (2 : Nat) ≠ 1 by decide)) (t0 := 1) rfl rfl h.1 hdg (kk _ _ _ h.2)
      · next n f hz => exact mzr_aald C (mz_shlt hz (by decide)) (mz_ent3 hz) (by have := (mz_shn k1 (mz_shlt hz (by decide))).2.2; rw [hz] at this; exact this (show (3 : Nat) ≠ 1 by decide)) (t0 := 2) rfl rfl h.1 hdg (kk _ _ _ h.2)
      · exact h.elim
    · exact h.elim
  | arraylength =>
    simp only [mz1] at h
    split at h
    · next k1 S' =>
      split at h
      · next hc =>
        simp only [Bool.and_eq_true] at hc
        have e1 := Nat.eq_of_beq_eq_true hc.1
        have e2 := Nat.eq_of_beq_eq_true hc.2
        subst e1
        exact mzr_slen C e2 hdg (kk _ _ _ h)
      · split at h
        · next n z hz => exact mzr_alen C hz hdg (u := mzR k1) rfl (kk _ _ _ h)
        · exact h.elim
    · next p1 o1 S' =>
      split at h
      · next cnt n hp => exact mzr_alen C (mz_pool0 hp h.1) hdg (u := mzP p1 o1) rfl (kk _ _ _ h.2)
      · exact h.elim
    · exact h.elim
  | _ => exact False.elim h
end MZ1
