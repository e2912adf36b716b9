/-! each instruction by the kit's row -/
def mzDk (y pc : Nat) (i : Instr) (n : Nat) : Bool := decide (decode (mzBy y) pc = .ok (i, n))
theorem mz_dk {y pc n : Nat} {i : Instr} (h : mzDk y pc i n = true) : decode (mzBy y) pc = .ok (i, n) := of_decide_eq_true h
def mzFt : List (Nat → FieldType) := [tyX0, tyX1, tyX2, tyX3, tyX4, tyX5]
theorem mz_cls : ∀ ci, ci < 6 → mzCls[ci]? = some (mzNo ci, mzFq ci, mzNf ci) := by
  intro ci h
  match ci, h with
  | 0, _ => rfl
  | 1, _ => rfl
  | 2, _ => rfl
  | 3, _ => rfl
  | 4, _ => rfl
  | 5, _ => rfl
theorem mz_uws (ci : Nat) (h : ci < 6) : ∀ w ∈ u_ws (mzNo ci) (mzFq ci) (mzNf ci), w ∈ mzTb := by
  intro w hw
  have hh : ∀ ci, ci < 6 → ∀ j, j < mzNf ci → mzHas mzAll 7 ci j 0 0 = true := by decide +kernel
  unfold u_ws at hw
  obtain ⟨j, hj, rfl⟩ := List.mem_map.mp hw
  refine mz_tb (mz_in (hh ci h j (List.mem_range.mp hj))) ?_
  unfold u_lay
  split <;> rfl
theorem mz_fty : ∀ ci, ci < 6 → ∀ k, k < mzNf ci → parseFieldDescriptor (mzFq ci k).2.2.1 = some ((mzFt.getD ci tyX0) k) := by decide +kernel
theorem mz_fnm : ∀ ci, ci < 6 → ∀ a, a < mzNf ci → ∀ b, b < mzNf ci → a ≠ b → (mzFq ci a).2.1 ≠ (mzFq ci b).2.1 := by decide +kernel
theorem mz_FL0 : ∀ q ∈ mzFL, q.2.2.1 < 6 ∧ q.2.2.2.1 < mzNf q.2.2.1 ∧ (q.2.2.2.2 = 0 → mzHas mzAll 0 q.1 q.2.1 q.2.2.1 q.2.2.2.1 = true) ∧ (q.2.2.2.2 = 1 → mzHas mzAlN 0 q.1 q.2.1 q.2.2.1 q.2.2.2.1 = true) := by decide +kernel
/-- what the list of fields says -/
theorem mz_FL (q : Nat × Nat × Nat × Nat × Nat) (hq : q ∈ mzFL) : q.2.2.1 < 6 ∧ q.2.2.2.1 < mzNf q.2.2.1 ∧ (q.2.2.2.2 = 0 → Jvm.Cond.fieldLink (mzNo q.1) q.2.1 (mzNo q.2.2.1) (mzFq q.2.2.1 q.2.2.2.1).2.1 (mzFq q.2.2.1 q.2.2.2.1).2.2.1 ∈ mzTb) ∧
    (q.2.2.2.2 = 1 → Jvm.Cond.fieldLinkNest (mzNo q.1) q.2.1 (mzNo q.2.2.1) (mzFq q.2.2.1 q.2.2.2.1).2.1 (mzFq q.2.2.1 q.2.2.2.1).2.2.1 "MeltPins" ∈ mzNest) := by
  obtain ⟨h1, h2, h3, h4⟩ := mz_FL0 q hq
  exact ⟨h1, h2, fun h => mz_tb (mz_in (h3 h)) rfl, fun h => mz_inN (h4 h)⟩
theorem mz_Fown : ∀ ci, ci < 6 → ∀ j, j < mzNf ci → (mzFq ci j).1 = mzNo ci := by decide +kernel
theorem mz_CL0 : ∀ i, i < mzCL.length → mzHas mzAll 8 (mzCL.getD i (0, 0, 0)).1 (mzCL.getD i (0, 0, 0)).2.1 i 0 = true ∧ -2147483648 ≤ (mzCL.getD i (0, 0, 0)).2.2 ∧ (mzCL.getD i (0, 0, 0)).2.2 < 2147483648 := by decide +kernel
theorem mz_CL (q : Nat × Nat × Int) (hq : q ∈ mzCL) : Jvm.Cond.constant (mzNo q.1) q.2.1 (Int32.ofInt q.2.2) ∈ mzTb ∧ -2147483648 ≤ q.2.2 ∧ q.2.2 < 2147483648 := by
  obtain ⟨i, hi⟩ := List.getElem?_of_mem hq
  have hl := (List.getElem?_eq_some_iff.mp hi).1
  have e : mzCL.getD i (0, 0, 0) = q := by rw [List.getD_eq_getElem?_getD, hi]; rfl
  obtain ⟨h1, h2⟩ := mz_CL0 i hl
  have h3 := mz_in h1
  unfold mzWd at h3
  rw [e] at h2 h3
  exact ⟨mz_tb h3 rfl, h2⟩
theorem mz_JL0 : ∀ i, i < mzJL.length → mzHas mzAll 9 (mzJL.getD i (0, 0, 0)).1 (mzJL.getD i (0, 0, 0)).2.1 i 0 = true ∧ -9223372036854775808 ≤ (mzJL.getD i (0, 0, 0)).2.2 ∧ (mzJL.getD i (0, 0, 0)).2.2 < 9223372036854775808 := by decide +kernel
theorem mz_JL (q : Nat × Nat × Int) (hq : q ∈ mzJL) : Jvm.Cond.constantLong (mzNo q.1) q.2.1 (Int64.ofInt q.2.2) ∈ mzTb ∧ -9223372036854775808 ≤ q.2.2 ∧ q.2.2 < 9223372036854775808 := by
  obtain ⟨i, hi⟩ := List.getElem?_of_mem hq
  have hl := (List.getElem?_eq_some_iff.mp hi).1
  have e : mzJL.getD i (0, 0, 0) = q := by rw [List.getD_eq_getElem?_getD, hi]; rfl
  obtain ⟨h1, h2⟩ := mz_JL0 i hl
  have h3 := mz_in h1
  unfold mzWd at h3
  rw [e] at h2 h3
  exact ⟨mz_tb h3 rfl, h2⟩
theorem mz_TL0 : ∀ q ∈ mzTL, q.2.2 < 3 ∧ (q.1 = 4 → mzHas mzAll 10 q.1 q.2.1 q.2.2 0 = true) ∧ (q.1 ≠ 4 → mzHas mzAlN 2 q.1 q.2.1 q.2.2 0 = true) := by decide +kernel
theorem mz_TL (q : Nat × Nat × Nat) (hq : q ∈ mzTL) : q.2.2 < 3 ∧ (q.1 = 4 → Jvm.Cond.fieldLink (mzNo q.1) q.2.1 "MeltPins" (mzStat q.2.2) "[I" ∈ mzTb) ∧ (q.1 ≠ 4 → Jvm.Cond.fieldLinkNest (mzNo q.1) q.2.1 "MeltPins" (mzStat q.2.2) "[I" "MeltPins" ∈ mzNest) := by
  obtain ⟨h1, h2, h3⟩ := mz_TL0 q hq
  exact ⟨h1, fun h => mz_tb (mz_in (h2 h)) rfl, fun h => mz_inN (h3 h)⟩
theorem mz_shl : mzShape.length = 148 := by decide +kernel
theorem mz_shn : ∀ k, k < 148 → (mzSh k).1 ≤ 3 ∧ ((mzSh k).1 = 1 → (mzSh k).2.1 < 6) ∧ ((mzSh k).1 ≠ 1 → (mzSh k).2.1 ≤ 4096) := by decide +kernel
theorem mz_shlt {k a b z : Nat} (h : mzSh k = (a, b, z)) (ha : a ≠ 9) : k < 148 := by
  rcases Nat.lt_or_ge k 148 with q | q
  · exact q
  · exfalso
    unfold mzSh at h
    rw [List.getD_eq_getElem?_getD, List.getElem?_eq_none (by rw [mz_shl]; exact q)] at h
    cases h
    exact ha rfl
theorem mz_pools : ∀ q ∈ mzPools, q.1 < 300 → ∀ o, o < q.2.1 → mzSh (q.1 + o) = (q.2.2.1, q.2.2.2, 0) := by decide +kernel
theorem mz_find {l : List (Nat × Nat × Nat × Nat)} {b : Nat} {v : Nat × Nat × Nat} (h : mzFind l b = v) (hv : v.2.1 ≠ 9) : (b, v) ∈ l := by
  induction l with
  | nil => subst h; exact absurd rfl hv
  | cons q r ih =>
    obtain ⟨k, w⟩ := q
    simp only [mzFind] at h
    split at h
    · next e =>
      have := Nat.eq_of_beq_eq_true e
      subst this
      subst h
      exact List.mem_cons_self
    · exact List.mem_cons_of_mem _ (ih h)
theorem mz_pool0 {p o cnt n : Nat} (h : mzPq p = (cnt, 0, n)) (ho : o < cnt) : mzSh (p + o) = (0, n, 0) := by
  have h1 := mz_find (v := (cnt, 0, n)) h (show (0 : Nat) ≠ 9 by decide)
  have h2 : p < 300 := by
    have h3 : ∀ q ∈ mzPools, q.2.2.1 = 0 → q.1 < 300 := by decide +kernel
    exact h3 _ h1 rfl
  exact mz_pools _ h1 h2 o ho
theorem mz_pool1 {p cnt ci : Nat} (h : mzPq p = (cnt, 1, ci)) : p = 44 ∧ cnt = 4 ∧ ci = 1 := by
  have h1 := mz_find (v := (cnt, 1, ci)) h (show (1 : Nat) ≠ 9 by decide)
  have h3 : ∀ q ∈ mzPools, q.2.2.1 = 1 → q.1 = 44 ∧ q.2.1 = 4 ∧ q.2.2.2 = 1 := by decide +kernel
  exact h3 _ h1 rfl
theorem mz_ent0 {G : mzG} {μ : mzM} {k n z : Nat} (h : mzSh k = (0, n, z)) : mzEnt G μ k = .inl (G.2.2.1, n, .inl (fun j => Int32.ofInt (μ k j))) := by
  simp only [mzEnt, h]
theorem mz_ent1 {G : mzG} {μ : mzM} {k n z : Nat} (h : mzSh k = (1, n, z)) : mzEnt G μ k = .inr (n, (List.range (mzNf n)).map (mzFv G μ n k)) := by
  simp only [mzEnt, h]
theorem mz_ent2 {G : mzG} {μ : mzM} {k n z : Nat} (h : mzSh k = (2, n, z)) : mzEnt G μ k = .inl (G.2.2.2.1, n, .inr (.inr (.inr (.inr (mzRow G n z))))) := by
  simp only [mzEnt, h]
theorem mz_ent3 {G : mzG} {μ : mzM} {k n z : Nat} (h : mzSh k = (3, n, z)) : mzEnt G μ k = .inl (G.2.2.2.2.1, n, .inr (.inr (.inr (.inr (mzRow G n z))))) := by
  simp only [mzEnt, h]
theorem mz_isO {k ci : Nat} (h : mzIsO k ci = true) : ∃ z, mzSh k = (1, ci, z) := by
  unfold mzIsO at h
  split at h
  · next c z e =>
    have := Nat.eq_of_beq_eq_true h
    subst this
    exact ⟨z, e⟩
  · cases h
/-- a store into a row of numbers -/
theorem mz_st0 {G : mzG} {μ : mzM} {k n z j : Nat} {v : Int} (h : mzSh k = (0, n, z)) : mzEnt G (mzS μ k j v) k = .inl (G.2.2.1, n, .inl (upd (fun j => Int32.ofInt (μ k j)) j (Int32.ofInt v))) := by
  rw [mz_ent0 h]
  congr 4
  funext i
  unfold mzS upd
  by_cases e : i = j
  · subst e; simp
  · simp [e]
theorem mz_rset {α : Type} (n j : Nat) (f g : Nat → α) (v : α) (h : ∀ i, i ≠ j → g i = f i) (hj : g j = v) : ((List.range n).map f).set j v = (List.range n).map g := by
  apply List.ext_getElem?
  intro i
  by_cases hi : i < n
  · by_cases e : j = i
    · subst e
      rw [List.getElem?_set_self (by simpa using hi), List.getElem?_map, List.getElem?_range hi]
      simp [hj]
    · rw [List.getElem?_set_ne e, List.getElem?_map, List.getElem?_map, List.getElem?_range hi]
      simp [h i (fun q => e q.symm)]
  · rw [List.getElem?_eq_none (by simp; omega), List.getElem?_eq_none (by simp; omega)]
theorem mz_st1 {G : mzG} {μ : mzM} {k ci z j : Nat} {v : Int} (h : mzSh k = (1, ci, z)) (hr : mzRf ci j k = 0) : mzEnt G (mzS μ k j v) k = .inr (ci, ((List.range (mzNf ci)).map (mzFv G μ ci k)).set j (.int (Int32.ofInt v))) := by
  rw [mz_ent1 h]
  congr 2
  symm
  refine mz_rset _ _ _ _ _ (fun i hi => ?_) ?_
  · unfold mzFv
    split
    · unfold mzS; rw [if_neg (fun q => hi q.2)]
    · rfl
  · unfold mzFv
    rw [hr]
    unfold mzS
    simp
theorem mz_stok {G : mzG} {H H1 : Heap} {μ : mzM} {k j : Nat} {v : Int} (hS : mzSt G H μ) (hk : k < 148) (hv : -2147483648 ≤ v ∧ v < 2147483648) {en : va_E} (he : mzEnt G (mzS μ k j v) k = en) (hP : va_P G.1 mzCls ((mzWo G μ).set k (mzAd G k, en)) H1) : mzSt G H1 (mzS μ k j v) := by
  refine ⟨?_, fun a b => ?_, fun a => ?_, ?_⟩
  · rw [mz_set hk he (fun j hj hn => mz_ent_ne (mz_sne hn))] at hP
    exact hP
  · unfold mzS
    split
    · exact hv
    · exact hS.2.1 a b
  · unfold mzS
    rw [if_neg (fun q => by omega)]
    exact hS.2.2.1 a
  · unfold mzS
    rw [if_neg (fun q => by omega)]
    exact hS.2.2.2
section MZR
variable {G : mzG} {p : Program} {l : Launch} {e : Env} {R : Room} {s : State} {m : MethodId} {args : Array Value} {below : List Frame} {meth : Method} {c : Code} {cells slots : Nat} {Z : State → Prop} {y d pc : Nat} {L S : List mzV} {μ : mzM}
theorem mzr_const (C : mzCx G p R s m args meth c y d cells slots) {n : Int} (hn : -2147483648 ≤ n ∧ n < 2147483648) {len : Nat} (row : ∀ (H : Heap) (locs : List Loc) (ls : Array Slot) (rest : List Value), W p l e R s m args below meth c H locs cells slots Z (F0 m (pc + len) ls (.int (Int32.ofInt n) :: rest)) → W p l e R s m args below meth c H locs cells slots Z (F0 m pc ls rest))
    (k : mzGo G p l e R s m args below meth c cells slots Z y (pc + len) L (mzI n :: S) μ) : mzGo G p l e R s m args below meth c cells slots Z y pc L S μ :=
  fun H locs ls h1 h2 h3 h4 => row H locs ls _ (k H locs ls h1 h2 h3 (mz_sk (by simp) hn h4))
theorem mzr_push (C : mzCx G p R s m args meth c y d cells slots) {v : mzV} (hv : v ≠ none) (hk : ∀ ls : Array Slot, mzFr G y ls L → mzK v) {len : Nat} (row : ∀ (H : Heap) (locs : List Loc) (ls : Array Slot) (rest : List Value), va_S (mzA G) s.heap H locs → mzFr G y ls L → W p l e R s m args below meth c H locs cells slots Z (F0 m (pc + len) ls (mzC G v :: rest)) → W p l e R s m args below meth c H locs cells slots Z (F0 m pc ls rest))
    (k : mzGo G p l e R s m args below meth c cells slots Z y (pc + len) L (v :: S) μ) : mzGo G p l e R s m args below meth c cells slots Z y pc L S μ :=
  fun H locs ls h1 h2 h3 h4 => row H locs ls _ h2 h3 (k H locs ls h1 h2 h3 (mz_sk hv (hk ls h3) h4))
/-- one number off the stack, one on -/
theorem mzr_op1 (C : mzCx G p R s m args meth c y d cells slots) {u w : mzV} (hw : w ≠ none) (hk : mzK u → mzK w) {len : Nat} (row : ∀ (H : Heap) (locs : List Loc) (ls : Array Slot) (rest : List Value), mzK u → W p l e R s m args below meth c H locs cells slots Z (F0 m (pc + len) ls (mzC G w :: rest)) → W p l e R s m args below meth c H locs cells slots Z (F0 m pc ls (mzC G u :: rest)))
    (k : mzGo G p l e R s m args below meth c cells slots Z y (pc + len) L (w :: S) μ) : mzGo G p l e R s m args below meth c cells slots Z y pc L (u :: S) μ :=
  fun H locs ls h1 h2 h3 h4 => row H locs ls _ (mz_skh h4).2 (k H locs ls h1 h2 h3 (mz_sk hw (hk (mz_skh h4).2) (mz_skt h4)))
theorem mzr_op2 (C : mzCx G p R s m args meth c y d cells slots) {u v w : mzV} (hw : w ≠ none) (hk : mzK w) {len : Nat} (row : ∀ (H : Heap) (locs : List Loc) (ls : Array Slot) (rest : List Value), mzK u → mzK v → W p l e R s m args below meth c H locs cells slots Z (F0 m (pc + len) ls (mzC G w :: rest)) → W p l e R s m args below meth c H locs cells slots Z (F0 m pc ls (mzC G v :: mzC G u :: rest)))
    (k : mzGo G p l e R s m args below meth c cells slots Z y (pc + len) L (w :: S) μ) : mzGo G p l e R s m args below meth c cells slots Z y pc L (v :: u :: S) μ :=
  fun H locs ls h1 h2 h3 h4 => row H locs ls _ (mz_skh (mz_skt h4)).2 (mz_skh h4).2 (k H locs ls h1 h2 h3 (mz_sk hw hk (mz_skt (mz_skt h4))))
/-- a number into its place -/
theorem mzr_st (C : mzCx G p R s m args meth c y d cells slots) {k : Nat} {v : mzV} (hc : mzC1 v = true) {len : Nat} (row : ∀ (H : Heap) (locs : List Loc) (ls : Array Slot) (rest : List Value) (lv : List (Nat × Value)), lv_has ls (mzNl y) (mzAs G L) → (k, mzC G v) :: (mzAs G L).filter (fun q => !(q.1 == k) && !(q.1 + 1 == k && q.2.category == 2)) = lv →
      (∀ ls' : Array Slot, lv_has ls' (mzNl y) lv → W p l e R s m args below meth c H locs cells slots Z (F0 m (pc + len) ls' rest)) → W p l e R s m args below meth c H locs cells slots Z (F0 m pc ls (mzC G v :: rest)))
    (kk : mzGo G p l e R s m args below meth c cells slots Z y (pc + len) (mzPut L k v) S μ) : mzGo G p l e R s m args below meth c cells slots Z y pc L (v :: S) μ :=
  fun H locs ls h1 h2 h3 h4 => row H locs ls _ _ (mz_has h3) rfl (fun ls' h' => kk H locs ls' h1 h2 (mz_put1 h3 (mz_skh h4).1 (mz_skh h4).2 rfl h') (mz_skt h4))
theorem mzr_st2 (C : mzCx G p R s m args meth c y d cells slots) {k : Nat} {x : Int} {len : Nat} (row : ∀ (H : Heap) (locs : List Loc) (ls : Array Slot) (rest : List Value) (lv : List (Nat × Value)), lv_has ls (mzNl y) (mzAs G L) → (k, mzC G (mzL x)) :: (mzAs G L).filter (fun q => !(q.1 == k) && (!(q.1 == k + 1) && !(q.1 + 1 == k && q.2.category == 2))) = lv →
      (∀ ls' : Array Slot, lv_has ls' (mzNl y) lv → W p l e R s m args below meth c H locs cells slots Z (F0 m (pc + len) ls' rest)) → W p l e R s m args below meth c H locs cells slots Z (F0 m pc ls (mzC G (mzL x) :: rest)))
    (kk : mzGo G p l e R s m args below meth c cells slots Z y (pc + len) (mzPut2 L k (mzL x)) S μ) : mzGo G p l e R s m args below meth c cells slots Z y pc L (mzL x :: S) μ :=
  fun H locs ls h1 h2 h3 h4 => row H locs ls _ _ (mz_has h3) rfl (fun ls' h' => kk H locs ls' h1 h2 (mz_put2 h3 (mz_skh h4).2 rfl h') (mz_skt h4))
theorem mzr_iinc (C : mzCx G p R s m args meth c y d cells slots) {k : Nat} {n x : Int} (hn : k < mzNl y) (hd : decode (mzBy y) pc = .ok (.iinc k n, 3)) (hg : mzGt L k = some (.inl x))
    (kk : mzGo G p l e R s m args below meth c cells slots Z y (pc + 3) (mzPut L k (mzI (mzW (x + n)))) S μ) : mzGo G p l e R s m args below meth c cells slots Z y pc L S μ := by
  intro H locs ls h1 h2 h3 h4
  obtain ⟨j, hj⟩ := List.getElem?_of_mem (mz_memas (G := G) (mz_gt hg))
  refine lv_iinc C.1 C.2.1 (k := j) (x := Int32.ofInt x) (v := Int32.ofInt (mzW (x + n))) hd (mz_has h3) hj (mz_add x n) hn rfl (fun ls' h' => kk H locs ls' h1 h2 (mz_put1 (v := mzI (mzW (x + n))) h3 (by simp) (mz_Wb _) rfl h') h4)
theorem mzr_getO (C : mzCx G p R s m args meth c y d cells slots) {k ci j idx : Nat} (hin : (mzOw y, idx, ci, j, 0) ∈ mzFL ∨ (mzOw y, idx, ci, j, 1) ∈ mzFL) (hd : decode (mzBy y) pc = .ok (.getfield idx, 3)) {z : Nat} (hk : mzSh k = (1, ci, z)) {v : mzV} (hv : v ≠ none) (hvk : mzK v) {u : mzV} (hu : mzC G u = .ref (mzAd G k)) (hf : mzFv G μ ci k j = mzC G v)
    (kk : mzGo G p l e R s m args below meth c cells slots Z y (pc + 3) L (v :: S) μ) : mzGo G p l e R s m args below meth c cells slots Z y pc L (u :: S) μ := by
  intro H locs ls h1 h2 h3 h4
  have hk1 := mz_shlt hk (by decide)
  have he : (mzWo G μ)[k]? = some (mzAd G k, .inr (ci, (List.range (mzNf ci)).map (mzFv G μ ci k))) := by rw [mz_wo hk1, mz_ent1 hk]
  have hq : ci < 6 ∧ j < mzNf ci := by
    rcases hin with q | q
    · exact ⟨(mz_FL _ q).1, (mz_FL _ q).2.1⟩
    · exact ⟨(mz_FL _ q).1, (mz_FL _ q).2.1⟩
  have hvv : ((List.range (mzNf ci)).map (mzFv G μ ci k))[j]? = some (mzC G v) := by
    rw [List.getElem?_map, List.getElem?_range hq.2, ← hf]
    rfl
  have gg : W p l e R s m args below meth c H locs cells slots Z (F0 m (pc + 3) ls (mzC G v :: S.map (mzC G))) := kk H locs ls h1 h2 h3 (mz_sk hv hvk (mz_skt h4))
  have own := mz_Fown ci hq.1 j hq.2
  show W p l e R s m args below meth c H locs cells slots Z (F0 m pc ls (mzC G u :: S.map (mzC G)))
  rw [hu]
  rcases hin with q | q
  · exact va_get C.1 C.2.1 C.2.2.2.2.2.2.1 (mz_uws ci hq.1) C.2.2.2.2.2.1 C.2.2.2.2.2.2.2.1.2.1 h1.1 k he (mz_cls ci hq.1) j hq.2 (C.2.2.2.2.2.2.1 _ ((mz_FL _ q).2.2.1 rfl)) (fun x hx => by rw [← own]; exact hx) hvv hd gg
  · exact va_getN C.1 C.2.1 C.2.2.2.2.2.2.1 (mz_uws ci hq.1) C.2.2.2.2.2.1 C.2.2.2.2.2.2.2.1.2.1 h1.1 k he (mz_cls ci hq.1) j hq.2 (va_Nw.use rfl (C.2.2.2.2.2.2.2.1.1 _ ((mz_FL _ q).2.2.2 rfl))) (fun x hx => by rw [← own]; exact hx) hvv hd gg
theorem mzr_putO (C : mzCx G p R s m args meth c y d cells slots) {k ci j idx : Nat} {x : Int} (hin : (mzOw y, idx, ci, j, 0) ∈ mzFL ∨ (mzOw y, idx, ci, j, 1) ∈ mzFL) (hd : decode (mzBy y) pc = .ok (.putfield idx, 3)) {z : Nat} (hk : mzSh k = (1, ci, z)) (hr : mzRf ci j k = 0) (hfin : (mzFq ci j).2.2.2 = false)
    {ty : FieldType} (hty : parseFieldDescriptor (mzFq ci j).2.2.1 = some ty) (hnar : narrow ty (.int (Int32.ofInt x)) = .int (Int32.ofInt x)) (hfit : fits ty (.int (Int32.ofInt x)) = true) {u : mzV} (hu : mzC G u = .ref (mzAd G k))
    (kk : mzGo G p l e R s m args below meth c cells slots Z y (pc + 3) L S (mzS μ k j x)) : mzGo G p l e R s m args below meth c cells slots Z y pc L (mzI x :: u :: S) μ := by
  intro H locs ls h1 h2 h3 h4
  have hk1 := mz_shlt hk (by decide)
  have he : (mzWo G μ)[k]? = some (mzAd G k, .inr (ci, (List.range (mzNf ci)).map (mzFv G μ ci k))) := by rw [mz_wo hk1, mz_ent1 hk]
  have hq : ci < 6 ∧ j < mzNf ci := by
    rcases hin with q | q
    · exact ⟨(mz_FL _ q).1, (mz_FL _ q).2.1⟩
    · exact ⟨(mz_FL _ q).1, (mz_FL _ q).2.1⟩
  have own := mz_Fown ci hq.1 j hq.2
  show W p l e R s m args below meth c H locs cells slots Z (F0 m pc ls (.int (Int32.ofInt x) :: mzC G u :: S.map (mzC G)))
  rw [hu]
  have goal : ∀ (H1 : Heap) (locs1 : List Loc), va_P G.1 mzCls ((mzWo G μ).set k (mzAd G k, .inr (ci, ((List.range (mzNf ci)).map (mzFv G μ ci k)).set j (.int (Int32.ofInt x))))) H1 → va_D (mzA G) ((mzWo G μ).set k (mzAd G k, .inr (ci, ((List.range (mzNf ci)).map (mzFv G μ ci k)).set j (.int (Int32.ofInt x))))) → va_S (mzA G) s.heap H1 locs1 → W p l e R s m args below meth c H1 locs1 cells slots Z (F0 m (pc + 3) ls (S.map (mzC G))) :=
    fun H1 locs1 hP1 _ hS1 => kk H1 locs1 ls (mz_stok h1 hk1 (mz_skh h4).2 (mz_st1 hk hr) hP1) hS1 h3 (mz_skt (mz_skt h4))
  rcases hin with q | q
  · exact va_put C.1 C.2.1 C.2.2.2.2.2.2.1 (mz_uws ci hq.1) (mzFt.getD ci tyX0) (mz_fty ci hq.1) (mz_fnm ci hq.1) C.2.2.2.2.2.1 C.2.2.2.2.2.2.2.1.2.1 h1.1 (mz_D C.2.2.2.2.2.2.2.2.1 μ) h2 k he (mz_cls ci hq.1) j hq.2 (C.2.2.2.2.2.2.1 _ ((mz_FL _ q).2.2.1 rfl)) (fun x hx => by rw [← own]; exact hx) hfin hty hnar hfit (by simpa using hq.2) hd goal
  · exact va_putN C.1 C.2.1 C.2.2.2.2.2.2.1 (mz_uws ci hq.1) (mzFt.getD ci tyX0) (mz_fty ci hq.1) (mz_fnm ci hq.1) C.2.2.2.2.2.1 C.2.2.2.2.2.2.2.1.2.1 h1.1 (mz_D C.2.2.2.2.2.2.2.2.1 μ) h2 k he (mz_cls ci hq.1) j hq.2 (va_Nw.use rfl (C.2.2.2.2.2.2.2.1.1 _ ((mz_FL _ q).2.2.2 rfl))) (fun x hx => by rw [← own]; exact hx) hfin hty hnar hfit (by simpa using hq.2) hd goal
theorem mzr_iald (C : mzCx G p R s m args meth c y d cells slots) {k n z : Nat} {i : Int} (hk : mzSh k = (0, n, z)) (hi : 0 ≤ i ∧ i < (n : Int)) (hd : decode (mzBy y) pc = .ok (.iaload, 1)) {u : mzV} (hu : mzC G u = .ref (mzAd G k))
    (kk : mzGo G p l e R s m args below meth c cells slots Z y (pc + 1) L (mzI (μ k i.toNat) :: S) μ) : mzGo G p l e R s m args below meth c cells slots Z y pc L (mzI i :: u :: S) μ := by
  intro H locs ls h1 h2 h3 h4
  have hk1 := mz_shlt hk (by decide)
  have hn : n ≤ 4096 := by
    have := (mz_shn k hk1).2.2
    rw [hk] at this
    exact this (show (0 : Nat) ≠ 1 by decide)
  have he : (mzWo G μ)[k]? = some (mzAd G k, .inl (G.2.2.1, n, .inl (fun j => Int32.ofInt (μ k j)))) := by rw [mz_wo hk1, mz_ent0 hk]
  show W p l e R s m args below meth c H locs cells slots Z (F0 m pc ls (.int (Int32.ofInt i) :: mzC G u :: S.map (mzC G)))
  rw [hu]
  refine va_iald C.1 C.2.1 C.2.2.2.2.2.2.2.1.2.1 h1.1 k 0 he rfl (mz_vpin hi.1 hi.2 (by omega)) hd ?_
  show W p l e R s m args below meth c H locs cells slots Z (F0 m (pc + 1) ls (.int (Int32.ofInt (μ k (Int32.ofInt i).toNatClampNeg)) :: S.map (mzC G)))
  rw [mz_nat' hi.1 (by omega)]
  exact kk H locs ls h1 h2 h3 (mz_sk (by simp) (h1.2.1 k _) (mz_skt (mz_skt h4)))
theorem mzr_iast (C : mzCx G p R s m args meth c y d cells slots) {k n z : Nat} {i x : Int} (hk : mzSh k = (0, n, z)) (hi : 0 ≤ i ∧ i < (n : Int)) (hd : decode (mzBy y) pc = .ok (.iastore, 1)) {u : mzV} (hu : mzC G u = .ref (mzAd G k))
    (kk : mzGo G p l e R s m args below meth c cells slots Z y (pc + 1) L S (mzS μ k i.toNat x)) : mzGo G p l e R s m args below meth c cells slots Z y pc L (mzI x :: mzI i :: u :: S) μ := by
  intro H locs ls h1 h2 h3 h4
  have hk1 := mz_shlt hk (by decide)
  have hn : n ≤ 4096 := by
    have := (mz_shn k hk1).2.2
    rw [hk] at this
    exact this (show (0 : Nat) ≠ 1 by decide)
  have he : (mzWo G μ)[k]? = some (mzAd G k, .inl (G.2.2.1, n, .inl (fun j => Int32.ofInt (μ k j)))) := by rw [mz_wo hk1, mz_ent0 hk]
  show W p l e R s m args below meth c H locs cells slots Z (F0 m pc ls (.int (Int32.ofInt x) :: .int (Int32.ofInt i) :: mzC G u :: S.map (mzC G)))
  rw [hu]
  refine va_iast C.1 C.2.1 C.2.2.2.2.2.2.2.1.2.1 h1.1 (mz_D C.2.2.2.2.2.2.2.2.1 μ) h2 k 0 he rfl (mz_vpin hi.1 hi.2 (by omega)) hd (fun H1 locs1 hP1 _ hS1 => ?_)
  rw [mz_nat' hi.1 (by omega)] at hP1
  exact kk H1 locs1 ls (mz_stok h1 hk1 (mz_skh h4).2 (mz_st0 hk) hP1) hS1 h3 (mz_skt (mz_skt (mz_skt h4)))
theorem mzr_cald (C : mzCx G p R s m args meth c y d cells slots) {k : Nat} {i : Int} (hk : 200 ≤ k ∧ k ≤ 202) (hi : 0 ≤ i ∧ i < (mzCsl k : Int)) (hd : decode (mzBy y) pc = .ok (.iaload, 1))
    (kk : mzGo G p l e R s m args below meth c cells slots Z y (pc + 1) L (mzI (mzCst k i.toNat) :: S) μ) : mzGo G p l e R s m args below meth c cells slots Z y pc L (mzI i :: mzR k :: S) μ := by
  intro H locs ls h1 h2 h3 h4
  obtain ⟨j, hj, rfl⟩ : ∃ j, j < 3 ∧ k = 200 + j := ⟨k - 200, by omega, by omega⟩
  have hn : ∀ j, j < 3 → mzCsl (200 + j) ≤ 9 := by decide +kernel
  have hb : ∀ j, j < 3 → ∀ i, i < 9 → -2147483648 ≤ mzCst (200 + j) i ∧ mzCst (200 + j) i < 2147483648 := by decide +kernel
  have hn := hn j hj
  have hT := (C.2.2.2.2.2.2.2.1.2.2.1 j hj).2
  refine va_ti C.1 C.2.1 hT h2 (i := Int32.ofInt i) (mz_vpin hi.1 hi.2 (by omega)) (v := .int (Int32.ofInt (mzCst (200 + j) i.toNat))) ?_ hd ?_
  · rw [mz_nat' hi.1 (by omega)]
  · exact kk H locs ls h1 h2 h3 (mz_sk (by simp) (hb j hj _ (by omega)) (mz_skt (mz_skt h4)))
theorem mzr_sld (C : mzCx G p R s m args meth c y d cells slots) {i : Int} (hy : y = 0) (hi : 0 ≤ i ∧ i < μ 149 0) (hd : decode (mzBy y) pc = .ok (.iaload, 1))
    (kk : mzGo G p l e R s m args below meth c cells slots Z y (pc + 1) L (mzI (μ 148 i.toNat) :: S) μ) : mzGo G p l e R s m args below meth c cells slots Z y pc L (mzI i :: mzR 148 :: S) μ := by
  intro H locs ls h1 h2 h3 h4
  obtain ⟨g1, g2, g3⟩ := C.2.2.2.2.2.2.2.2.2.2.2 hy
  have hb := h1.2.1 149 0
  have hL := h1.2.2.2
  refine va_sld C.1 C.2.1 g1 g2 g3 h2 (i := Int32.ofInt i) (mz_vpin hi.1 (by rw [← hL]; exact hi.2) (by omega)) hd ?_
  show W p l e R s m args below meth c H locs cells slots Z (F0 m (pc + 1) ls (.int (Int32.ofInt (G.2.2.2.2.2.1 (Int32.ofInt i).toNatClampNeg)) :: S.map (mzC G)))
  rw [mz_nat' hi.1 (by omega), ← h1.2.2.1]
  exact kk H locs ls h1 h2 h3 (mz_sk (by simp) (h1.2.1 148 _) (mz_skt (mz_skt h4)))
theorem mzr_slen (C : mzCx G p R s m args meth c y d cells slots) (hy : y = 0) (hd : decode (mzBy y) pc = .ok (.arraylength, 1))
    (kk : mzGo G p l e R s m args below meth c cells slots Z y (pc + 1) L (mzI (μ 149 0) :: S) μ) : mzGo G p l e R s m args below meth c cells slots Z y pc L (mzR 148 :: S) μ := by
  intro H locs ls h1 h2 h3 h4
  obtain ⟨g1, g2, g3⟩ := C.2.2.2.2.2.2.2.2.2.2.2 hy
  have hL := h1.2.2.2
  refine va_slen C.1 C.2.1 g1 g2 g3 h2 hd ?_
  have gg : W p l e R s m args below meth c H locs cells slots Z (F0 m (pc + 1) ls (.int (Int32.ofInt (μ 149 0)) :: S.map (mzC G))) := kk H locs ls h1 h2 h3 (mz_sk (by simp) (h1.2.1 149 _) (mz_skt h4))
  rw [hL] at gg
  exact gg
theorem mzr_alen (C : mzCx G p R s m args meth c y d cells slots) {k n z : Nat} (hk : mzSh k = (0, n, z)) (hd : decode (mzBy y) pc = .ok (.arraylength, 1)) {u : mzV} (hu : mzC G u = .ref (mzAd G k))
    (kk : mzGo G p l e R s m args below meth c cells slots Z y (pc + 1) L (mzI (n : Int) :: S) μ) : mzGo G p l e R s m args below meth c cells slots Z y pc L (u :: S) μ := by
  intro H locs ls h1 h2 h3 h4
  have hk1 := mz_shlt hk (by decide)
  have hn : n ≤ 4096 := by
    have := (mz_shn k hk1).2.2
    rw [hk] at this
    exact this (show (0 : Nat) ≠ 1 by decide)
  have he : (mzWo G μ)[k]? = some (mzAd G k, .inl (G.2.2.1, n, .inl (fun j => Int32.ofInt (μ k j)))) := by rw [mz_wo hk1, mz_ent0 hk]
  show W p l e R s m args below meth c H locs cells slots Z (F0 m pc ls (mzC G u :: S.map (mzC G)))
  rw [hu]
  refine va_alen C.1 C.2.1 C.2.2.2.2.2.2.2.1.2.1 h1.1 k 0 he rfl (v := Int32.ofInt (n : Int)) rfl hd ?_
  exact kk H locs ls h1 h2 h3 (mz_sk (by simp) (show -2147483648 ≤ (n : Int) ∧ (n : Int) < 2147483648 by omega) (mz_skt h4))
theorem mzr_aald (C : mzCx G p R s m args meth c y d cells slots) {k n f t0 : Nat} {i : Int} {cA : ClassId} {ty : FieldType} (hk1 : k < 148) (hent : mzEnt G μ k = .inl (cA, n, .inr (.inr (.inr (.inr (mzRow G n f)))))) (hn : n ≤ 4096) (ht : (mzTys G)[t0]? = some (cA, ty)) (href : refKind ty = true) (hi : 0 ≤ i ∧ i < (n : Int)) (hd : decode (mzBy y) pc = .ok (.aaload, 1))
    (kk : mzGo G p l e R s m args below meth c cells slots Z y (pc + 1) L (mzP f i.toNat :: S) μ) : mzGo G p l e R s m args below meth c cells slots Z y pc L (mzI i :: mzR k :: S) μ := by
  intro H locs ls h1 h2 h3 h4
  have he : (mzWo G μ)[k]? = some (mzAd G k, .inl (cA, n, .inr (.inr (.inr (.inr (mzRow G n f)))))) := by rw [mz_wo hk1, hent]
  have hin : vp_in (Int32.ofInt i) n := mz_vpin hi.1 hi.2 (by omega)
  have hlt : (Int32.ofInt i).toNatClampNeg < n := Nat.not_le.mp fun q => hin (Or.inr q)
  have gg : W p l e R s m args below meth c H locs cells slots Z (F0 m (pc + 1) ls (va_rf (mzRow G n f (Int32.ofInt i).toNatClampNeg) :: S.map (mzC G))) := by
    unfold mzRow
    rw [if_pos hlt, mz_nat' hi.1 (by omega)]
    exact kk H locs ls h1 h2 h3 (mz_sk (by simp) trivial (mz_skt (mz_skt h4)))
  exact W.aald (v := va_rf (mzRow G n f (Int32.ofInt i).toNatClampNeg)) (ty := ty) C.1 C.2.1 (h1.1 k _ he) ((C.2.2.2.2.2.2.2.1.2.1.2 t0 _ ht).1 n (fun j => va_rf (mzRow G n f j))) href (fun q => by cases q) (by show ¬ (Int32.ofInt i < 0 ∨ (arrV _ _ _).slots.size ≤ _); rw [arrV_size]; exact hin) (by show (arrV _ _ _).slots[_]? = _; rw [arrV_read _ _ hlt]) rfl rfl hd gg
end MZR
