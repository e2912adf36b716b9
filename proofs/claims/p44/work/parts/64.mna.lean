/-! A ROW OF ROWS OF INTS: what the instruction leaves in the heap -/
/-- one array, at the heap's end -/
theorem mn_one {E : CtlPost} {e : Env} {d : Bool} {acts : List Action} {s : State} {cc co : ClassId} {k : Class} {ty : FieldType} {n : Nat} {v : Value} (hk : s.vm.classes[cc]? = some k) (hkd : k.kind = .array co ty) (h1 : ¬ n > e.platform.arrayLengthLimit) (h2 : ¬ n * componentBytes ty > e.platform.maxHeapBytes) (hf : fits ty v = true) (hd : v.isDefault = true) {Q : Addr → Pre} (r1 : s.heap.size < e.platform.maxCells) (r2 : s.slotsUsed + n ≤ e.platform.maxSlots)
    (hq : Q s.heap.size d acts (s.pushCell (arrV cc n (fun _ => v)))) : wp (Jvm.newArray cc n v) Q E e d acts s := by
  rw [← arrV_new] at hq
  have ha : allocActs (Array.replicate n v) s.heap.size acts = acts := by
    unfold allocActs
    rw [if_pos (by rw [Array.all_replicate]; split <;> simp [hd])]
  have hs : ∀ i w, (Array.replicate n v)[i]? = some w → s.fitsSlot cc .none i w = true := by
    intro i w hw
    rw [Array.getElem?_replicate] at hw
    split at hw
    · cases hw
      simp [State.fitsSlot, State.slotType?, hk, hkd, hf]
    · cases hw
  unfold Jvm.newArray Jvm.arrayFits
  simp only [wp_bind', W.ask, W.ite, h1, if_false, wp_pure', W.theClass, hk, hkd, h2, W.alloc, W.stop, Option.some.injEq, exists_eq_left', Array.size_replicate, ha]
  rw [if_neg (by omega)]
  exact ⟨r1, r2, hs, hq⟩
section MNA
variable {p : Program} {l : Launch} {e : Env} {R : Room} {s : State} {m : MethodId} {args : Array Value} {below : List Frame} {meth : Method} {c : Code} {cells slots : Nat} {Q : State → Prop}
/-- the state with i rows made -/
def mnV (T : State) (cA cI : ClassId) (N K : Nat) : Nat → State
  | 0 => T.pushCell (arrV cA N (fun _ => .null))
  | i + 1 => ((mnV T cA cI N K i).pushCell (arrV cI K (fun _ => .int 0))).setCell T.heap.size ((arrV cA N (fun j => va_rf (if j < i then some (T.heap.size + 1 + j) else none))).setSlot i (.ref (T.heap.size + 1 + i)))
/-- what holds of it -/
def MnI (p : Program) (l : Launch) (e : Env) (R : Room) (s : State) (m : MethodId) (args : Array Value) (below : List Frame) (meth : Method) (c : Code) (T : State) (locs : List Loc) (cells slots : Nat) (vm1 : Vm) (cA cI : ClassId) (N K i : Nat) (V : State) : Prop :=
  Stand p l e R s m args below meth c V locs (cells + 1 + i) (slots + N + i * K) ∧ V.heap.size = T.heap.size + 1 + i ∧ V.heap[T.heap.size]? = some (arrV cA N (fun j => va_rf (if j < i then some (T.heap.size + 1 + j) else none))) ∧
    (∀ j, j < i → V.heap[T.heap.size + 1 + j]? = some (arrV cI K (fun _ => .int 0))) ∧ (∀ q, q < T.heap.size → V.heap[q]? = T.heap[q]?) ∧ V.vm = vm1 ∧ V.slotsUsed = T.slotsUsed + N + i * K
/-- one row more -/
theorem mn_step {T : State} {locs : List Loc} {vm1 : Vm} {cA cI : ClassId} {N K i : Nat} {V : State} (hT : s.heap.size ≤ T.heap.size) (X : Stand p l e R s m args below meth c V locs (cells + 1 + i) (slots + N + i * K)) (h1 : V.heap.size = T.heap.size + 1 + i) (h2 : V.heap[T.heap.size]? = some (arrV cA N (fun j => va_rf (if j < i then some (T.heap.size + 1 + j) else none))))
    (h3 : ∀ j, j < i → V.heap[T.heap.size + 1 + j]? = some (arrV cI K (fun _ => .int 0))) (h4 : ∀ q, q < T.heap.size → V.heap[q]? = T.heap[q]?) (h5 : V.vm = vm1) (h6 : V.slotsUsed = T.slotsUsed + N + i * K) :
    MnI p l e R s m args below meth c T locs cells slots vm1 cA cI N K (i + 1) ((V.pushCell (arrV cI K (fun _ => .int 0))).setCell T.heap.size ((arrV cA N (fun j => va_rf (if j < i then some (T.heap.size + 1 + j) else none))).setSlot i (.ref (T.heap.size + 1 + i)))) := by
  have hlt : T.heap.size < V.heap.size := by omega
  have h2' : (V.pushCell (arrV cI K (fun _ => .int 0))).heap[T.heap.size]? = some (arrV cA N (fun j => va_rf (if j < i then some (T.heap.size + 1 + j) else none))) := by rw [State.heap_pushCell_of_lt (h := hlt)]; exact h2
  have X1 := (X.pushed (arrV cI K (fun _ => .int 0))).stored h2' i (.ref (T.heap.size + 1 + i))
  rw [arrV_size] at X1
  have X2 := Stand.forget X1 (fun q hq => by
    rcases List.mem_singleton.mp hq with rfl
    exact hT)
  have hlt2 : T.heap.size < (V.pushCell (arrV cI K (fun _ => .int 0))).heap.size := (Array.getElem?_eq_some_iff.mp h2').1
  refine ⟨?_, ?_, ?_, fun j hj => ?_, fun q hq => ?_, ?_, ?_⟩
  · have e3 : slots + N + i * K + K = slots + N + (i + 1) * K := by rw [Nat.succ_mul]; omega
    rw [← e3]
    exact X2
  · rw [size_setCell]
    simp [h1]
    omega
  · rw [heapAt_setCell_self _ hlt2, arrV_store]
    refine congrArg some (congrArg (arrV cA N) (funext fun j => ?_))
    unfold updV
    by_cases ej : j = i
    · subst ej
      simp [va_rf]
    · rw [if_neg ej]
      dsimp only
      by_cases hj : j < i
      · rw [if_pos hj, if_pos (Nat.lt_succ_of_lt hj)]
      · rw [if_neg hj, if_neg (by omega)]
  · rw [heapAt_setCell_ne _ (show T.heap.size ≠ T.heap.size + 1 + j by omega)]
    by_cases ej : j = i
    · subst ej
      rw [← h1]
      exact State.heap_pushCell_size _ _
    · rw [State.heap_pushCell_of_lt (h := show T.heap.size + 1 + j < V.heap.size by omega)]
      exact h3 j (by omega)
  · rw [heapAt_setCell_ne _ (show T.heap.size ≠ q by omega), State.heap_pushCell_of_lt (h := show q < V.heap.size by omega)]
    exact h4 q hq
  · exact h5
  · rw [State.slotsUsed_setCell, State.slotsUsed_pushCell, h6, arrV_size, Nat.succ_mul]
    omega
theorem mn_facts {T : State} {locs : List Loc} {vm1 : Vm} {cA cI : ClassId} {N K : Nat} (hT : s.heap.size ≤ T.heap.size) (X : Stand p l e R s m args below meth c T locs cells slots) (hvm : T.vm = vm1) : ∀ i, MnI p l e R s m args below meth c T locs cells slots vm1 cA cI N K i (mnV T cA cI N K i) := by
  intro i
  induction i with
  | zero =>
    have X0 := X.pushed (arrV cA N (fun _ => .null))
    rw [arrV_size] at X0
    refine ⟨by rw [Nat.zero_mul]; exact X0, by simp [mnV], ?_, fun j hj => absurd hj (Nat.not_lt_zero _), fun q hq => State.heap_pushCell_of_lt _ _ hq, hvm, ?_⟩
    · unfold mnV
      rw [State.heap_pushCell_size]
      refine congrArg some (congrArg (arrV cA N) (funext fun j => ?_))
      rw [if_neg (Nat.not_lt_zero _)]
      rfl
    · unfold mnV
      rw [State.slotsUsed_pushCell, arrV_size]
      omega
  | succ i ih =>
    obtain ⟨X1, h1, h2, h3, h4, h5, h6⟩ := ih
    exact mn_step hT X1 h1 h2 h3 h4 h5 h6
/-- all of them -/
theorem mn_make {E : CtlPost} {T : State} {locs : List Loc} {vm1 : Vm} {cA cI co : ClassId} {kA kI : Class} {n k : Int32} {N K : Nat} {g : JFrame} {d : Bool} {acts : List Action} (hT : s.heap.size ≤ T.heap.size) (X : Stand p l e R s m args below meth c T locs cells slots) (hvm : T.vm = vm1) (hA : vm1.classes[cA]? = some kA) (hAk : kA.kind = .array cI (.array .int)) (hI : vm1.classes[cI]? = some kI) (hIk : kI.kind = .array co .int)
    (hn : ¬ n < 0) (hk : ¬ k < 0) (hN : n.toNatClampNeg = N) (hK : k.toNatClampNeg = K) (l1 : N ≤ 1000) (l2 : K ≤ 1000) (hcells : cells + (1 + N) ≤ R.cells) (hslots : slots + (N + N * K) ≤ R.slots) {Qa : Addr → Pre} (hq : ∀ d' acts', Qa T.heap.size d' acts' ((mnV T cA cI N K N).setTop g)) :
    wp (Op.multianewarray.make cA [n, k]) Qa E e d acts (T.setTop g) := by
  have p1 : ∀ z, z ≤ 1000 → ¬ z > e.platform.arrayLengthLimit := fun z hz => by rw [Launch.admits_arrayLengthLimit X.admits]; omega
  have p2 : ¬ N * componentBytes (.array .int) > e.platform.maxHeapBytes := by
    rw [Launch.admits_maxHeapBytes X.admits]
    show ¬ N * 4 > 536870912
    omega
  have p3 : ¬ K * componentBytes .int > e.platform.maxHeapBytes := by
    rw [Launch.admits_maxHeapBytes X.admits]
    show ¬ K * 4 > 536870912
    omega
  obtain ⟨r1, r2⟩ := X.roomAbove hcells hslots
  have hNK : 0 ≤ N * K := Nat.zero_le _
  rw [Op.multianewarray.make]
  simp only [wp_bind', W.ite, hn, if_false, wp_pure', W.theClass, State.vm_setTop, hvm, hA, hAk, hN, Option.some.injEq, exists_eq_left']
  refine mn_one (k := kA) (co := cI) (ty := .array .int) (by rw [State.vm_setTop, hvm]; exact hA) hAk (p1 N l1) p2 rfl rfl (by rw [State.heap_setTop]; omega) (by rw [State.slotsUsed_setTop]; omega) ?_
  have hf : ([k].find? (· < 0)) = none := by simp [hk]
  simp only [hf]
  rw [ite_self, wp_bind', Std.Legacy.Range.forIn_eq_forIn_range']
  have hsz : ([:N] : Std.Legacy.Range).size = N := by simp [Std.Legacy.Range.size]
  rw [hsz]
  show wp (forIn (List.range' 0 N 1) PUnit.unit _) _ E e d acts _
  refine wp_forIn_inv (fun rest U => ∃ i, i ≤ N ∧ rest = List.range' i (N - i) ∧ U = (mnV T cA cI N K i).setTop g) _ _ ⟨0, Nat.zero_le _, rfl, rfl⟩ ?_ ?_
  · rintro x rest U d' acts' Q' ⟨i, hi, hl, rfl⟩ hnext
    obtain ⟨X1, h1, h2, h3, h4, h5, h6⟩ := mn_facts (cA := cA) (cI := cI) (N := N) (K := K) hT X hvm i
    generalize hV : mnV T cA cI N K i = V at X1 h1 h2 h3 h4 h5 h6 ⊢
    have hlt : i < N := by
      rcases Nat.lt_or_ge i N with h | h
      · exact h
      · rw [show N - i = 0 by omega] at hl
        cases hl
    rw [show N - i = (N - (i + 1)) + 1 by omega, List.range'_succ] at hl
    obtain ⟨rfl, hr⟩ := List.cons.inj hl
    have hmul : x * K + K ≤ N * K := by
      have := Nat.mul_le_mul_right K (show x + 1 ≤ N from hlt)
      rw [Nat.succ_mul] at this
      exact this
    simp only [wp_bind']
    rw [Op.multianewarray.make]
    simp only [wp_bind', W.ite, hk, if_false, wp_pure', W.theClass, State.vm_setTop, h5, hI, hIk, hK, Option.some.injEq, exists_eq_left']
    refine mn_one (k := kI) (co := co) (ty := .int) (by rw [State.vm_setTop, h5]; exact hI) hIk (p1 K l2) p3 rfl rfl (by rw [State.heap_setTop, h1]; omega) (by rw [State.slotsUsed_setTop, h6]; omega) ?_
    simp only [wp_bind', W.writeLoc, wp_pure']
    have hlt0 : T.heap.size < V.heap.size := by omega
    refine ⟨arrV cA N (fun j => va_rf (if j < x then some (T.heap.size + 1 + j) else none)), ?_, ?_, ?_, ?_, hnext _ _ _ ⟨x + 1, hlt, hr, ?_⟩⟩
    · show (V.pushCell (arrV cI K (fun _ => defaultValue FieldType.int))).heap[T.heap.size]? = _
      rw [State.heap_pushCell_of_lt (h := hlt0)]
      exact h2
    · exact fun z => by cases z
    · rw [arrV_size]; exact hlt
    · simp [State.fitsSlot, State.slotType?, arrV, h5, hA, hAk, fits]
    · show ((V.pushCell (arrV cI K (fun _ => defaultValue FieldType.int))).setCell T.heap.size ((arrV cA N (fun j => va_rf (if j < x then some (T.heap.size + 1 + j) else none))).setSlot x (.ref V.heap.size))).setTop g = _
      rw [h1]
      subst hV
      rfl
  · rintro U d' acts' ⟨i, hi, hl, rfl⟩
    have hiN : i = N := by
      rcases Nat.lt_or_ge i N with h | h
      · rw [show N - i = (N - (i + 1)) + 1 by omega, List.range'_succ] at hl
        cases hl
      · omega
    subst hiN
    simp only [wp_pure']
    exact hq _ _
/-- the instruction -/
theorem mn_row {H : Heap} {locs : List Loc} {cc : ByteArray} (hexec : p.tables.exec = Jvm.exec) (hb : c.code = cc) {own : String} {index : Nat} (hown : s.vm.findClass own = some m.cls) (hcl : (Cond.classLink own index "[[I").before args s = true) (hover : (Cond.arrayOver (.array .int)).before args s = true) (harr : (Cond.arrayClass .int).before args s = true) {cI cA : ClassId} (hcI : s.vm.findClass "[I" = some cI) (hcA : s.vm.findClass "[[I" = some cA)
    {n k : Int32} {N K : Nat} (hn : ¬ n < 0) (hk : ¬ k < 0) (hN : n.toNatClampNeg = N) (hK : k.toNatClampNeg = K) (l1 : N ≤ 1000) (l2 : K ≤ 1000) (hcells : cells + (1 + N) ≤ R.cells) (hslots : slots + (N + N * K) ≤ R.slots) {pc : Nat} {ls : Array Slot} {rest : List Value} (hdg : decode cc pc = .ok (.multianewarray index 2, 4)) (hH : s.heap.size ≤ H.size)
    (kk : ∀ H1 : Heap, H1.size = H.size + 1 + N → H1[H.size]? = some (arrV cA N (fun j => va_rf (if j < N then some (H.size + 1 + j) else none))) → (∀ j, j < N → H1[H.size + 1 + j]? = some (arrV cI K (fun _ => .int 0))) → (∀ q, q < H.size → H1[q]? = H[q]?) →
      W p l e R s m args below meth c H1 locs (cells + 1 + N) (slots + N + N * K) Q (F0 m (pc + 4) ls (.ref H.size :: rest))) : W p l e R s m args below meth c H locs cells slots Q (F0 m pc ls (.int k :: .int n :: rest)) := by
  intro T hT X
  subst hT
  subst hb
  have hpl : e.platform.magicAccessors = ({} : Platform).magicAccessors := by rw [X.admits.platform]
  obtain ⟨c1, c2, kA, q1, -, q2, q3, q4⟩ := arrayOverA_spec hover
  obtain ⟨c3, kI, co, q5, q6, q7⟩ := Cond.arrayClass_spec harr
  have e1 : c1 = cI := Option.some.inj (q1.symm.trans hcI)
  have e2 : c2 = cA := Option.some.inj (q4.symm.trans hcA)
  have e3 : c3 = cI := Option.some.inj (q5.symm.trans hcI)
  subst e1
  subst e2
  subst e3
  obtain ⟨c0, hfc0, hcl0⟩ := Cond.classLink_spec hown hcl e.platform hpl
  have e4 : c0 = c2 := Option.some.inj (hfc0.symm.trans hcA)
  subst e4
  obtain ⟨hg, hw, -⟩ := State.classEntry (e := e) X.warmed hcl0
  generalize T.vm.noted m.cls index (.cls c0) = vm1 at hg hw
  obtain ⟨kA1, a1, a2⟩ := hw.alike.2.2 _ _ q2
  obtain ⟨kI1, b1, b2⟩ := hw.alike.2.2 _ _ q6
  have X1 := X.noted hw
  obtain ⟨XV, h1, h2, h3, h4, -, -⟩ := mn_facts (T := T.setVm vm1) (cA := c0) (cI := c3) (N := N) (K := K) (vm1 := vm1) hH X1 rfl N
  obtain ⟨t, st, hQ⟩ := kk _ h1 h2 h3 h4 _ rfl XV
  refine ⟨t, ?_, hQ⟩
  jvm_step X.here [hexec, hdg]
  simp only [Op.multianewarray.sem, wp_bind', W.resolveClassAt_links (State.method?_setTop (F0 m pc ls (.int k :: .int n :: rest)) X.here.top) hg]
  rw [W.popN, if_neg (by decide)]
  refine ⟨F0 m pc ls (.int k :: .int n :: rest), State.topJava?_setTop' (s := T.setVm vm1) _ X.here.top, [.int n, .int k], rest, rfl, rfl, ?_⟩
  simp only [List.mapM_cons, List.mapM_nil, wp_bind', wp_pure']
  have eS : ((T.setTop (F0 m pc ls (.int k :: .int n :: rest))).setVm vm1).setTop (F0 m pc ls rest) = (T.setVm vm1).setTop (F0 m pc ls rest) := by
    show ((T.setVm vm1).setTop _).setTop _ = _
    rw [State.setTop_setTop]
  show wp (Op.multianewarray.make c0 [n, k]) _ _ e _ _ (((T.setTop (F0 m pc ls (.int k :: .int n :: rest))).setVm vm1).setTop (F0 m pc ls rest))
  rw [eS]
  refine mn_make (s := s) (T := T.setVm vm1) hH X1 rfl a1 (by rw [a2]; exact q3) b1 (by rw [b2]; exact q7) hn hk hN hK l1 l2 hcells hslots (fun d' acts' => ?_)
  simp only [wp_bind', W.mark, W.pushRef, State.topJava?_setTop' _ XV.here.top, Option.some.injEq, exists_eq_left', State.setTop_setTop]
  intro acts
  simp [jvm, XV.here.top]
  exact st
end MNA
