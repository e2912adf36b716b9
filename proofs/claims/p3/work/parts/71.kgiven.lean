/-! WHAT IS GIVEN AT THE START -/
def gvL : List Jvm.Cond := flatC (Jvm.Cond.and given_1 narrow_1)
def gvK : List Nat := [70, 80, 117, 119, 121, 123, 125, 127, 129, 131, 133, 135, 137, 139]
def gvT (i : Nat) : Jvm.Term := .string "MeltPins$Tape" (gvK.getD i 0)
def gvV (i : Nat) : Jvm.Term := .field (gvT i) "java/lang/String" "value" "[B"
def gvZ (k : Nat) : Jvm.Term := .static "MeltPins" (mzStat k) "[I"
def gvN (i : Nat) : Nat := (mzStrT.map List.length).getD i 0
def gvB (i j : Nat) : Int32 := ((mzStrT.map (List.map Int32.ofInt)).getD i []).getD j 0
theorem gv_1 : ∀ i, i < 14 → Jvm.Cond.exactly (gvT i) "java/lang/String" ∈ gvL := by decide +kernel
theorem gv_2 : ∀ i, i < 14 → Jvm.Cond.eq (.field (gvT i) "java/lang/String" "coder" "B") (.int 0) ∈ gvL := by decide +kernel
theorem gv_3 : ∀ i, i < 14 → Jvm.Cond.arrayOf (gvV i) .byte ∈ gvL := by decide +kernel
theorem gv_4 : ∀ i, i < 14 → Jvm.Cond.eq (.length (gvV i)) (.int (Int32.ofNat (gvN i))) ∈ gvL := by decide +kernel
theorem gv_5 : ∀ i, i < 14 → ∀ j, j < gvN i → Jvm.Cond.eq (.elem (gvV i) (.int (Int32.ofNat j))) (.int (gvB i j)) ∈ gvL := by decide +kernel
theorem gv_6 : ∀ q ∈ mzSL, q.2.2 < 14 ∧ ((q.1 = 2 ∧ q.2.1 = gvK.getD q.2.2 0) ∨ (q.1 = 5 ∧ Jvm.Cond.eq (gvT q.2.2) (.string "MeltPinsModel" q.2.1) ∈ gvL)) := by decide +kernel
theorem gv_7 : ∀ q ∈ mzSL, Jvm.Cond.stringRef (mzNo q.1) q.2.1 (mzStrS.getD q.2.2 "") ∈ tables_1 := by decide +kernel
theorem gv_8 : ∀ k, k < 3 → Jvm.Cond.arrayOf (gvZ k) .int ∈ gvL ∧ Jvm.Cond.eq (.length (gvZ k)) (.int (Int32.ofNat (mzCsl (200 + k)))) ∈ gvL ∧ Jvm.Cond.laysStatic "MeltPins" (mzStat k) "[I" ∈ tables_1 ∧ mzCsl (200 + k) < 2 ^ 31 := by decide +kernel
theorem gv_9 : ∀ k, k < 3 → ∀ j, j < mzCsl (200 + k) → Jvm.Cond.eq (.elem (gvZ k) (.int (Int32.ofNat j))) (.int (Int32.ofInt (mzCst (200 + k) j))) ∈ gvL := by decide +kernel
theorem gv_10 : Jvm.Cond.eq (.static "java/lang/String" "COMPACT_STRINGS" "Z") (.int 1) ∈ gvL ∧ Jvm.Cond.isRef (.static "jdk/internal/util/Preconditions" "SIOOBE_FORMATTER" "Ljava/util/function/BiFunction;") ∈ gvL := by decide +kernel
theorem gv_11 : Jvm.Cond.laysStatic "java/lang/String" "COMPACT_STRINGS" "Z" ∈ tables_1 ∧ Jvm.Cond.laysStatic "jdk/internal/util/Preconditions" "SIOOBE_FORMATTER" "Ljava/util/function/BiFunction;" ∈ tables_1 ∧ Jvm.Cond.initialized "java/lang/String" ∈ tables_1 ∧ Jvm.Cond.initialized "jdk/internal/util/Preconditions" ∈ tables_1 ∧ Jvm.Cond.initialized "MeltPins" ∈ tables_1 := by decide +kernel
theorem gv_12 : ∀ i, i < 14 → gvN i < 2 ^ 31 := by decide +kernel
theorem gv_13 : ∀ i, i < 14 → ∀ j, j < 14 → Int32.ofNat (gvN i) = Int32.ofNat (gvN j) → (∀ t, t < gvN i → t < gvN j → gvB i t = gvB j t) → i = j := by decide +kernel
theorem gv_tb {w : Jvm.Cond} (h : w ∈ tables_1) : w ∈ lw_tbl := List.mem_append_right _ h
def gvA (h : Nat) : Nat → Prop := fun q => h ≤ q
section GV
variable {s : State} {args : Array Value}
theorem gv_out : ∀ a : Nat, a < s.heap.size → ¬ gvA s.heap.size a := fun a h z => absurd z (Nat.not_le.mpr h)
theorem gv_one (hw : ∀ w ∈ gvL, w.before args s = true) (i : Nat) : ∃ q : Nat × Nat, i < 14 → (gvT i).eval args s none [] s = some (.ref q.1) ∧ (va_O "java/lang/String" q.1 (gvA s.heap.size) s s.heap ∧ va_OF "java/lang/String" "coder" "B" (.int 0) q.1 (gvA s.heap.size) s s.heap ∧ va_OF "java/lang/String" "value" "[B" (.ref q.2) q.1 (gvA s.heap.size) s s.heap ∧ va_T .byte q.2 (gvN i) (fun j => .int (gvB i j)) (gvA s.heap.size) s s.heap) := by
  by_cases hi : i < 14
  · obtain ⟨aK, aV, h1, h2⟩ := vk_Sof (args := args) (s := s) (N := 1) (tm := fun _ => gvT i) (len := [gvN i]) (byt := [(mzStrT.map (List.map Int32.ofInt)).getD i []]) (A := gvA s.heap.size)
      (fun z hz => by obtain rfl : z = 0 := by omega
                      exact gv_12 i hi)
      (fun z hz => hw _ (gv_1 i hi)) (fun z hz => hw _ (gv_2 i hi)) (fun z hz => hw _ (gv_3 i hi))
      (fun z hz => by obtain rfl : z = 0 := by omega
                      exact hw _ (gv_4 i hi))
      (fun z hz j hj => by obtain rfl : z = 0 := by omega
                           exact hw _ (gv_5 i hi j hj))
      (fun z1 z2 h1 h2 h3 => absurd h3 (by omega)) gv_out
    exact ⟨(aK 0, aV 0), fun _ => ⟨h2 0 (by decide), h1.1 0 (by decide)⟩⟩
  · exact ⟨(0, 0), fun h => absurd h hi⟩
theorem gv_same {v : Nat} {n1 n2 : Nat} {f1 f2 : Nat → Int32} {A : Nat → Prop} {H : Heap} (h1 : va_T .byte v n1 (fun j => .int (f1 j)) A s H) (h2 : va_T .byte v n2 (fun j => .int (f2 j)) A s H) : Int32.ofNat n1 = Int32.ofNat n2 ∧ ∀ t, t < n1 → t < n2 → f1 t = f2 t := by
  obtain ⟨c1, a1, -, -, -, a2, a3, -⟩ := h1
  obtain ⟨c2, b1, -, -, -, b2, b3, -⟩ := h2
  have e : c1 = c2 := Option.some.inj (a1.symm.trans b1)
  subst e
  refine ⟨a2.symm.trans b2, fun t h1 h2 => ?_⟩
  have := (a3 t h1).symm.trans (b3 t h2)
  exact Value.int.inj (Option.some.inj this)
theorem gv_field {o n d : String} {v w : Nat} {a : Nat} {A : Nat → Prop} {H : Heap} (h1 : va_OF o n d (.ref v) a A s H) (h2 : va_OF o n d (.ref w) a A s H) : v = w := by
  obtain ⟨cf, k, fi, f, c1, p1, p2, p3, p4, p5, -⟩ := h1
  obtain ⟨cf2, k2, fi2, f2, c2, q1, q2, q3, q4, q5, -⟩ := h2
  cases p1.symm.trans q1
  cases p3.symm.trans q3
  have := p5.symm.trans q5
  exact Value.ref.inj (Option.some.inj this)
theorem gv_str (hts : ∀ w ∈ lw_tbl, w.before args s = true) (hg : (Jvm.Cond.and given_1 narrow_1).before args s = true) : ∃ adK adV : Nat → Nat, vk_S 14 (mzStrT.map List.length) (mzStrT.map (List.map Int32.ofInt)) adK adV (gvA s.heap.size) s s.heap ∧ ∀ q ∈ mzSL, vk_R (mzNo q.1) q.2.1 (mzStrS.getD q.2.2 "") (adK q.2.2) s := by
  have hw : ∀ w ∈ gvL, w.before args s = true := flat_of_before _ hg
  obtain ⟨ad, had⟩ := Classical.axiomOfChoice (gv_one hw)
  refine ⟨fun i => (ad i).1, fun i => (ad i).2, ⟨fun i hi => (had i hi).2, fun i j hi hj e => ?_⟩, fun q hq => ?_⟩
  · have h1 := (had i hi).2
    have h2 := (had j hj).2
    have e : (ad i).1 = (ad j).1 := e
    rw [← e] at h2
    have e2 := gv_field h1.2.2.1 h2.2.2.1
    have h3 := h2.2.2.2
    rw [← e2] at h3
    obtain ⟨g1, g2⟩ := gv_same h1.2.2.2 h3
    exact gv_13 i hi j hj g1 g2
  · obtain ⟨a1, a2⟩ := gv_6 q hq
    refine vk_R.of (A := args) (hts _ (gv_tb (gv_7 q hq))) ?_
    rcases a2 with ⟨e1, e2⟩ | ⟨e1, e2⟩
    · rw [e1, e2]
      exact (had q.2.2 a1).1
    · rw [e1]
      exact va_eqR (hw _ e2) (had q.2.2 a1).1
theorem gv_sta (hts : ∀ w ∈ lw_tbl, w.before args s = true) (hg : (Jvm.Cond.and given_1 narrow_1).before args s = true) : ∃ st : Nat → Nat, ∀ k, k < 3 → va_Z "MeltPins" (mzStat k) "[I" (.ref (st k)) (gvA s.heap.size) s s.heap ∧ va_T .int (st k) (mzCsl (200 + k)) (fun j => .int (Int32.ofInt (mzCst (200 + k) j))) (gvA s.heap.size) s s.heap := by
  have hw : ∀ w ∈ gvL, w.before args s = true := flat_of_before _ hg
  have one : ∀ k, ∃ t : Nat, k < 3 → va_Z "MeltPins" (mzStat k) "[I" (.ref t) (gvA s.heap.size) s s.heap ∧ va_T .int t (mzCsl (200 + k)) (fun j => .int (Int32.ofInt (mzCst (200 + k) j))) (gvA s.heap.size) s s.heap := by
    intro k
    by_cases hk : k < 3
    · obtain ⟨a1, a2, a3, a4⟩ := gv_8 k hk
      obtain ⟨t, h1, h2⟩ := va_Tof (f := fun j => .int (Int32.ofInt (mzCst (200 + k) j))) (A := gvA s.heap.size) a4 (hw _ a1) (va_eqt (hw _ a2)) (fun j hj => va_eqt (hw _ (gv_9 k hk j hj))) gv_out
      exact ⟨t, fun _ => ⟨va_Zref (hts _ (gv_tb a3)) (hts _ (gv_tb gv_11.2.2.2.2)) h1 gv_out, h2⟩⟩
    · exact ⟨0, fun h => absurd h hk⟩
  obtain ⟨st, hst⟩ := Classical.axiomOfChoice one
  exact ⟨st, hst⟩
theorem gv_cls (hts : ∀ w ∈ lw_tbl, w.before args s = true) : ∃ D : va_G, ∀ (c : Nat) (q : vw_C), mzCls[c]? = some q → u_Kn s q.1 q.2.1 q.2.2 (D.1 c) (D.2 c) := by
  have htb : ∀ w ∈ mzTb, w.before args s = true := fun w hw => hts w (List.mem_filter.mp hw).1
  have one : ∀ ci, ∃ q : ClassId × (Nat → Nat), ci < 6 → u_Kn s (mzNo ci) (mzFq ci) (mzNf ci) q.1 q.2 := by
    intro ci
    by_cases hc : ci < 6
    · have hi : ∃ n, Jvm.Cond.instantiable (mzNo ci) n ∈ lw_tbl := by
        match ci, hc with
        | 0, _ => exact ⟨_, mk_it0⟩
        | 1, _ => exact ⟨_, mk_it1⟩
        | 2, _ => exact ⟨_, mk_it2⟩
        | 3, _ => exact ⟨_, mk_it3⟩
        | 4, _ => exact ⟨_, mk_it4⟩
        | 5, _ => exact ⟨_, mk_it5⟩
      obtain ⟨n, hi⟩ := hi
      obtain ⟨cC, iS, h⟩ := u_known htb (mz_uws ci hc) (hts _ hi)
      exact ⟨(cC, iS), fun _ => h⟩
    · exact ⟨(0, fun _ => 0), fun h => absurd h hc⟩
  obtain ⟨f, hf⟩ := Classical.axiomOfChoice one
  refine ⟨(fun c => (f c).1, fun c => (f c).2), fun c q hq => ?_⟩
  have hc : c < 6 := (List.getElem?_eq_some_iff.mp hq).1
  have e := (mz_cls c hc).symm.trans hq
  cases e
  exact hf c hc
theorem gv_K (hts : ∀ w ∈ lw_tbl, w.before args s = true) : ∃ (D : va_G) (cI cA cS : ClassId), va_K D mzCls (mkT cI cA cS) s := by
  obtain ⟨D, hD⟩ := gv_cls hts
  obtain ⟨cI, kI, co, a1, a2, a3⟩ := Jvm.Cond.arrayClass_spec (hts _ mk_arr)
  obtain ⟨c1, cA, kA, b1, -, b3, b4, b5⟩ := arrayOverA_spec (hts _ mk_aoi)
  obtain ⟨c2, cS, kS, d1, -, d3, d4, d5⟩ := Jvm.Cond.arrayOver_spec (hts _ mk_aos)
  refine ⟨D, cI, cA, cS, hD, fun k q hk => ?_⟩
  match k, hk with
  | 0, hk =>
    cases hk
    exact ⟨fun n z => ⟨(fun k h => by cases h), kI, a2, co, a3⟩, a1⟩
  | 1, hk =>
    cases hk
    exact ⟨fun n z => ⟨(fun k h => by cases h), kA, b3, c1, b4⟩, b5⟩
  | 2, hk =>
    cases hk
    exact ⟨fun n z => ⟨(fun k h => by cases h), kS, d3, c2, d4⟩, kS, c2, d3, d4, d1, d5⟩
  | k + 3, hk => cases hk
end GV
