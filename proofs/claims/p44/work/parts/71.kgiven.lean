/-! WHAT IS GIVEN AT THE START -/
def gvL : List Jvm.Cond := flatC (Jvm.Cond.and given_1 narrow_1)
def gvK : List Nat := [70, 80, 117, 119, 121, 123, 125, 127, 129, 131, 133, 135, 137, 139]
def gvT (i : Nat) : Jvm.Term := .string "MeltPins$Tape" (gvK.getD i 0)
def gvV (i : Nat) : Jvm.Term := .field (gvT i) "java/lang/String" "value" "[B"
def gvZ (k : Nat) : Jvm.Term := .static "MeltPins" (mzStat k) "[I"
def gvN (i : Nat) : Nat := (mzStrT.map List.length).getD i 0
def gvB (i j : Nat) : Int32 := ((mzStrT.map (List.map Int32.ofInt)).getD i []).getD j 0
def gvWd (k a b _ _ : Nat) : Jvm.Cond := match k with
  | 1 => .exactly (gvT a) "java/lang/String"
  | 2 => .eq (.field (gvT a) "java/lang/String" "coder" "B") (.int 0)
  | 3 => .arrayOf (gvV a) .byte
  | 4 => .eq (.length (gvV a)) (.int (Int32.ofNat (gvN a)))
  | 5 => .eq (.elem (gvV a) (.int (Int32.ofNat b))) (.int (gvB a b))
  | 6 => .eq (gvT a) (.string "MeltPinsModel" b)
  | 8 => .arrayOf (gvZ a) .int
  | 9 => .eq (.length (gvZ a)) (.int (Int32.ofNat (mzCsl (200 + a))))
  | 10 => .eq (.elem (gvZ a) (.int (Int32.ofNat b))) (.int (Int32.ofInt (mzCst (200 + a) b)))
  | 11 => .eq (.static "java/lang/String" "COMPACT_STRINGS" "Z") (.int 1)
  | _ => .isRef (.static "jdk/internal/util/Preconditions" "SIOOBE_FORMATTER" "Ljava/util/function/BiFunction;")
def gvPs : List (Nat × Nat × Nat × Nat × Nat × Nat) := [(4, 11, 0, 0, 0, 0), (5, 12, 0, 0, 0, 0), (10, 8, 1, 0, 0, 0), (11, 9, 1, 0, 0, 0), (12, 10, 1, 0, 0, 0), (13, 10, 1, 1, 0, 0), (14, 10, 1, 2, 0, 0), (15, 10, 1, 3, 0, 0), (16, 10, 1, 4, 0, 0), (17, 10, 1, 5, 0, 0), (18, 10, 1, 6, 0, 0), (19, 10, 1, 7, 0, 0), (20, 10, 1, 8, 0, 0), (22, 8, 2, 0, 0, 0), (23, 9, 2, 0, 0, 0), (24, 10, 2, 0, 0, 0), (25, 10, 2, 1, 0, 0), (26, 10, 2, 2, 0, 0), (27, 10, 2, 3, 0, 0), (28, 10, 2, 4, 0, 0), (29, 10, 2, 5, 0, 0), (30, 10, 2, 6, 0, 0), (31, 10, 2, 7, 0, 0), (32, 10, 2, 8, 0, 0), (34, 8, 0, 0, 0, 0), (35, 9, 0, 0, 0, 0), (36, 10, 0, 0, 0, 0), (37, 10, 0, 1, 0, 0), (38, 10, 0, 2, 0, 0), (39, 10, 0, 3, 0, 0), (40, 10, 0, 4, 0, 0), (41, 10, 0, 5, 0, 0), (42, 10, 0, 6, 0, 0), (43, 1, 0, 0, 0, 0), (44, 2, 0, 0, 0, 0), (45, 3, 0, 0, 0, 0), (46, 4, 0, 0, 0, 0), (47, 5, 0, 0, 0, 0), (48, 5, 0, 1, 0, 0), (49, 1, 1, 0, 0, 0), (50, 2, 1, 0, 0, 0), (51, 3, 1, 0, 0, 0), (52, 4, 1, 0, 0, 0), (53, 5, 1, 0, 0, 0), (54, 5, 1, 1, 0, 0), (55, 1, 2, 0, 0, 0), (56, 2, 2, 0, 0, 0), (57, 3, 2, 0, 0, 0), (58, 4, 2, 0, 0, 0), (59, 5, 2, 0, 0, 0), (60, 5, 2, 1, 0, 0), (61, 5, 2, 2, 0, 0), (62, 5, 2, 3, 0, 0), (63, 5, 2, 4, 0, 0), (64, 1, 3, 0, 0, 0), (65, 2, 3, 0, 0, 0), (66, 3, 3, 0, 0, 0), (67, 4, 3, 0, 0, 0), (68, 5, 3, 0, 0, 0), (69, 5, 3, 1, 0, 0), (70, 5, 3, 2, 0, 0), (71, 5, 3, 3, 0, 0), (72, 1, 4, 0, 0, 0), (73, 2, 4, 0, 0, 0), (74, 3, 4, 0, 0, 0), (75, 4, 4, 0, 0, 0), (76, 5, 4, 0, 0, 0), (77, 5, 4, 1, 0, 0), (78, 5, 4, 2, 0, 0), (79, 5, 4, 3, 0, 0), (80, 1, 5, 0, 0, 0), (81, 2, 5, 0, 0, 0), (82, 3, 5, 0, 0, 0), (83, 4, 5, 0, 0, 0), (84, 5, 5, 0, 0, 0), (85, 5, 5, 1, 0, 0), (86, 5, 5, 2, 0, 0), (87, 5, 5, 3, 0, 0), (88, 5, 5, 4, 0, 0), (89, 5, 5, 5, 0, 0), (90, 5, 5, 6, 0, 0), (91, 1, 6, 0, 0, 0), (92, 2, 6, 0, 0, 0), (93, 3, 6, 0, 0, 0), (94, 4, 6, 0, 0, 0), (95, 5, 6, 0, 0, 0), (96, 5, 6, 1, 0, 0), (97, 5, 6, 2, 0, 0), (98, 5, 6, 3, 0, 0), (99, 5, 6, 4, 0, 0), (100, 1, 7, 0, 0, 0), (101, 2, 7, 0, 0, 0), (102, 3, 7, 0, 0, 0), (103, 4, 7, 0, 0, 0), (104, 5, 7, 0, 0, 0), (105, 5, 7, 1, 0, 0), (106, 5, 7, 2, 0, 0), (107, 5, 7, 3, 0, 0), (108, 1, 8, 0, 0, 0), (109, 2, 8, 0, 0, 0), (110, 3, 8, 0, 0, 0), (111, 4, 8, 0, 0, 0), (112, 5, 8, 0, 0, 0), (113, 5, 8, 1, 0, 0), (114, 5, 8, 2, 0, 0), (115, 5, 8, 3, 0, 0), (116, 1, 9, 0, 0, 0), (117, 2, 9, 0, 0, 0), (118, 3, 9, 0, 0, 0), (119, 4, 9, 0, 0, 0), (120, 5, 9, 0, 0, 0), (121, 5, 9, 1, 0, 0), (122, 5, 9, 2, 0, 0), (123, 5, 9, 3, 0, 0), (124, 5, 9, 4, 0, 0), (125, 1, 10, 0, 0, 0), (126, 2, 10, 0, 0, 0), (127, 3, 10, 0, 0, 0), (128, 4, 10, 0, 0, 0), (129, 5, 10, 0, 0, 0), (130, 5, 10, 1, 0, 0), (131, 5, 10, 2, 0, 0), (132, 5, 10, 3, 0, 0), (133, 5, 10, 4, 0, 0), (134, 1, 11, 0, 0, 0), (135, 2, 11, 0, 0, 0), (136, 3, 11, 0, 0, 0), (137, 4, 11, 0, 0, 0), (138, 5, 11, 0, 0, 0), (139, 5, 11, 1, 0, 0), (140, 5, 11, 2, 0, 0), (141, 5, 11, 3, 0, 0), (142, 1, 12, 0, 0, 0), (143, 2, 12, 0, 0, 0), (144, 3, 12, 0, 0, 0), (145, 4, 12, 0, 0, 0), (146, 5, 12, 0, 0, 0), (147, 5, 12, 1, 0, 0), (148, 5, 12, 2, 0, 0), (149, 5, 12, 3, 0, 0), (150, 5, 12, 4, 0, 0), (151, 1, 13, 0, 0, 0), (152, 2, 13, 0, 0, 0), (153, 3, 13, 0, 0, 0), (154, 4, 13, 0, 0, 0), (155, 5, 13, 0, 0, 0), (156, 5, 13, 1, 0, 0), (157, 5, 13, 2, 0, 0), (158, 5, 13, 3, 0, 0), (159, 5, 13, 4, 0, 0), (160, 5, 13, 5, 0, 0), (167, 6, 0, 148, 0, 0), (174, 6, 1, 152, 0, 0), (184, 6, 2, 116, 0, 0), (193, 6, 3, 118, 0, 0), (202, 6, 4, 120, 0, 0), (214, 6, 5, 122, 0, 0), (224, 6, 6, 124, 0, 0), (233, 6, 7, 126, 0, 0), (242, 6, 8, 128, 0, 0), (252, 6, 9, 136, 0, 0), (262, 6, 10, 141, 0, 0), (271, 6, 11, 142, 0, 0), (281, 6, 12, 144, 0, 0), (292, 6, 13, 146, 0, 0)]
theorem gv_all : mzWalk gvWd gvL 0 gvPs = true := by decide +kernel
theorem gv_in {k a b : Nat} (h : mzHas gvPs k a b 0 0 = true) : gvWd k a b 0 0 ∈ gvL := by
  obtain ⟨q, hq, rfl, rfl, rfl, e1, e2⟩ := mz_hasq h
  have := mz_walk _ _ _ gv_all q hq
  rw [e1, e2] at this
  exact this
def gvTd (k a b c _ : Nat) : Jvm.Cond := match k with
  | 1 => .stringRef (mzNo a) b (mzStrS.getD c "")
  | 2 => .laysStatic "MeltPins" (mzStat a) "[I"
  | 3 => .laysStatic "java/lang/String" "COMPACT_STRINGS" "Z"
  | 4 => .laysStatic "jdk/internal/util/Preconditions" "SIOOBE_FORMATTER" "Ljava/util/function/BiFunction;"
  | 5 => .initialized "java/lang/String"
  | 6 => .initialized "jdk/internal/util/Preconditions"
  | _ => .initialized "MeltPins"
def gvTs : List (Nat × Nat × Nat × Nat × Nat × Nat) := [(1, 7, 0, 0, 0, 0), (10, 5, 0, 0, 0, 0), (12, 6, 0, 0, 0, 0), (253, 1, 2, 70, 0, 0), (267, 3, 0, 0, 0, 0), (283, 4, 0, 0, 0, 0), (306, 1, 2, 80, 1, 0), (322, 1, 2, 117, 2, 0), (323, 1, 2, 119, 3, 0), (324, 1, 2, 121, 4, 0), (325, 1, 2, 123, 5, 0), (326, 1, 2, 125, 6, 0), (327, 1, 2, 127, 7, 0), (328, 1, 2, 129, 8, 0), (340, 1, 2, 131, 9, 0), (341, 1, 2, 133, 10, 0), (342, 1, 2, 135, 11, 0), (343, 1, 2, 137, 12, 0), (344, 1, 2, 139, 13, 0), (346, 2, 1, 0, 0, 0), (348, 2, 2, 0, 0, 0), (645, 2, 0, 0, 0, 0), (823, 1, 5, 148, 0, 0), (834, 1, 5, 152, 1, 0), (843, 1, 5, 116, 2, 0), (844, 1, 5, 118, 3, 0), (845, 1, 5, 120, 4, 0), (846, 1, 5, 122, 5, 0), (847, 1, 5, 124, 6, 0), (848, 1, 5, 126, 7, 0), (849, 1, 5, 128, 8, 0), (850, 1, 5, 136, 9, 0), (855, 1, 5, 141, 10, 0), (856, 1, 5, 142, 11, 0), (857, 1, 5, 144, 12, 0), (858, 1, 5, 146, 13, 0)]
theorem gt_all : mzWalk gvTd tables_1 0 gvTs = true := by decide +kernel
theorem gt_in {k a b c : Nat} (h : mzHas gvTs k a b c 0 = true) : gvTd k a b c 0 ∈ tables_1 := by
  obtain ⟨q, hq, rfl, rfl, rfl, rfl, e2⟩ := mz_hasq h
  have := mz_walk _ _ _ gt_all q hq
  rw [e2] at this
  exact this
theorem gv_has : (∀ i, i < 14 → mzHas gvPs 1 i 0 0 0 = true ∧ mzHas gvPs 2 i 0 0 0 = true ∧ mzHas gvPs 3 i 0 0 0 = true ∧ mzHas gvPs 4 i 0 0 0 = true ∧ ∀ j, j < gvN i → mzHas gvPs 5 i j 0 0 = true) ∧ ∀ k, k < 3 → mzHas gvPs 8 k 0 0 0 = true ∧ mzHas gvPs 9 k 0 0 0 = true ∧ mzCsl (200 + k) < 2 ^ 31 ∧ mzHas gvTs 2 k 0 0 0 = true ∧ ∀ j, j < mzCsl (200 + k) → mzHas gvPs 10 k j 0 0 = true := by decide +kernel
theorem gv_1 (i : Nat) (hi : i < 14) : Jvm.Cond.exactly (gvT i) "java/lang/String" ∈ gvL := gv_in (gv_has.1 i hi).1
theorem gv_2 (i : Nat) (hi : i < 14) : Jvm.Cond.eq (.field (gvT i) "java/lang/String" "coder" "B") (.int 0) ∈ gvL := gv_in (gv_has.1 i hi).2.1
theorem gv_3 (i : Nat) (hi : i < 14) : Jvm.Cond.arrayOf (gvV i) .byte ∈ gvL := gv_in (gv_has.1 i hi).2.2.1
theorem gv_4 (i : Nat) (hi : i < 14) : Jvm.Cond.eq (.length (gvV i)) (.int (Int32.ofNat (gvN i))) ∈ gvL := gv_in (gv_has.1 i hi).2.2.2.1
theorem gv_5 (i : Nat) (hi : i < 14) (j : Nat) (hj : j < gvN i) : Jvm.Cond.eq (.elem (gvV i) (.int (Int32.ofNat j))) (.int (gvB i j)) ∈ gvL := gv_in ((gv_has.1 i hi).2.2.2.2 j hj)
theorem gv_60 : ∀ q ∈ mzSL, q.2.2 < 14 ∧ mzHas gvTs 1 q.1 q.2.1 q.2.2 0 = true ∧ ((q.1 = 2 ∧ q.2.1 = gvK.getD q.2.2 0) ∨ (q.1 = 5 ∧ mzHas gvPs 6 q.2.2 q.2.1 0 0 = true)) := by decide +kernel
theorem gv_6 (q : Nat × Nat × Nat) (hq : q ∈ mzSL) : q.2.2 < 14 ∧ ((q.1 = 2 ∧ q.2.1 = gvK.getD q.2.2 0) ∨ (q.1 = 5 ∧ Jvm.Cond.eq (gvT q.2.2) (.string "MeltPinsModel" q.2.1) ∈ gvL)) := by
  obtain ⟨h1, -, h3⟩ := gv_60 q hq
  refine ⟨h1, ?_⟩
  rcases h3 with h3 | ⟨h3, h4⟩
  · exact Or.inl h3
  · exact Or.inr ⟨h3, gv_in h4⟩
theorem gv_7 (q : Nat × Nat × Nat) (hq : q ∈ mzSL) : Jvm.Cond.stringRef (mzNo q.1) q.2.1 (mzStrS.getD q.2.2 "") ∈ tables_1 := gt_in (gv_60 q hq).2.1
theorem gv_8 (k : Nat) (hk : k < 3) : Jvm.Cond.arrayOf (gvZ k) .int ∈ gvL ∧ Jvm.Cond.eq (.length (gvZ k)) (.int (Int32.ofNat (mzCsl (200 + k)))) ∈ gvL ∧ Jvm.Cond.laysStatic "MeltPins" (mzStat k) "[I" ∈ tables_1 ∧ mzCsl (200 + k) < 2 ^ 31 := ⟨gv_in (gv_has.2 k hk).1, gv_in (gv_has.2 k hk).2.1, gt_in (gv_has.2 k hk).2.2.2.1, (gv_has.2 k hk).2.2.1⟩
theorem gv_9 (k : Nat) (hk : k < 3) (j : Nat) (hj : j < mzCsl (200 + k)) : Jvm.Cond.eq (.elem (gvZ k) (.int (Int32.ofNat j))) (.int (Int32.ofInt (mzCst (200 + k) j))) ∈ gvL := gv_in ((gv_has.2 k hk).2.2.2.2 j hj)
theorem gv_10 : Jvm.Cond.eq (.static "java/lang/String" "COMPACT_STRINGS" "Z") (.int 1) ∈ gvL ∧ Jvm.Cond.isRef (.static "jdk/internal/util/Preconditions" "SIOOBE_FORMATTER" "Ljava/util/function/BiFunction;") ∈ gvL := ⟨gv_in (k := 11) (a := 0) (b := 0) (by decide +kernel), gv_in (k := 12) (a := 0) (b := 0) (by decide +kernel)⟩
theorem gv_11 : Jvm.Cond.laysStatic "java/lang/String" "COMPACT_STRINGS" "Z" ∈ tables_1 ∧ Jvm.Cond.laysStatic "jdk/internal/util/Preconditions" "SIOOBE_FORMATTER" "Ljava/util/function/BiFunction;" ∈ tables_1 ∧ Jvm.Cond.initialized "java/lang/String" ∈ tables_1 ∧ Jvm.Cond.initialized "jdk/internal/util/Preconditions" ∈ tables_1 ∧ Jvm.Cond.initialized "MeltPins" ∈ tables_1 := ⟨gt_in (k := 3) (a := 0) (b := 0) (c := 0) (by decide +kernel), gt_in (k := 4) (a := 0) (b := 0) (c := 0) (by decide +kernel), gt_in (k := 5) (a := 0) (b := 0) (c := 0) (by decide +kernel), gt_in (k := 6) (a := 0) (b := 0) (c := 0) (by decide +kernel), gt_in (k := 7) (a := 0) (b := 0) (c := 0) (by decide +kernel)⟩
theorem gv_12 : ∀ i, i < 14 → gvN i < 2 ^ 31 := by decide +kernel
theorem gv_13 : ∀ i, i < 14 → ∀ j, j < 14 → Int32.ofNat (gvN i) = Int32.ofNat (gvN j) → (∀ t, t < gvN i → t < gvN j → gvB i t = gvB j t) → i = j := by decide +kernel
theorem gv_tb {w : Jvm.Cond} (h : w ∈ tables_1) : w ∈ lw_tbl := List.mem_append_right _ h
def gvA (h : Nat) : Nat → Prop := fun q => h ≤ q
section GV
variable {s : State} {args : Array Value}
theorem gv_out : ∀ a : Nat, a < s.heap.size → ¬ gvA s.heap.size a := fun a h z => absurd z (Nat.not_le.mpr h)
theorem gv_one (hw : ∀ w ∈ gvL, w.before args s = true) (i : Nat) : ∃ q : Nat × Nat, i < 14 → (gvT i).eval args s none [] s = some (.ref q.1) ∧ (va_O "java/lang/String" q.1 (gvA s.heap.size) s s.heap ∧ va_OF "java/lang/String" "coder" "B" (.int 0) q.1 (gvA s.heap.size) s s.heap ∧ va_OF "java/lang/String" "value" "[B" (.ref q.2) q.1 (gvA s.heap.size) s s.heap ∧ va_T .byte q.2 (gvN i) (fun j => .int (gvB i j)) (gvA s.heap.size) s s.heap) := by
  by_cases hi : i < 14
  · obtain ⟨aK, aV, h1, h2⟩ := vk_Sof (args := args) (s := s) (N := 1) (tm := fun _ => gvT i) (len := [gvN i]) (byt := [(mzStrT.map (List.map Int32.ofInt)).getD i []]) (A := gvA s.heap.size)
      (fun z hz => by obtain rfl : z = 0 := by omega
                      exact gv_12 i hi)
      (fun z hz => hw _ (gv_1 i hi)) (fun z hz => hw _ (gv_2 i hi)) (fun z hz => hw _ (gv_3 i hi))
      (fun z hz => by obtain rfl : z = 0 := by omega
                      exact hw _ (gv_4 i hi))
      (fun z hz j hj => by obtain rfl : z = 0 := by omega
                           exact hw _ (gv_5 i hi j hj))
      (fun z1 z2 h1 h2 h3 => absurd h3 (by omega)) gv_out
    exact ⟨(aK 0, aV 0), fun _ => ⟨h2 0 (by decide), h1.1 0 (by decide)⟩⟩
  · exact ⟨(0, 0), fun h => absurd h hi⟩
theorem gv_same {v : Nat} {n1 n2 : Nat} {f1 f2 : Nat → Int32} {A : Nat → Prop} {H : Heap} (h1 : va_T .byte v n1 (fun j => .int (f1 j)) A s H) (h2 : va_T .byte v n2 (fun j => .int (f2 j)) A s H) : Int32.ofNat n1 = Int32.ofNat n2 ∧ ∀ t, t < n1 → t < n2 → f1 t = f2 t := by
  obtain ⟨c1, a1, -, -, -, a2, a3, -⟩ := h1
  obtain ⟨c2, b1, -, -, -, b2, b3, -⟩ := h2
  have e : c1 = c2 := Option.some.inj (a1.symm.trans b1)
  subst e
  refine ⟨a2.symm.trans b2, fun t h1 h2 => ?_⟩
  have := (a3 t h1).symm.trans (b3 t h2)
  exact Value.int.inj (Option.some.inj this)
theorem gv_field {o n d : String} {v w : Nat} {a : Nat} {A : Nat → Prop} {H : Heap} (h1 : va_OF o n d (.ref v) a A s H) (h2 : va_OF o n d (.ref w) a A s H) : v = w := by
  obtain ⟨cf, k, fi, f, c1, p1, p2, p3, p4, p5, -⟩ := h1
  obtain ⟨cf2, k2, fi2, f2, c2, q1, q2, q3, q4, q5, -⟩ := h2
  cases p1.symm.trans q1
  cases p3.symm.trans q3
  have := p5.symm.trans q5
  exact Value.ref.inj (Option.some.inj this)
theorem gv_str (hts : ∀ w ∈ lw_tbl, w.before args s = true) (hg : (Jvm.Cond.and given_1 narrow_1).before args s = true) : ∃ adK adV : Nat → Nat, vk_S 14 (mzStrT.map List.length) (mzStrT.map (List.map Int32.ofInt)) adK adV (gvA s.heap.size) s s.heap ∧ ∀ q ∈ mzSL, vk_R (mzNo q.1) q.2.1 (mzStrS.getD q.2.2 "") (adK q.2.2) s := by
  have hw : ∀ w ∈ gvL, w.before args s = true := flat_of_before _ hg
  obtain ⟨ad, had⟩ := Classical.axiomOfChoice (gv_one hw)
  refine ⟨fun i => (ad i).1, fun i => (ad i).2, ⟨fun i hi => (had i hi).2, fun i j hi hj e => ?_⟩, fun q hq => ?_⟩
  · have h1 := (had i hi).2
    have h2 := (had j hj).2
    have e : (ad i).1 = (ad j).1 := e
    rw [← e] at h2
    have e2 := gv_field h1.2.2.1 h2.2.2.1
    have h3 := h2.2.2.2
    rw [← e2] at h3
    obtain ⟨g1, g2⟩ := gv_same h1.2.2.2 h3
    exact gv_13 i hi j hj g1 g2
  · obtain ⟨a1, a2⟩ := gv_6 q hq
    refine vk_R.of (A := args) (hts _ (gv_tb (gv_7 q hq))) ?_
    rcases a2 with ⟨e1, e2⟩ | ⟨e1, e2⟩
    · rw [e1, e2]
      exact (had q.2.2 a1).1
    · rw [e1]
      exact va_eqR (hw _ e2) (had q.2.2 a1).1
theorem gv_sta (hts : ∀ w ∈ lw_tbl, w.before args s = true) (hg : (Jvm.Cond.and given_1 narrow_1).before args s = true) : ∃ st : Nat → Nat, ∀ k, k < 3 → va_Z "MeltPins" (mzStat k) "[I" (.ref (st k)) (gvA s.heap.size) s s.heap ∧ va_T .int (st k) (mzCsl (200 + k)) (fun j => .int (Int32.ofInt (mzCst (200 + k) j))) (gvA s.heap.size) s s.heap := by
  have hw : ∀ w ∈ gvL, w.before args s = true := flat_of_before _ hg
  have one : ∀ k, ∃ t : Nat, k < 3 → va_Z "MeltPins" (mzStat k) "[I" (.ref t) (gvA s.heap.size) s s.heap ∧ va_T .int t (mzCsl (200 + k)) (fun j => .int (Int32.ofInt (mzCst (200 + k) j))) (gvA s.heap.size) s s.heap := by
    intro k
    by_cases hk : k < 3
    · obtain ⟨a1, a2, a3, a4⟩ := gv_8 k hk
      obtain ⟨t, h1, h2⟩ := va_Tof (f := fun j => .int (Int32.ofInt (mzCst (200 + k) j))) (A := gvA s.heap.size) a4 (hw _ a1) (va_eqt (hw _ a2)) (fun j hj => va_eqt (hw _ (gv_9 k hk j hj))) gv_out
      exact ⟨t, fun _ => ⟨va_Zref (hts _ (gv_tb a3)) (hts _ (gv_tb gv_11.2.2.2.2)) h1 gv_out, h2⟩⟩
    · exact ⟨0, fun h => absurd h hk⟩
  obtain ⟨st, hst⟩ := Classical.axiomOfChoice one
  exact ⟨st, hst⟩
theorem gv_cls (hts : ∀ w ∈ lw_tbl, w.before args s = true) : ∃ D : va_G, ∀ (c : Nat) (q : vw_C), mzCls[c]? = some q → u_Kn s q.1 q.2.1 q.2.2 (D.1 c) (D.2 c) := by
  have htb : ∀ w ∈ mzTb, w.before args s = true := fun w hw => hts w (List.mem_filter.mp hw).1
  have one : ∀ ci, ∃ q : ClassId × (Nat → Nat), ci < 6 → u_Kn s (mzNo ci) (mzFq ci) (mzNf ci) q.1 q.2 := by
    intro ci
    by_cases hc : ci < 6
    · have hi : ∃ n, Jvm.Cond.instantiable (mzNo ci) n ∈ lw_tbl := by
        match ci, hc with
        | 0, _ => exact ⟨_, mk_it0⟩
        | 1, _ => exact ⟨_, mk_it1⟩
        | 2, _ => exact ⟨_, mk_it2⟩
        | 3, _ => exact ⟨_, mk_it3⟩
        | 4, _ => exact ⟨_, mk_it4⟩
        | 5, _ => exact ⟨_, mk_it5⟩
      obtain ⟨n, hi⟩ := hi
      obtain ⟨cC, iS, h⟩ := u_known htb (mz_uws ci hc) (hts _ hi)
      exact ⟨(cC, iS), fun _ => h⟩
    · exact ⟨(0, fun _ => 0), fun h => absurd h hc⟩
  obtain ⟨f, hf⟩ := Classical.axiomOfChoice one
  refine ⟨(fun c => (f c).1, fun c => (f c).2), fun c q hq => ?_⟩
  have hc : c < 6 := (List.getElem?_eq_some_iff.mp hq).1
  have e := (mz_cls c hc).symm.trans hq
  cases e
  exact hf c hc
theorem gv_K (hts : ∀ w ∈ lw_tbl, w.before args s = true) : ∃ (D : va_G) (cI cA cS : ClassId), va_K D mzCls (mkT cI cA cS) s := by
  obtain ⟨D, hD⟩ := gv_cls hts
  obtain ⟨cI, kI, co, a1, a2, a3⟩ := Jvm.Cond.arrayClass_spec (hts _ mk_arr)
  obtain ⟨c1, cA, kA, b1, -, b3, b4, b5⟩ := arrayOverA_spec (hts _ mk_aoi)
  obtain ⟨c2, cS, kS, d1, -, d3, d4, d5⟩ := Jvm.Cond.arrayOver_spec (hts _ mk_aos)
  refine ⟨D, cI, cA, cS, hD, fun k q hk => ?_⟩
  match k, hk with
  | 0, hk =>
    cases hk
    exact ⟨fun n z => ⟨(fun k h => by cases h), kI, a2, co, a3⟩, a1⟩
  | 1, hk =>
    cases hk
    exact ⟨fun n z => ⟨(fun k h => by cases h), kA, b3, c1, b4⟩, b5⟩
  | 2, hk =>
    cases hk
    exact ⟨fun n z => ⟨(fun k h => by cases h), kS, d3, c2, d4⟩, kS, c2, d3, d4, d1, d5⟩
  | k + 3, hk => cases hk
end GV
