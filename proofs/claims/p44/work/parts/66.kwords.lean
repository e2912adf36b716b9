/-! the constructors' words, codes and decode rows -/
def mkY0 : MethodName := ⟨"MeltPins$Melt", "<init>", "(LMeltPins$World;)V"⟩
def mkY1 : MethodName := ⟨"MeltPins$Sheet", "<init>", "()V"⟩
def mkY2 : MethodName := ⟨"MeltPins$Tape", "<init>", "()V"⟩
def mkY3 : MethodName := ⟨"MeltPins$World", "<init>", "()V"⟩
def mkY4 : MethodName := ⟨"MeltPins", "<init>", "()V"⟩
def mkY5 : MethodName := ⟨"MeltPinsModel", "<init>", "()V"⟩
def mkWd (k _ _ _ _ : Nat) : Jvm.Cond := ([Jvm.Cond.methodLink "MeltPins$Melt" 3 ⟨"java/lang/Object", "<init>", "()V"⟩, Jvm.Cond.instantiable "MeltPins$Melt" 10, Jvm.Cond.fieldLink "MeltPins$Melt" 9 "MeltPins$Melt" "heights" "[I", Jvm.Cond.fieldLink "MeltPins$Melt" 15 "MeltPins$Melt" "givers" "[I", Jvm.Cond.fieldLink "MeltPins$Melt" 18 "MeltPins$Melt" "giverCounts" "[I", Jvm.Cond.classLink "MeltPins$Melt" 21 "[[I", Jvm.Cond.fieldLink "MeltPins$Melt" 23 "MeltPins$Melt" "giverAt" "[[I", Jvm.Cond.fieldLink "MeltPins$Melt" 26 "MeltPins$Melt" "partAt" "[[I", Jvm.Cond.fieldLink "MeltPins$Melt" 29 "MeltPins$Melt" "onWay" "[I", Jvm.Cond.fieldLink "MeltPins$Melt" 32 "MeltPins$Melt" "world" "LMeltPins$World;", Jvm.Cond.methodLink "MeltPins$Sheet" 3 ⟨"java/lang/Object", "<init>", "()V"⟩, Jvm.Cond.instantiable "MeltPins$Sheet" 3, Jvm.Cond.fieldLink "MeltPins$Sheet" 9 "MeltPins$Sheet" "numbers" "[I", Jvm.Cond.methodLink "MeltPins$Tape" 3 ⟨"java/lang/Object", "<init>", "()V"⟩, Jvm.Cond.instantiable "MeltPins$Tape" 6, Jvm.Cond.fieldLink "MeltPins$Tape" 9 "MeltPins$Tape" "bytes" "[I", Jvm.Cond.methodLink "MeltPins$World" 3 ⟨"java/lang/Object", "<init>", "()V"⟩, Jvm.Cond.instantiable "MeltPins$World" 10, Jvm.Cond.fieldLink "MeltPins$World" 9 "MeltPins$World" "z" "I", Jvm.Cond.classLink "MeltPins$World" 15 "[[I", Jvm.Cond.fieldLink "MeltPins$World" 17 "MeltPins$World" "traits" "[[I", Jvm.Cond.fieldLink "MeltPins$World" 20 "MeltPins$World" "parts" "[[I", Jvm.Cond.fieldLink "MeltPins$World" 23 "MeltPins$World" "pushYears" "[I", Jvm.Cond.fieldLink "MeltPins$World" 27 "MeltPins$World" "pushPlaces" "[I", Jvm.Cond.fieldLink "MeltPins$World" 30 "MeltPins$World" "spots" "[I", Jvm.Cond.methodLink "MeltPins" 3 ⟨"java/lang/Object", "<init>", "()V"⟩, Jvm.Cond.instantiable "MeltPins" 8, Jvm.Cond.classLink "MeltPins" 9 "MeltPins$World", Jvm.Cond.fieldLink "MeltPins" 12 "MeltPins" "now" "LMeltPins$World;", Jvm.Cond.fieldLink "MeltPins" 16 "MeltPins" "kept" "LMeltPins$World;", Jvm.Cond.fieldLink "MeltPins" 19 "MeltPins" "draft" "LMeltPins$World;", Jvm.Cond.classLink "MeltPins" 22 "MeltPins$Melt", Jvm.Cond.fieldLink "MeltPins" 27 "MeltPins" "melt" "LMeltPins$Melt;", Jvm.Cond.classLink "MeltPins" 31 "MeltPins$Tape", Jvm.Cond.fieldLink "MeltPins" 34 "MeltPins" "tape" "LMeltPins$Tape;", Jvm.Cond.classLink "MeltPins" 38 "MeltPins$Sheet", Jvm.Cond.fieldLink "MeltPins" 40 "MeltPins" "sheets" "[LMeltPins$Sheet;", Jvm.Cond.fieldLink "MeltPins" 44 "MeltPins" "told" "[I", Jvm.Cond.methodLink "MeltPinsModel" 3 ⟨"java/lang/Object", "<init>", "()V"⟩, Jvm.Cond.instantiable "MeltPinsModel" 26, Jvm.Cond.fieldLink "MeltPinsModel" 9 "MeltPinsModel" "m" "[I", Jvm.Cond.fieldLink "MeltPinsModel" 13 "MeltPinsModel" "kept" "[I", Jvm.Cond.fieldLink "MeltPinsModel" 16 "MeltPinsModel" "found" "[I", Jvm.Cond.fieldLink "MeltPinsModel" 19 "MeltPinsModel" "tape" "[I", Jvm.Cond.fieldLink "MeltPinsModel" 22 "MeltPinsModel" "ahead" "[I", Jvm.Cond.fieldLink "MeltPinsModel" 25 "MeltPinsModel" "way" "[I", Jvm.Cond.fieldLink "MeltPinsModel" 28 "MeltPinsModel" "heights" "[I", Jvm.Cond.fieldLink "MeltPinsModel" 31 "MeltPinsModel" "stands" "[I", Jvm.Cond.fieldLink "MeltPinsModel" 34 "MeltPinsModel" "asked" "[I", Jvm.Cond.fieldLink "MeltPinsModel" 37 "MeltPinsModel" "bars" "[I", Jvm.Cond.fieldLink "MeltPinsModel" 40 "MeltPinsModel" "bits" "[I", Jvm.Cond.fieldLink "MeltPinsModel" 43 "MeltPinsModel" "size" "[I", Jvm.Cond.fieldLink "MeltPinsModel" 46 "MeltPinsModel" "number" "[I", Jvm.Cond.instanceMethod ⟨"java/lang/Object", "<init>", "()V"⟩, Jvm.Cond.classLink "MeltPinsLaw" 7 "MeltPins", Jvm.Cond.classLink "MeltPinsLaw" 10 "MeltPinsModel", Jvm.Cond.methodLink "MeltPinsLaw" 9 ⟨"MeltPins", "<init>", "()V"⟩, Jvm.Cond.methodLink "MeltPinsLaw" 12 ⟨"MeltPinsModel", "<init>", "()V"⟩, Jvm.Cond.instanceMethod ⟨"MeltPins$Melt", "<init>", "(LMeltPins$World;)V"⟩, Jvm.Cond.instanceMethod ⟨"MeltPins$Sheet", "<init>", "()V"⟩, Jvm.Cond.instanceMethod ⟨"MeltPins$Tape", "<init>", "()V"⟩, Jvm.Cond.instanceMethod ⟨"MeltPins$World", "<init>", "()V"⟩, Jvm.Cond.instanceMethod ⟨"MeltPins", "<init>", "()V"⟩, Jvm.Cond.instanceMethod ⟨"MeltPinsModel", "<init>", "()V"⟩, Jvm.Cond.methodLink "MeltPins$World" 33 ⟨"java/util/Arrays", "fill", "([II)V"⟩, Jvm.Cond.static ⟨"java/util/Arrays", "fill", "([II)V"⟩, Jvm.Cond.initialized "java/util/Arrays", Jvm.Cond.arrayClass FieldType.int, Jvm.Cond.arrayOver (FieldType.array FieldType.int), Jvm.Cond.arrayOver (FieldType.object "MeltPins$Sheet")] : List Jvm.Cond).getD k .tt
def mkPs : List (Nat × Nat × Nat × Nat × Nat × Nat) := [(89, 66, 0, 0, 0, 0), (101, 54, 0, 0, 0, 0), (102, 26, 0, 0, 0, 0), (103, 56, 0, 0, 0, 0), (104, 62, 0, 0, 0, 0), (106, 25, 0, 0, 0, 0), (107, 53, 0, 0, 0, 0), (109, 27, 0, 0, 0, 0), (110, 17, 0, 0, 0, 0), (112, 61, 0, 0, 0, 0), (114, 16, 0, 0, 0, 0), (115, 19, 0, 0, 0, 0), (116, 68, 0, 0, 0, 0), (117, 64, 0, 0, 0, 0), (118, 65, 0, 0, 0, 0), (132, 18, 0, 0, 0, 0), (134, 20, 0, 0, 0, 0), (137, 21, 0, 0, 0, 0), (141, 22, 0, 0, 0, 0), (143, 23, 0, 0, 0, 0), (145, 24, 0, 0, 0, 0), (168, 67, 0, 0, 0, 0), (169, 31, 0, 0, 0, 0), (170, 1, 0, 0, 0, 0), (172, 58, 0, 0, 0, 0), (174, 0, 0, 0, 0, 0), (175, 5, 0, 0, 0, 0), (176, 9, 0, 0, 0, 0), (177, 2, 0, 0, 0, 0), (178, 3, 0, 0, 0, 0), (179, 4, 0, 0, 0, 0), (180, 6, 0, 0, 0, 0), (181, 7, 0, 0, 0, 0), (182, 8, 0, 0, 0, 0), (210, 33, 0, 0, 0, 0), (211, 14, 0, 0, 0, 0), (213, 60, 0, 0, 0, 0), (215, 13, 0, 0, 0, 0), (216, 15, 0, 0, 0, 0), (236, 35, 0, 0, 0, 0), (237, 69, 0, 0, 0, 0), (238, 11, 0, 0, 0, 0), (240, 59, 0, 0, 0, 0), (242, 10, 0, 0, 0, 0), (247, 12, 0, 0, 0, 0), (256, 28, 0, 0, 0, 0), (257, 29, 0, 0, 0, 0), (258, 30, 0, 0, 0, 0), (259, 32, 0, 0, 0, 0), (260, 34, 0, 0, 0, 0), (261, 36, 0, 0, 0, 0), (262, 37, 0, 0, 0, 0), (780, 55, 0, 0, 0, 0), (781, 39, 0, 0, 0, 0), (782, 57, 0, 0, 0, 0), (783, 63, 0, 0, 0, 0), (785, 38, 0, 0, 0, 0), (786, 40, 0, 0, 0, 0), (787, 41, 0, 0, 0, 0), (789, 42, 0, 0, 0, 0), (791, 43, 0, 0, 0, 0), (798, 44, 0, 0, 0, 0), (802, 45, 0, 0, 0, 0), (803, 46, 0, 0, 0, 0), (804, 47, 0, 0, 0, 0), (805, 48, 0, 0, 0, 0), (808, 49, 0, 0, 0, 0), (809, 50, 0, 0, 0, 0), (810, 51, 0, 0, 0, 0), (811, 52, 0, 0, 0, 0)]
theorem mk_walk : mzWalk mkWd lw_tbl 0 mkPs = true := by decide +kernel
theorem mk_ob0 : Jvm.Cond.methodLink "MeltPins$Melt" 3 ⟨"java/lang/Object", "<init>", "()V"⟩ ∈ lw_tbl := mz_walk _ _ _ mk_walk (174, 0, 0, 0, 0, 0) (by decide)
theorem mk_it0 : Jvm.Cond.instantiable "MeltPins$Melt" 10 ∈ lw_tbl := mz_walk _ _ _ mk_walk (170, 1, 0, 0, 0, 0) (by decide)
theorem mk_f0_9 : Jvm.Cond.fieldLink "MeltPins$Melt" 9 "MeltPins$Melt" "heights" "[I" ∈ lw_tbl := mz_walk _ _ _ mk_walk (177, 2, 0, 0, 0, 0) (by decide)
theorem mk_f0_15 : Jvm.Cond.fieldLink "MeltPins$Melt" 15 "MeltPins$Melt" "givers" "[I" ∈ lw_tbl := mz_walk _ _ _ mk_walk (178, 3, 0, 0, 0, 0) (by decide)
theorem mk_f0_18 : Jvm.Cond.fieldLink "MeltPins$Melt" 18 "MeltPins$Melt" "giverCounts" "[I" ∈ lw_tbl := mz_walk _ _ _ mk_walk (179, 4, 0, 0, 0, 0) (by decide)
theorem mk_c0_21 : Jvm.Cond.classLink "MeltPins$Melt" 21 "[[I" ∈ lw_tbl := mz_walk _ _ _ mk_walk (175, 5, 0, 0, 0, 0) (by decide)
theorem mk_f0_23 : Jvm.Cond.fieldLink "MeltPins$Melt" 23 "MeltPins$Melt" "giverAt" "[[I" ∈ lw_tbl := mz_walk _ _ _ mk_walk (180, 6, 0, 0, 0, 0) (by decide)
theorem mk_f0_26 : Jvm.Cond.fieldLink "MeltPins$Melt" 26 "MeltPins$Melt" "partAt" "[[I" ∈ lw_tbl := mz_walk _ _ _ mk_walk (181, 7, 0, 0, 0, 0) (by decide)
theorem mk_f0_29 : Jvm.Cond.fieldLink "MeltPins$Melt" 29 "MeltPins$Melt" "onWay" "[I" ∈ lw_tbl := mz_walk _ _ _ mk_walk (182, 8, 0, 0, 0, 0) (by decide)
theorem mk_f0_32 : Jvm.Cond.fieldLink "MeltPins$Melt" 32 "MeltPins$Melt" "world" "LMeltPins$World;" ∈ lw_tbl := mz_walk _ _ _ mk_walk (176, 9, 0, 0, 0, 0) (by decide)
theorem mk_ob1 : Jvm.Cond.methodLink "MeltPins$Sheet" 3 ⟨"java/lang/Object", "<init>", "()V"⟩ ∈ lw_tbl := mz_walk _ _ _ mk_walk (242, 10, 0, 0, 0, 0) (by decide)
theorem mk_it1 : Jvm.Cond.instantiable "MeltPins$Sheet" 3 ∈ lw_tbl := mz_walk _ _ _ mk_walk (238, 11, 0, 0, 0, 0) (by decide)
theorem mk_f1_9 : Jvm.Cond.fieldLink "MeltPins$Sheet" 9 "MeltPins$Sheet" "numbers" "[I" ∈ lw_tbl := mz_walk _ _ _ mk_walk (247, 12, 0, 0, 0, 0) (by decide)
theorem mk_ob2 : Jvm.Cond.methodLink "MeltPins$Tape" 3 ⟨"java/lang/Object", "<init>", "()V"⟩ ∈ lw_tbl := mz_walk _ _ _ mk_walk (215, 13, 0, 0, 0, 0) (by decide)
theorem mk_it2 : Jvm.Cond.instantiable "MeltPins$Tape" 6 ∈ lw_tbl := mz_walk _ _ _ mk_walk (211, 14, 0, 0, 0, 0) (by decide)
theorem mk_f2_9 : Jvm.Cond.fieldLink "MeltPins$Tape" 9 "MeltPins$Tape" "bytes" "[I" ∈ lw_tbl := mz_walk _ _ _ mk_walk (216, 15, 0, 0, 0, 0) (by decide)
theorem mk_ob3 : Jvm.Cond.methodLink "MeltPins$World" 3 ⟨"java/lang/Object", "<init>", "()V"⟩ ∈ lw_tbl := mz_walk _ _ _ mk_walk (114, 16, 0, 0, 0, 0) (by decide)
theorem mk_it3 : Jvm.Cond.instantiable "MeltPins$World" 10 ∈ lw_tbl := mz_walk _ _ _ mk_walk (110, 17, 0, 0, 0, 0) (by decide)
theorem mk_f3_9 : Jvm.Cond.fieldLink "MeltPins$World" 9 "MeltPins$World" "z" "I" ∈ lw_tbl := mz_walk _ _ _ mk_walk (132, 18, 0, 0, 0, 0) (by decide)
theorem mk_c3_15 : Jvm.Cond.classLink "MeltPins$World" 15 "[[I" ∈ lw_tbl := mz_walk _ _ _ mk_walk (115, 19, 0, 0, 0, 0) (by decide)
theorem mk_f3_17 : Jvm.Cond.fieldLink "MeltPins$World" 17 "MeltPins$World" "traits" "[[I" ∈ lw_tbl := mz_walk _ _ _ mk_walk (134, 20, 0, 0, 0, 0) (by decide)
theorem mk_f3_20 : Jvm.Cond.fieldLink "MeltPins$World" 20 "MeltPins$World" "parts" "[[I" ∈ lw_tbl := mz_walk _ _ _ mk_walk (137, 21, 0, 0, 0, 0) (by decide)
theorem mk_f3_23 : Jvm.Cond.fieldLink "MeltPins$World" 23 "MeltPins$World" "pushYears" "[I" ∈ lw_tbl := mz_walk _ _ _ mk_walk (141, 22, 0, 0, 0, 0) (by decide)
theorem mk_f3_27 : Jvm.Cond.fieldLink "MeltPins$World" 27 "MeltPins$World" "pushPlaces" "[I" ∈ lw_tbl := mz_walk _ _ _ mk_walk (143, 23, 0, 0, 0, 0) (by decide)
theorem mk_f3_30 : Jvm.Cond.fieldLink "MeltPins$World" 30 "MeltPins$World" "spots" "[I" ∈ lw_tbl := mz_walk _ _ _ mk_walk (145, 24, 0, 0, 0, 0) (by decide)
theorem mk_ob4 : Jvm.Cond.methodLink "MeltPins" 3 ⟨"java/lang/Object", "<init>", "()V"⟩ ∈ lw_tbl := mz_walk _ _ _ mk_walk (106, 25, 0, 0, 0, 0) (by decide)
theorem mk_it4 : Jvm.Cond.instantiable "MeltPins" 8 ∈ lw_tbl := mz_walk _ _ _ mk_walk (102, 26, 0, 0, 0, 0) (by decide)
theorem mk_c4_9 : Jvm.Cond.classLink "MeltPins" 9 "MeltPins$World" ∈ lw_tbl := mz_walk _ _ _ mk_walk (109, 27, 0, 0, 0, 0) (by decide)
theorem mk_f4_12 : Jvm.Cond.fieldLink "MeltPins" 12 "MeltPins" "now" "LMeltPins$World;" ∈ lw_tbl := mz_walk _ _ _ mk_walk (256, 28, 0, 0, 0, 0) (by decide)
theorem mk_f4_16 : Jvm.Cond.fieldLink "MeltPins" 16 "MeltPins" "kept" "LMeltPins$World;" ∈ lw_tbl := mz_walk _ _ _ mk_walk (257, 29, 0, 0, 0, 0) (by decide)
theorem mk_f4_19 : Jvm.Cond.fieldLink "MeltPins" 19 "MeltPins" "draft" "LMeltPins$World;" ∈ lw_tbl := mz_walk _ _ _ mk_walk (258, 30, 0, 0, 0, 0) (by decide)
theorem mk_c4_22 : Jvm.Cond.classLink "MeltPins" 22 "MeltPins$Melt" ∈ lw_tbl := mz_walk _ _ _ mk_walk (169, 31, 0, 0, 0, 0) (by decide)
theorem mk_f4_27 : Jvm.Cond.fieldLink "MeltPins" 27 "MeltPins" "melt" "LMeltPins$Melt;" ∈ lw_tbl := mz_walk _ _ _ mk_walk (259, 32, 0, 0, 0, 0) (by decide)
theorem mk_c4_31 : Jvm.Cond.classLink "MeltPins" 31 "MeltPins$Tape" ∈ lw_tbl := mz_walk _ _ _ mk_walk (210, 33, 0, 0, 0, 0) (by decide)
theorem mk_f4_34 : Jvm.Cond.fieldLink "MeltPins" 34 "MeltPins" "tape" "LMeltPins$Tape;" ∈ lw_tbl := mz_walk _ _ _ mk_walk (260, 34, 0, 0, 0, 0) (by decide)
theorem mk_c4_38 : Jvm.Cond.classLink "MeltPins" 38 "MeltPins$Sheet" ∈ lw_tbl := mz_walk _ _ _ mk_walk (236, 35, 0, 0, 0, 0) (by decide)
theorem mk_f4_40 : Jvm.Cond.fieldLink "MeltPins" 40 "MeltPins" "sheets" "[LMeltPins$Sheet;" ∈ lw_tbl := mz_walk _ _ _ mk_walk (261, 36, 0, 0, 0, 0) (by decide)
theorem mk_f4_44 : Jvm.Cond.fieldLink "MeltPins" 44 "MeltPins" "told" "[I" ∈ lw_tbl := mz_walk _ _ _ mk_walk (262, 37, 0, 0, 0, 0) (by decide)
theorem mk_ob5 : Jvm.Cond.methodLink "MeltPinsModel" 3 ⟨"java/lang/Object", "<init>", "()V"⟩ ∈ lw_tbl := mz_walk _ _ _ mk_walk (785, 38, 0, 0, 0, 0) (by decide)
theorem mk_it5 : Jvm.Cond.instantiable "MeltPinsModel" 26 ∈ lw_tbl := mz_walk _ _ _ mk_walk (781, 39, 0, 0, 0, 0) (by decide)
theorem mk_f5_9 : Jvm.Cond.fieldLink "MeltPinsModel" 9 "MeltPinsModel" "m" "[I" ∈ lw_tbl := mz_walk _ _ _ mk_walk (786, 40, 0, 0, 0, 0) (by decide)
theorem mk_f5_13 : Jvm.Cond.fieldLink "MeltPinsModel" 13 "MeltPinsModel" "kept" "[I" ∈ lw_tbl := mz_walk _ _ _ mk_walk (787, 41, 0, 0, 0, 0) (by decide)
theorem mk_f5_16 : Jvm.Cond.fieldLink "MeltPinsModel" 16 "MeltPinsModel" "found" "[I" ∈ lw_tbl := mz_walk _ _ _ mk_walk (789, 42, 0, 0, 0, 0) (by decide)
theorem mk_f5_19 : Jvm.Cond.fieldLink "MeltPinsModel" 19 "MeltPinsModel" "tape" "[I" ∈ lw_tbl := mz_walk _ _ _ mk_walk (791, 43, 0, 0, 0, 0) (by decide)
theorem mk_f5_22 : Jvm.Cond.fieldLink "MeltPinsModel" 22 "MeltPinsModel" "ahead" "[I" ∈ lw_tbl := mz_walk _ _ _ mk_walk (798, 44, 0, 0, 0, 0) (by decide)
theorem mk_f5_25 : Jvm.Cond.fieldLink "MeltPinsModel" 25 "MeltPinsModel" "way" "[I" ∈ lw_tbl := mz_walk _ _ _ mk_walk (802, 45, 0, 0, 0, 0) (by decide)
theorem mk_f5_28 : Jvm.Cond.fieldLink "MeltPinsModel" 28 "MeltPinsModel" "heights" "[I" ∈ lw_tbl := mz_walk _ _ _ mk_walk (803, 46, 0, 0, 0, 0) (by decide)
theorem mk_f5_31 : Jvm.Cond.fieldLink "MeltPinsModel" 31 "MeltPinsModel" "stands" "[I" ∈ lw_tbl := mz_walk _ _ _ mk_walk (804, 47, 0, 0, 0, 0) (by decide)
theorem mk_f5_34 : Jvm.Cond.fieldLink "MeltPinsModel" 34 "MeltPinsModel" "asked" "[I" ∈ lw_tbl := mz_walk _ _ _ mk_walk (805, 48, 0, 0, 0, 0) (by decide)
theorem mk_f5_37 : Jvm.Cond.fieldLink "MeltPinsModel" 37 "MeltPinsModel" "bars" "[I" ∈ lw_tbl := mz_walk _ _ _ mk_walk (808, 49, 0, 0, 0, 0) (by decide)
theorem mk_f5_40 : Jvm.Cond.fieldLink "MeltPinsModel" 40 "MeltPinsModel" "bits" "[I" ∈ lw_tbl := mz_walk _ _ _ mk_walk (809, 50, 0, 0, 0, 0) (by decide)
theorem mk_f5_43 : Jvm.Cond.fieldLink "MeltPinsModel" 43 "MeltPinsModel" "size" "[I" ∈ lw_tbl := mz_walk _ _ _ mk_walk (810, 51, 0, 0, 0, 0) (by decide)
theorem mk_f5_46 : Jvm.Cond.fieldLink "MeltPinsModel" 46 "MeltPinsModel" "number" "[I" ∈ lw_tbl := mz_walk _ _ _ mk_walk (811, 52, 0, 0, 0, 0) (by decide)
theorem mk_obi : Jvm.Cond.instanceMethod ⟨"java/lang/Object", "<init>", "()V"⟩ ∈ lw_tbl := mz_walk _ _ _ mk_walk (107, 53, 0, 0, 0, 0) (by decide)
theorem mk_lc7 : Jvm.Cond.classLink "MeltPinsLaw" 7 "MeltPins" ∈ lw_tbl := mz_walk _ _ _ mk_walk (101, 54, 0, 0, 0, 0) (by decide)
theorem mk_lc10 : Jvm.Cond.classLink "MeltPinsLaw" 10 "MeltPinsModel" ∈ lw_tbl := mz_walk _ _ _ mk_walk (780, 55, 0, 0, 0, 0) (by decide)
theorem mk_lm9 : Jvm.Cond.methodLink "MeltPinsLaw" 9 ⟨"MeltPins", "<init>", "()V"⟩ ∈ lw_tbl := mz_walk _ _ _ mk_walk (103, 56, 0, 0, 0, 0) (by decide)
theorem mk_lm12 : Jvm.Cond.methodLink "MeltPinsLaw" 12 ⟨"MeltPinsModel", "<init>", "()V"⟩ ∈ lw_tbl := mz_walk _ _ _ mk_walk (782, 57, 0, 0, 0, 0) (by decide)
theorem mk_im0 : Jvm.Cond.instanceMethod ⟨"MeltPins$Melt", "<init>", "(LMeltPins$World;)V"⟩ ∈ lw_tbl := mz_walk _ _ _ mk_walk (172, 58, 0, 0, 0, 0) (by decide)
theorem mk_im1 : Jvm.Cond.instanceMethod ⟨"MeltPins$Sheet", "<init>", "()V"⟩ ∈ lw_tbl := mz_walk _ _ _ mk_walk (240, 59, 0, 0, 0, 0) (by decide)
theorem mk_im2 : Jvm.Cond.instanceMethod ⟨"MeltPins$Tape", "<init>", "()V"⟩ ∈ lw_tbl := mz_walk _ _ _ mk_walk (213, 60, 0, 0, 0, 0) (by decide)
theorem mk_im3 : Jvm.Cond.instanceMethod ⟨"MeltPins$World", "<init>", "()V"⟩ ∈ lw_tbl := mz_walk _ _ _ mk_walk (112, 61, 0, 0, 0, 0) (by decide)
theorem mk_im4 : Jvm.Cond.instanceMethod ⟨"MeltPins", "<init>", "()V"⟩ ∈ lw_tbl := mz_walk _ _ _ mk_walk (104, 62, 0, 0, 0, 0) (by decide)
theorem mk_im5 : Jvm.Cond.instanceMethod ⟨"MeltPinsModel", "<init>", "()V"⟩ ∈ lw_tbl := mz_walk _ _ _ mk_walk (783, 63, 0, 0, 0, 0) (by decide)
theorem mk_fil : Jvm.Cond.methodLink "MeltPins$World" 33 ⟨"java/util/Arrays", "fill", "([II)V"⟩ ∈ lw_tbl := mz_walk _ _ _ mk_walk (117, 64, 0, 0, 0, 0) (by decide)
theorem mk_fis : Jvm.Cond.static ⟨"java/util/Arrays", "fill", "([II)V"⟩ ∈ lw_tbl := mz_walk _ _ _ mk_walk (118, 65, 0, 0, 0, 0) (by decide)
theorem mk_fii : Jvm.Cond.initialized "java/util/Arrays" ∈ lw_tbl := mz_walk _ _ _ mk_walk (89, 66, 0, 0, 0, 0) (by decide)
theorem mk_arr : Jvm.Cond.arrayClass FieldType.int ∈ lw_tbl := mz_walk _ _ _ mk_walk (168, 67, 0, 0, 0, 0) (by decide)
theorem mk_aoi : Jvm.Cond.arrayOver (FieldType.array FieldType.int) ∈ lw_tbl := mz_walk _ _ _ mk_walk (116, 68, 0, 0, 0, 0) (by decide)
theorem mk_aos : Jvm.Cond.arrayOver (FieldType.object "MeltPins$Sheet") ∈ lw_tbl := mz_walk _ _ _ mk_walk (237, 69, 0, 0, 0, 0) (by decide)
abbrev mkB0 : ByteArray := prog_2_method_1_code
def mkW0 : Jvm.Cond := .code mkY0 mkB0 2 none
theorem mkW0_in : mkW0 ∈ lw_tbl := mz_cin (n := 1003) (by decide)
abbrev mkB1 : ByteArray := prog_3_method_1_code
def mkW1 : Jvm.Cond := .code mkY1 mkB1 1 none
theorem mkW1_in : mkW1 ∈ lw_tbl := mz_cin (n := 1005) (by decide)
abbrev mkB2 : ByteArray := prog_4_method_1_code
def mkW2 : Jvm.Cond := .code mkY2 mkB2 1 none
theorem mkW2_in : mkW2 ∈ lw_tbl := mz_cin (n := 1004) (by decide)
abbrev mkB3 : ByteArray := prog_5_method_1_code
def mkW3 : Jvm.Cond := .code mkY3 mkB3 1 none
theorem mkW3_in : mkW3 ∈ lw_tbl := mz_cin (n := 1002) (by decide)
abbrev mkB4 : ByteArray := prog_1_method_1_code
def mkW4 : Jvm.Cond := .code mkY4 mkB4 2 none
theorem mkW4_in : mkW4 ∈ lw_tbl := mz_cin (n := 1000) (by decide)
abbrev mkB5 : ByteArray := prog_7_method_1_code
def mkW5 : Jvm.Cond := .code mkY5 mkB5 2 none
theorem mkW5_in : mkW5 ∈ lw_tbl := mz_cin (n := 1019) (by decide)
theorem mk_obc : Jvm.Cond.code ⟨"java/lang/Object", "<init>", "()V"⟩ object_method_1_code 1 none ∈ lw_tbl := mz_cin (n := 1001) (by decide)
theorem mkd0_0 : decode mkB0 0 = .ok (.aload_n 0, 1) := by decide +kernel
theorem mkd0_1 : decode mkB0 1 = .ok (.invokespecial 3, 3) := by decide +kernel
theorem mkd0_4 : decode mkB0 4 = .ok (.aload_n 0, 1) := by decide +kernel
theorem mkd0_5 : decode mkB0 5 = .ok (.bipush 12, 2) := by decide +kernel
theorem mkd0_7 : decode mkB0 7 = .ok (.newarray .int, 2) := by decide +kernel
theorem mkd0_9 : decode mkB0 9 = .ok (.putfield 9, 3) := by decide +kernel
theorem mkd0_12 : decode mkB0 12 = .ok (.aload_n 0, 1) := by decide +kernel
theorem mkd0_13 : decode mkB0 13 = .ok (.bipush 12, 2) := by decide +kernel
theorem mkd0_15 : decode mkB0 15 = .ok (.newarray .int, 2) := by decide +kernel
theorem mkd0_17 : decode mkB0 17 = .ok (.putfield 15, 3) := by decide +kernel
theorem mkd0_20 : decode mkB0 20 = .ok (.aload_n 0, 1) := by decide +kernel
theorem mkd0_21 : decode mkB0 21 = .ok (.bipush 12, 2) := by decide +kernel
theorem mkd0_23 : decode mkB0 23 = .ok (.newarray .int, 2) := by decide +kernel
theorem mkd0_25 : decode mkB0 25 = .ok (.putfield 18, 3) := by decide +kernel
theorem mkd0_28 : decode mkB0 28 = .ok (.aload_n 0, 1) := by decide +kernel
theorem mkd0_29 : decode mkB0 29 = .ok (.bipush 12, 2) := by decide +kernel
theorem mkd0_31 : decode mkB0 31 = .ok (.bipush 12, 2) := by decide +kernel
theorem mkd0_33 : decode mkB0 33 = .ok (.multianewarray 21 2, 4) := by decide +kernel
theorem mkd0_37 : decode mkB0 37 = .ok (.putfield 23, 3) := by decide +kernel
theorem mkd0_40 : decode mkB0 40 = .ok (.aload_n 0, 1) := by decide +kernel
theorem mkd0_41 : decode mkB0 41 = .ok (.bipush 12, 2) := by decide +kernel
theorem mkd0_43 : decode mkB0 43 = .ok (.bipush 12, 2) := by decide +kernel
theorem mkd0_45 : decode mkB0 45 = .ok (.multianewarray 21 2, 4) := by decide +kernel
theorem mkd0_49 : decode mkB0 49 = .ok (.putfield 26, 3) := by decide +kernel
theorem mkd0_52 : decode mkB0 52 = .ok (.aload_n 0, 1) := by decide +kernel
theorem mkd0_53 : decode mkB0 53 = .ok (.bipush 12, 2) := by decide +kernel
theorem mkd0_55 : decode mkB0 55 = .ok (.newarray .int, 2) := by decide +kernel
theorem mkd0_57 : decode mkB0 57 = .ok (.putfield 29, 3) := by decide +kernel
theorem mkd0_60 : decode mkB0 60 = .ok (.aload_n 0, 1) := by decide +kernel
theorem mkd0_61 : decode mkB0 61 = .ok (.aload_n 1, 1) := by decide +kernel
theorem mkd0_62 : decode mkB0 62 = .ok (.putfield 32, 3) := by decide +kernel
theorem mkd0_65 : decode mkB0 65 = .ok (.return_, 1) := by decide +kernel
theorem mkd1_0 : decode mkB1 0 = .ok (.aload_n 0, 1) := by decide +kernel
theorem mkd1_1 : decode mkB1 1 = .ok (.invokespecial 3, 3) := by decide +kernel
theorem mkd1_4 : decode mkB1 4 = .ok (.aload_n 0, 1) := by decide +kernel
theorem mkd1_5 : decode mkB1 5 = .ok (.bipush 40, 2) := by decide +kernel
theorem mkd1_7 : decode mkB1 7 = .ok (.newarray .int, 2) := by decide +kernel
theorem mkd1_9 : decode mkB1 9 = .ok (.putfield 9, 3) := by decide +kernel
theorem mkd1_12 : decode mkB1 12 = .ok (.return_, 1) := by decide +kernel
theorem mkd2_0 : decode mkB2 0 = .ok (.aload_n 0, 1) := by decide +kernel
theorem mkd2_1 : decode mkB2 1 = .ok (.invokespecial 3, 3) := by decide +kernel
theorem mkd2_4 : decode mkB2 4 = .ok (.aload_n 0, 1) := by decide +kernel
theorem mkd2_5 : decode mkB2 5 = .ok (.bipush 120, 2) := by decide +kernel
theorem mkd2_7 : decode mkB2 7 = .ok (.newarray .int, 2) := by decide +kernel
theorem mkd2_9 : decode mkB2 9 = .ok (.putfield 9, 3) := by decide +kernel
theorem mkd2_12 : decode mkB2 12 = .ok (.return_, 1) := by decide +kernel
theorem mkd3_0 : decode mkB3 0 = .ok (.aload_n 0, 1) := by decide +kernel
theorem mkd3_1 : decode mkB3 1 = .ok (.invokespecial 3, 3) := by decide +kernel
theorem mkd3_4 : decode mkB3 4 = .ok (.aload_n 0, 1) := by decide +kernel
theorem mkd3_5 : decode mkB3 5 = .ok (.iconst 1, 1) := by decide +kernel
theorem mkd3_6 : decode mkB3 6 = .ok (.putfield 9, 3) := by decide +kernel
theorem mkd3_9 : decode mkB3 9 = .ok (.aload_n 0, 1) := by decide +kernel
theorem mkd3_10 : decode mkB3 10 = .ok (.bipush 12, 2) := by decide +kernel
theorem mkd3_12 : decode mkB3 12 = .ok (.bipush 9, 2) := by decide +kernel
theorem mkd3_14 : decode mkB3 14 = .ok (.multianewarray 15 2, 4) := by decide +kernel
theorem mkd3_18 : decode mkB3 18 = .ok (.putfield 17, 3) := by decide +kernel
theorem mkd3_21 : decode mkB3 21 = .ok (.aload_n 0, 1) := by decide +kernel
theorem mkd3_22 : decode mkB3 22 = .ok (.bipush 12, 2) := by decide +kernel
theorem mkd3_24 : decode mkB3 24 = .ok (.bipush 12, 2) := by decide +kernel
theorem mkd3_26 : decode mkB3 26 = .ok (.multianewarray 15 2, 4) := by decide +kernel
theorem mkd3_30 : decode mkB3 30 = .ok (.putfield 20, 3) := by decide +kernel
theorem mkd3_33 : decode mkB3 33 = .ok (.aload_n 0, 1) := by decide +kernel
theorem mkd3_34 : decode mkB3 34 = .ok (.bipush 20, 2) := by decide +kernel
theorem mkd3_36 : decode mkB3 36 = .ok (.newarray .int, 2) := by decide +kernel
theorem mkd3_38 : decode mkB3 38 = .ok (.putfield 23, 3) := by decide +kernel
theorem mkd3_41 : decode mkB3 41 = .ok (.aload_n 0, 1) := by decide +kernel
theorem mkd3_42 : decode mkB3 42 = .ok (.bipush 20, 2) := by decide +kernel
theorem mkd3_44 : decode mkB3 44 = .ok (.newarray .int, 2) := by decide +kernel
theorem mkd3_46 : decode mkB3 46 = .ok (.putfield 27, 3) := by decide +kernel
theorem mkd3_49 : decode mkB3 49 = .ok (.aload_n 0, 1) := by decide +kernel
theorem mkd3_50 : decode mkB3 50 = .ok (.bipush 10, 2) := by decide +kernel
theorem mkd3_52 : decode mkB3 52 = .ok (.newarray .int, 2) := by decide +kernel
theorem mkd3_54 : decode mkB3 54 = .ok (.putfield 30, 3) := by decide +kernel
theorem mkd3_57 : decode mkB3 57 = .ok (.aload_n 0, 1) := by decide +kernel
theorem mkd3_58 : decode mkB3 58 = .ok (.getfield 30, 3) := by decide +kernel
theorem mkd3_61 : decode mkB3 61 = .ok (.iconst (-1), 1) := by decide +kernel
theorem mkd3_62 : decode mkB3 62 = .ok (.invokestatic 33, 3) := by decide +kernel
theorem mkd3_65 : decode mkB3 65 = .ok (.return_, 1) := by decide +kernel
theorem mkd4_0 : decode mkB4 0 = .ok (.aload_n 0, 1) := by decide +kernel
theorem mkd4_1 : decode mkB4 1 = .ok (.invokespecial 3, 3) := by decide +kernel
theorem mkd4_4 : decode mkB4 4 = .ok (.aload_n 0, 1) := by decide +kernel
theorem mkd4_5 : decode mkB4 5 = .ok (.new 9, 3) := by decide +kernel
theorem mkd4_8 : decode mkB4 8 = .ok (.dup, 1) := by decide +kernel
theorem mkd4_9 : decode mkB4 9 = .ok (.invokespecial 11, 3) := by decide +kernel
theorem mkd4_12 : decode mkB4 12 = .ok (.putfield 12, 3) := by decide +kernel
theorem mkd4_15 : decode mkB4 15 = .ok (.aload_n 0, 1) := by decide +kernel
theorem mkd4_16 : decode mkB4 16 = .ok (.new 9, 3) := by decide +kernel
theorem mkd4_19 : decode mkB4 19 = .ok (.dup, 1) := by decide +kernel
theorem mkd4_20 : decode mkB4 20 = .ok (.invokespecial 11, 3) := by decide +kernel
theorem mkd4_23 : decode mkB4 23 = .ok (.putfield 16, 3) := by decide +kernel
theorem mkd4_26 : decode mkB4 26 = .ok (.aload_n 0, 1) := by decide +kernel
theorem mkd4_27 : decode mkB4 27 = .ok (.new 9, 3) := by decide +kernel
theorem mkd4_30 : decode mkB4 30 = .ok (.dup, 1) := by decide +kernel
theorem mkd4_31 : decode mkB4 31 = .ok (.invokespecial 11, 3) := by decide +kernel
theorem mkd4_34 : decode mkB4 34 = .ok (.putfield 19, 3) := by decide +kernel
theorem mkd4_37 : decode mkB4 37 = .ok (.aload_n 0, 1) := by decide +kernel
theorem mkd4_38 : decode mkB4 38 = .ok (.new 22, 3) := by decide +kernel
theorem mkd4_41 : decode mkB4 41 = .ok (.dup, 1) := by decide +kernel
theorem mkd4_42 : decode mkB4 42 = .ok (.aload_n 0, 1) := by decide +kernel
theorem mkd4_43 : decode mkB4 43 = .ok (.getfield 12, 3) := by decide +kernel
theorem mkd4_46 : decode mkB4 46 = .ok (.invokespecial 24, 3) := by decide +kernel
theorem mkd4_49 : decode mkB4 49 = .ok (.putfield 27, 3) := by decide +kernel
theorem mkd4_52 : decode mkB4 52 = .ok (.aload_n 0, 1) := by decide +kernel
theorem mkd4_53 : decode mkB4 53 = .ok (.new 31, 3) := by decide +kernel
theorem mkd4_56 : decode mkB4 56 = .ok (.dup, 1) := by decide +kernel
theorem mkd4_57 : decode mkB4 57 = .ok (.invokespecial 33, 3) := by decide +kernel
theorem mkd4_60 : decode mkB4 60 = .ok (.putfield 34, 3) := by decide +kernel
theorem mkd4_63 : decode mkB4 63 = .ok (.aload_n 0, 1) := by decide +kernel
theorem mkd4_64 : decode mkB4 64 = .ok (.iconst 4, 1) := by decide +kernel
theorem mkd4_65 : decode mkB4 65 = .ok (.anewarray 38, 3) := by decide +kernel
theorem mkd4_68 : decode mkB4 68 = .ok (.putfield 40, 3) := by decide +kernel
theorem mkd4_71 : decode mkB4 71 = .ok (.aload_n 0, 1) := by decide +kernel
theorem mkd4_72 : decode mkB4 72 = .ok (.bipush 7, 2) := by decide +kernel
theorem mkd4_74 : decode mkB4 74 = .ok (.newarray .int, 2) := by decide +kernel
theorem mkd4_76 : decode mkB4 76 = .ok (.putfield 44, 3) := by decide +kernel
theorem mkd4_79 : decode mkB4 79 = .ok (.iconst 0, 1) := by decide +kernel
theorem mkd4_80 : decode mkB4 80 = .ok (.istore_n 1, 1) := by decide +kernel
theorem mkd4_81 : decode mkB4 81 = .ok (.iload_n 1, 1) := by decide +kernel
theorem mkd4_82 : decode mkB4 82 = .ok (.iconst 4, 1) := by decide +kernel
theorem mkd4_83 : decode mkB4 83 = .ok (.if_icmp .ge 22, 3) := by decide +kernel
theorem mkd4_86 : decode mkB4 86 = .ok (.aload_n 0, 1) := by decide +kernel
theorem mkd4_87 : decode mkB4 87 = .ok (.getfield 40, 3) := by decide +kernel
theorem mkd4_90 : decode mkB4 90 = .ok (.iload_n 1, 1) := by decide +kernel
theorem mkd4_91 : decode mkB4 91 = .ok (.new 38, 3) := by decide +kernel
theorem mkd4_94 : decode mkB4 94 = .ok (.dup, 1) := by decide +kernel
theorem mkd4_95 : decode mkB4 95 = .ok (.invokespecial 48, 3) := by decide +kernel
theorem mkd4_98 : decode mkB4 98 = .ok (.aastore, 1) := by decide +kernel
theorem mkd4_99 : decode mkB4 99 = .ok (.iinc 1 1, 3) := by decide +kernel
theorem mkd4_102 : decode mkB4 102 = .ok (.goto (-21), 3) := by decide +kernel
theorem mkd4_105 : decode mkB4 105 = .ok (.return_, 1) := by decide +kernel
theorem mkd5_0 : decode mkB5 0 = .ok (.aload_n 0, 1) := by decide +kernel
theorem mkd5_1 : decode mkB5 1 = .ok (.invokespecial 3, 3) := by decide +kernel
theorem mkd5_4 : decode mkB5 4 = .ok (.aload_n 0, 1) := by decide +kernel
theorem mkd5_5 : decode mkB5 5 = .ok (.sipush 318, 3) := by decide +kernel
theorem mkd5_8 : decode mkB5 8 = .ok (.newarray .int, 2) := by decide +kernel
theorem mkd5_10 : decode mkB5 10 = .ok (.putfield 9, 3) := by decide +kernel
theorem mkd5_13 : decode mkB5 13 = .ok (.aload_n 0, 1) := by decide +kernel
theorem mkd5_14 : decode mkB5 14 = .ok (.sipush 318, 3) := by decide +kernel
theorem mkd5_17 : decode mkB5 17 = .ok (.newarray .int, 2) := by decide +kernel
theorem mkd5_19 : decode mkB5 19 = .ok (.putfield 13, 3) := by decide +kernel
theorem mkd5_22 : decode mkB5 22 = .ok (.aload_n 0, 1) := by decide +kernel
theorem mkd5_23 : decode mkB5 23 = .ok (.bipush 7, 2) := by decide +kernel
theorem mkd5_25 : decode mkB5 25 = .ok (.newarray .int, 2) := by decide +kernel
theorem mkd5_27 : decode mkB5 27 = .ok (.putfield 16, 3) := by decide +kernel
theorem mkd5_30 : decode mkB5 30 = .ok (.aload_n 0, 1) := by decide +kernel
theorem mkd5_31 : decode mkB5 31 = .ok (.bipush 120, 2) := by decide +kernel
theorem mkd5_33 : decode mkB5 33 = .ok (.newarray .int, 2) := by decide +kernel
theorem mkd5_35 : decode mkB5 35 = .ok (.putfield 19, 3) := by decide +kernel
theorem mkd5_38 : decode mkB5 38 = .ok (.aload_n 0, 1) := by decide +kernel
theorem mkd5_39 : decode mkB5 39 = .ok (.sipush 318, 3) := by decide +kernel
theorem mkd5_42 : decode mkB5 42 = .ok (.newarray .int, 2) := by decide +kernel
theorem mkd5_44 : decode mkB5 44 = .ok (.putfield 22, 3) := by decide +kernel
theorem mkd5_47 : decode mkB5 47 = .ok (.aload_n 0, 1) := by decide +kernel
theorem mkd5_48 : decode mkB5 48 = .ok (.bipush 12, 2) := by decide +kernel
theorem mkd5_50 : decode mkB5 50 = .ok (.newarray .int, 2) := by decide +kernel
theorem mkd5_52 : decode mkB5 52 = .ok (.putfield 25, 3) := by decide +kernel
theorem mkd5_55 : decode mkB5 55 = .ok (.aload_n 0, 1) := by decide +kernel
theorem mkd5_56 : decode mkB5 56 = .ok (.bipush 12, 2) := by decide +kernel
theorem mkd5_58 : decode mkB5 58 = .ok (.newarray .int, 2) := by decide +kernel
theorem mkd5_60 : decode mkB5 60 = .ok (.putfield 28, 3) := by decide +kernel
theorem mkd5_63 : decode mkB5 63 = .ok (.aload_n 0, 1) := by decide +kernel
theorem mkd5_64 : decode mkB5 64 = .ok (.sipush 4096, 3) := by decide +kernel
theorem mkd5_67 : decode mkB5 67 = .ok (.newarray .int, 2) := by decide +kernel
theorem mkd5_69 : decode mkB5 69 = .ok (.putfield 31, 3) := by decide +kernel
theorem mkd5_72 : decode mkB5 72 = .ok (.aload_n 0, 1) := by decide +kernel
theorem mkd5_73 : decode mkB5 73 = .ok (.bipush 50, 2) := by decide +kernel
theorem mkd5_75 : decode mkB5 75 = .ok (.newarray .int, 2) := by decide +kernel
theorem mkd5_77 : decode mkB5 77 = .ok (.putfield 34, 3) := by decide +kernel
theorem mkd5_80 : decode mkB5 80 = .ok (.aload_n 0, 1) := by decide +kernel
theorem mkd5_81 : decode mkB5 81 = .ok (.bipush 12, 2) := by decide +kernel
theorem mkd5_83 : decode mkB5 83 = .ok (.newarray .int, 2) := by decide +kernel
theorem mkd5_85 : decode mkB5 85 = .ok (.putfield 37, 3) := by decide +kernel
theorem mkd5_88 : decode mkB5 88 = .ok (.aload_n 0, 1) := by decide +kernel
theorem mkd5_89 : decode mkB5 89 = .ok (.iconst 4, 1) := by decide +kernel
theorem mkd5_90 : decode mkB5 90 = .ok (.newarray .int, 2) := by decide +kernel
theorem mkd5_92 : decode mkB5 92 = .ok (.putfield 40, 3) := by decide +kernel
theorem mkd5_95 : decode mkB5 95 = .ok (.aload_n 0, 1) := by decide +kernel
theorem mkd5_96 : decode mkB5 96 = .ok (.iconst 4, 1) := by decide +kernel
theorem mkd5_97 : decode mkB5 97 = .ok (.newarray .int, 2) := by decide +kernel
theorem mkd5_99 : decode mkB5 99 = .ok (.putfield 43, 3) := by decide +kernel
theorem mkd5_102 : decode mkB5 102 = .ok (.aload_n 0, 1) := by decide +kernel
theorem mkd5_103 : decode mkB5 103 = .ok (.sipush 160, 3) := by decide +kernel
theorem mkd5_106 : decode mkB5 106 = .ok (.newarray .int, 2) := by decide +kernel
theorem mkd5_108 : decode mkB5 108 = .ok (.putfield 46, 3) := by decide +kernel
theorem mkd5_111 : decode mkB5 111 = .ok (.aload_n 0, 1) := by decide +kernel
theorem mkd5_112 : decode mkB5 112 = .ok (.getfield 9, 3) := by decide +kernel
theorem mkd5_115 : decode mkB5 115 = .ok (.iconst 3, 1) := by decide +kernel
theorem mkd5_116 : decode mkB5 116 = .ok (.iconst 1, 1) := by decide +kernel
theorem mkd5_117 : decode mkB5 117 = .ok (.iastore, 1) := by decide +kernel
theorem mkd5_118 : decode mkB5 118 = .ok (.iconst 0, 1) := by decide +kernel
theorem mkd5_119 : decode mkB5 119 = .ok (.istore_n 1, 1) := by decide +kernel
theorem mkd5_120 : decode mkB5 120 = .ok (.iload_n 1, 1) := by decide +kernel
theorem mkd5_121 : decode mkB5 121 = .ok (.bipush 10, 2) := by decide +kernel
theorem mkd5_123 : decode mkB5 123 = .ok (.if_icmp .ge 20, 3) := by decide +kernel
theorem mkd5_126 : decode mkB5 126 = .ok (.aload_n 0, 1) := by decide +kernel
theorem mkd5_127 : decode mkB5 127 = .ok (.getfield 9, 3) := by decide +kernel
theorem mkd5_130 : decode mkB5 130 = .ok (.sipush 308, 3) := by decide +kernel
theorem mkd5_133 : decode mkB5 133 = .ok (.iload_n 1, 1) := by decide +kernel
theorem mkd5_134 : decode mkB5 134 = .ok (.iadd, 1) := by decide +kernel
theorem mkd5_135 : decode mkB5 135 = .ok (.iconst (-1), 1) := by decide +kernel
theorem mkd5_136 : decode mkB5 136 = .ok (.iastore, 1) := by decide +kernel
theorem mkd5_137 : decode mkB5 137 = .ok (.iinc 1 1, 3) := by decide +kernel
theorem mkd5_140 : decode mkB5 140 = .ok (.goto (-20), 3) := by decide +kernel
theorem mkd5_143 : decode mkB5 143 = .ok (.return_, 1) := by decide +kernel
/-- what a constructor finds, and what it leaves -/
def mkWs (w : Jvm.Cond) : List Jvm.Cond := w :: mzTb
def KP (D : va_G) (tys : List (ClassId × FieldType)) (H0 : Heap) (es : List va_E) (U : State) : Prop := PH D H0 es U.heap ∧ va_K D mzCls tys U ∧ mkAO U ∧ va_AO "MeltPins$Sheet" U
def KQ (D : va_G) (H0 : Heap) (es : List va_E) : Array Value → State → Outcome → State → Prop := fun _ _ o t => o = .returned none ∧ PH D H0 es t.heap
def mkF (H0 : Heap) : Addr → Prop := fun q => H0.size ≤ q
theorem kp_moved {D : va_G} {tys : List (ClassId × FieldType)} {H0 : Heap} {es : List va_E} {u U : State} (hvm : u.vm.Alike U.vm) (hP : PH D H0 es U.heap) (hK : va_K D mzCls tys u) (hA : mkAO u) (hS : va_AO "MeltPins$Sheet" u) : KP D tys H0 es U := ⟨hP, va_K.moved hvm hK, mkAO_moved hvm hA, va_AO.moved hvm hS⟩
theorem kp_blind {D : va_G} {tys : List (ClassId × FieldType)} {H0 : Heap} {es : List va_E} {as : List Value} : FrameBlind (va_Pc as (KP D tys H0 es)) := fun a U g mk h => ⟨h.1, kp_moved (u := U) (U := U.calling g mk a) (Vm.Alike.refl U.vm) h.2.1 h.2.2.1 h.2.2.2.1 h.2.2.2.2⟩
theorem mk_set {α : Type} {es t : List α} {a x : α} : (es ++ a :: t).set es.length x = es ++ x :: t := by simp
theorem mk_ix {α : Type} {es t : List α} {a : α} : (es ++ a :: t)[es.length]? = some a := by simp
section PHB
variable {p : Program} {l : Launch} {e : Env} {R : Room} {s : State} {m : MethodId} {args : Array Value} {below : List Frame} {meth : Method} {c : Code} {H : Heap} {locs : List Loc} {cells slots : Nat} {Q : State → Prop}
variable {cc : ByteArray} {nL pc : Nat} {ls : Array Slot} {rest : List Value} {D : va_G} {tys : List (ClassId × FieldType)} {H0 : Heap} {es : List va_E} {own : String}
theorem ph_back {g : JFrame} {mc ms : Nat} {a : Array Value} (hr : va_Run p l e R s m args below meth c H locs cells slots mc ms g rest (KQ D H0 es a) (mkF H0)) (hlo : ∀ q ∈ locs, H0.size ≤ q.base)
    (kk : ∀ (H1 : Heap) (locs1 : List Loc), PH D H0 es H1 → (∀ q ∈ locs1, H0.size ≤ q.base) → W p l e R s m args below meth c H1 locs1 (cells + mc) (slots + ms) Q { g with pc := g.pc + 3, stack := rest }) : W p l e R s m args below meth c H locs cells slots Q g := by
  intro T hT X
  obtain ⟨v, st₀, t, T', L, h0, X', hL, e1, e2, ⟨hv, hP⟩, st⟩ := hr T hT X
  cases hv
  obtain ⟨t2, a1, b1⟩ := kk T'.heap (locs ++ L) (by rw [e1]; exact hP) (fun q hq => by
    rcases List.mem_append.mp hq with h | h
    · exact hlo q h
    · exact hL q h) T' rfl X'
  exact ⟨t2, st t2 a1, b1⟩
/-- Sheet(), Tape() -/
theorem mk_kc {w : Jvm.Cond} (hx : p.tables.exec = Jvm.exec) (hb : c.code = cc) (hml : c.maxLocals = nL) (hlk : meth.locks = false) (hown : s.vm.findClass own = some m.cls) (hts : ∀ x ∈ mkWs w, x.before args s = true) (hC : KP D tys H0 es s) : KC D tys H0 p s m args meth c cc nL own := by
  have h1 := hC.1.1
  exact ⟨hx, hb, hml, hlk, hown, fun x h => hts x (List.mem_cons_of_mem _ h), hC.2.1, by omega, hC.2.2.1, hC.2.2.2⟩
end PHB

