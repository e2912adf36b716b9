/-! the library's members on text: what String.length and charAt, and what they call, answer -/
def mzyLen : MethodName := ⟨"java/lang/String", "length", "()I"⟩
def mzyChr : MethodName := ⟨"java/lang/String", "charAt", "(I)C"⟩
def mzyCod : MethodName := ⟨"java/lang/String", "coder", "()B"⟩
def mzyLat : MethodName := ⟨"java/lang/String", "isLatin1", "()Z"⟩
def mzySix : MethodName := ⟨"java/lang/String", "checkIndex", "(II)V"⟩
def mzyL1c : MethodName := ⟨"java/lang/StringLatin1", "charAt", "([BI)C"⟩
def mzyPix : MethodName := ⟨"jdk/internal/util/Preconditions", "checkIndex", "(IILjava/util/function/BiFunction;)I"⟩
def mzsWd (k _ _ _ _ : Nat) : Jvm.Cond := ([Jvm.Cond.fieldLink "java/lang/String" 38 "java/lang/String" "COMPACT_STRINGS" "Z", Jvm.Cond.fieldLink "java/lang/String" 15 "java/lang/String" "coder" "B", Jvm.Cond.fieldLink "java/lang/String" 9 "java/lang/String" "value" "[B", Jvm.Cond.methodLink "java/lang/String" 335 mzyCod, Jvm.Cond.instanceMethod mzyCod, Jvm.Cond.selects "java/lang/String" mzyCod mzyCod, Jvm.Cond.initialized "java/lang/String", Jvm.Cond.methodLink "java/lang/String" 492 mzyLat, Jvm.Cond.instanceMethod mzyLat, Jvm.Cond.selects "java/lang/String" mzyLat mzyLat, Jvm.Cond.methodLink "java/lang/String" 495 mzyL1c, Jvm.Cond.static mzyL1c, Jvm.Cond.initialized "java/lang/StringLatin1", Jvm.Cond.methodLink "java/lang/StringLatin1" 9 mzySix, Jvm.Cond.static mzySix, Jvm.Cond.fieldLink "java/lang/String" 1053 "jdk/internal/util/Preconditions" "SIOOBE_FORMATTER" "Ljava/util/function/BiFunction;", Jvm.Cond.methodLink "java/lang/String" 1059 mzyPix, Jvm.Cond.static mzyPix, Jvm.Cond.initialized "jdk/internal/util/Preconditions", Jvm.Cond.instanceMethod mzyLen, Jvm.Cond.selects "java/lang/String" mzyLen mzyLen, Jvm.Cond.instanceMethod mzyChr, Jvm.Cond.selects "java/lang/String" mzyChr mzyChr] : List Jvm.Cond).getD k .tt
def mzsPs : List (Nat × Nat × Nat × Nat × Nat × Nat) := [(96, 6, 0, 0, 0, 0), (97, 12, 0, 0, 0, 0), (98, 18, 0, 0, 0, 0), (345, 19, 0, 0, 0, 0), (346, 20, 0, 0, 0, 0), (348, 3, 0, 0, 0, 0), (349, 4, 0, 0, 0, 0), (350, 5, 0, 0, 0, 0), (352, 0, 0, 0, 0, 0), (355, 21, 0, 0, 0, 0), (356, 22, 0, 0, 0, 0), (358, 7, 0, 0, 0, 0), (359, 8, 0, 0, 0, 0), (360, 9, 0, 0, 0, 0), (362, 10, 0, 0, 0, 0), (363, 11, 0, 0, 0, 0), (365, 13, 0, 0, 0, 0), (366, 14, 0, 0, 0, 0), (368, 15, 0, 0, 0, 0), (370, 16, 0, 0, 0, 0), (371, 17, 0, 0, 0, 0), (1258, 2, 0, 0, 0, 0), (1259, 1, 0, 0, 0, 0)]
theorem mzs_walk : mzWalk mzsWd lw_tbl 0 mzsPs = true := by decide +kernel
theorem mzs_Zf : Jvm.Cond.fieldLink "java/lang/String" 38 "java/lang/String" "COMPACT_STRINGS" "Z" ∈ lw_tbl := mz_walk _ _ _ mzs_walk (352, 0, 0, 0, 0, 0) (by decide)
theorem mzs_Cf : Jvm.Cond.fieldLink "java/lang/String" 15 "java/lang/String" "coder" "B" ∈ lw_tbl := mz_walk _ _ _ mzs_walk (1259, 1, 0, 0, 0, 0) (by decide)
theorem mzs_Vf : Jvm.Cond.fieldLink "java/lang/String" 9 "java/lang/String" "value" "[B" ∈ lw_tbl := mz_walk _ _ _ mzs_walk (1258, 2, 0, 0, 0, 0) (by decide)
theorem mzs_Codl : Jvm.Cond.methodLink "java/lang/String" 335 mzyCod ∈ lw_tbl := mz_walk _ _ _ mzs_walk (348, 3, 0, 0, 0, 0) (by decide)
theorem mzs_Codi : Jvm.Cond.instanceMethod mzyCod ∈ lw_tbl := mz_walk _ _ _ mzs_walk (349, 4, 0, 0, 0, 0) (by decide)
theorem mzs_Cods : Jvm.Cond.selects "java/lang/String" mzyCod mzyCod ∈ lw_tbl := mz_walk _ _ _ mzs_walk (350, 5, 0, 0, 0, 0) (by decide)
theorem mzs_Sini : Jvm.Cond.initialized "java/lang/String" ∈ lw_tbl := mz_walk _ _ _ mzs_walk (96, 6, 0, 0, 0, 0) (by decide)
theorem mzs_Latl : Jvm.Cond.methodLink "java/lang/String" 492 mzyLat ∈ lw_tbl := mz_walk _ _ _ mzs_walk (358, 7, 0, 0, 0, 0) (by decide)
theorem mzs_Lati : Jvm.Cond.instanceMethod mzyLat ∈ lw_tbl := mz_walk _ _ _ mzs_walk (359, 8, 0, 0, 0, 0) (by decide)
theorem mzs_Lats : Jvm.Cond.selects "java/lang/String" mzyLat mzyLat ∈ lw_tbl := mz_walk _ _ _ mzs_walk (360, 9, 0, 0, 0, 0) (by decide)
theorem mzs_L1l : Jvm.Cond.methodLink "java/lang/String" 495 mzyL1c ∈ lw_tbl := mz_walk _ _ _ mzs_walk (362, 10, 0, 0, 0, 0) (by decide)
theorem mzs_L1s : Jvm.Cond.static mzyL1c ∈ lw_tbl := mz_walk _ _ _ mzs_walk (363, 11, 0, 0, 0, 0) (by decide)
theorem mzs_L1i : Jvm.Cond.initialized "java/lang/StringLatin1" ∈ lw_tbl := mz_walk _ _ _ mzs_walk (97, 12, 0, 0, 0, 0) (by decide)
theorem mzs_Sxl : Jvm.Cond.methodLink "java/lang/StringLatin1" 9 mzySix ∈ lw_tbl := mz_walk _ _ _ mzs_walk (365, 13, 0, 0, 0, 0) (by decide)
theorem mzs_Sxs : Jvm.Cond.static mzySix ∈ lw_tbl := mz_walk _ _ _ mzs_walk (366, 14, 0, 0, 0, 0) (by decide)
theorem mzs_Ff : Jvm.Cond.fieldLink "java/lang/String" 1053 "jdk/internal/util/Preconditions" "SIOOBE_FORMATTER" "Ljava/util/function/BiFunction;" ∈ lw_tbl := mz_walk _ _ _ mzs_walk (368, 15, 0, 0, 0, 0) (by decide)
theorem mzs_Pxl : Jvm.Cond.methodLink "java/lang/String" 1059 mzyPix ∈ lw_tbl := mz_walk _ _ _ mzs_walk (370, 16, 0, 0, 0, 0) (by decide)
theorem mzs_Pxs : Jvm.Cond.static mzyPix ∈ lw_tbl := mz_walk _ _ _ mzs_walk (371, 17, 0, 0, 0, 0) (by decide)
theorem mzs_Pxi : Jvm.Cond.initialized "jdk/internal/util/Preconditions" ∈ lw_tbl := mz_walk _ _ _ mzs_walk (98, 18, 0, 0, 0, 0) (by decide)
theorem mzs_Leni : Jvm.Cond.instanceMethod mzyLen ∈ lw_tbl := mz_walk _ _ _ mzs_walk (345, 19, 0, 0, 0, 0) (by decide)
theorem mzs_Lens : Jvm.Cond.selects "java/lang/String" mzyLen mzyLen ∈ lw_tbl := mz_walk _ _ _ mzs_walk (346, 20, 0, 0, 0, 0) (by decide)
theorem mzs_Chri : Jvm.Cond.instanceMethod mzyChr ∈ lw_tbl := mz_walk _ _ _ mzs_walk (355, 21, 0, 0, 0, 0) (by decide)
theorem mzs_Chrs : Jvm.Cond.selects "java/lang/String" mzyChr mzyChr ∈ lw_tbl := mz_walk _ _ _ mzs_walk (356, 22, 0, 0, 0, 0) (by decide)
abbrev mzcLen : ByteArray := prog_10_method_54_code
def mzwLen : Jvm.Cond := .code mzyLen mzcLen 1 (some .int)
theorem mzwLen_in : mzwLen ∈ lw_tbl := mz_cin (n := 1007) (by decide)
abbrev mzcChr : ByteArray := prog_10_method_56_code
def mzwChr : Jvm.Cond := .code mzyChr mzcChr 2 (some .char)
theorem mzwChr_in : mzwChr ∈ lw_tbl := mz_cin (n := 1009) (by decide)
abbrev mzcCod : ByteArray := prog_10_method_152_code
def mzwCod : Jvm.Cond := .code mzyCod mzcCod 1 (some .byte)
theorem mzwCod_in : mzwCod ∈ lw_tbl := mz_cin (n := 1008) (by decide)
abbrev mzcLat : ByteArray := prog_10_method_154_code
def mzwLat : Jvm.Cond := .code mzyLat mzcLat 1 (some .boolean)
theorem mzwLat_in : mzwLat ∈ lw_tbl := mz_cin (n := 1010) (by decide)
abbrev mzcSix : ByteArray := prog_10_method_155_code
def mzwSix : Jvm.Cond := .code mzySix mzcSix 2 (none)
theorem mzwSix_in : mzwSix ∈ lw_tbl := mz_cin (n := 1012) (by decide)
abbrev mzcL1c : ByteArray := prog_11_method_2_code
def mzwL1c : Jvm.Cond := .code mzyL1c mzcL1c 2 (some .char)
theorem mzwL1c_in : mzwL1c ∈ lw_tbl := mz_cin (n := 1011) (by decide)
abbrev mzcPix : ByteArray := prog_15_method_11_code
def mzwPix : Jvm.Cond := .code mzyPix mzcPix 3 (some .int)
theorem mzwPix_in : mzwPix ∈ lw_tbl := mz_cin (n := 1013) (by decide)
theorem mzdLen_0 : decode mzcLen 0 = .ok (.aload_n 0, 1) := by decide +kernel
theorem mzdLen_1 : decode mzcLen 1 = .ok (.getfield 9, 3) := by decide +kernel
theorem mzdLen_4 : decode mzcLen 4 = .ok (.arraylength, 1) := by decide +kernel
theorem mzdLen_5 : decode mzcLen 5 = .ok (.aload_n 0, 1) := by decide +kernel
theorem mzdLen_6 : decode mzcLen 6 = .ok (.invokevirtual 335, 3) := by decide +kernel
theorem mzdLen_9 : decode mzcLen 9 = .ok (.ishr, 1) := by decide +kernel
theorem mzdLen_10 : decode mzcLen 10 = .ok (.ireturn, 1) := by decide +kernel
theorem mzdChr_0 : decode mzcChr 0 = .ok (.aload_n 0, 1) := by decide +kernel
theorem mzdChr_1 : decode mzcChr 1 = .ok (.invokevirtual 492, 3) := by decide +kernel
theorem mzdChr_4 : decode mzcChr 4 = .ok (.ifCond .eq 12, 3) := by decide +kernel
theorem mzdChr_7 : decode mzcChr 7 = .ok (.aload_n 0, 1) := by decide +kernel
theorem mzdChr_8 : decode mzcChr 8 = .ok (.getfield 9, 3) := by decide +kernel
theorem mzdChr_11 : decode mzcChr 11 = .ok (.iload_n 1, 1) := by decide +kernel
theorem mzdChr_12 : decode mzcChr 12 = .ok (.invokestatic 495, 3) := by decide +kernel
theorem mzdChr_15 : decode mzcChr 15 = .ok (.ireturn, 1) := by decide +kernel
theorem mzdChr_16 : decode mzcChr 16 = .ok (.aload_n 0, 1) := by decide +kernel
theorem mzdChr_17 : decode mzcChr 17 = .ok (.getfield 9, 3) := by decide +kernel
theorem mzdChr_20 : decode mzcChr 20 = .ok (.iload_n 1, 1) := by decide +kernel
theorem mzdChr_21 : decode mzcChr 21 = .ok (.invokestatic 498, 3) := by decide +kernel
theorem mzdChr_24 : decode mzcChr 24 = .ok (.ireturn, 1) := by decide +kernel
theorem mzdCod_0 : decode mzcCod 0 = .ok (.getstatic 38, 3) := by decide +kernel
theorem mzdCod_3 : decode mzcCod 3 = .ok (.ifCond .eq 10, 3) := by decide +kernel
theorem mzdCod_6 : decode mzcCod 6 = .ok (.aload_n 0, 1) := by decide +kernel
theorem mzdCod_7 : decode mzcCod 7 = .ok (.getfield 15, 3) := by decide +kernel
theorem mzdCod_10 : decode mzcCod 10 = .ok (.goto 4, 3) := by decide +kernel
theorem mzdCod_13 : decode mzcCod 13 = .ok (.iconst 1, 1) := by decide +kernel
theorem mzdCod_14 : decode mzcCod 14 = .ok (.ireturn, 1) := by decide +kernel
theorem mzdLat_0 : decode mzcLat 0 = .ok (.getstatic 38, 3) := by decide +kernel
theorem mzdLat_3 : decode mzcLat 3 = .ok (.ifCond .eq 14, 3) := by decide +kernel
theorem mzdLat_6 : decode mzcLat 6 = .ok (.aload_n 0, 1) := by decide +kernel
theorem mzdLat_7 : decode mzcLat 7 = .ok (.getfield 15, 3) := by decide +kernel
theorem mzdLat_10 : decode mzcLat 10 = .ok (.ifCond .ne 7, 3) := by decide +kernel
theorem mzdLat_13 : decode mzcLat 13 = .ok (.iconst 1, 1) := by decide +kernel
theorem mzdLat_14 : decode mzcLat 14 = .ok (.goto 4, 3) := by decide +kernel
theorem mzdLat_17 : decode mzcLat 17 = .ok (.iconst 0, 1) := by decide +kernel
theorem mzdLat_18 : decode mzcLat 18 = .ok (.ireturn, 1) := by decide +kernel
theorem mzdSix_0 : decode mzcSix 0 = .ok (.iload_n 0, 1) := by decide +kernel
theorem mzdSix_1 : decode mzcSix 1 = .ok (.iload_n 1, 1) := by decide +kernel
theorem mzdSix_2 : decode mzcSix 2 = .ok (.getstatic 1053, 3) := by decide +kernel
theorem mzdSix_5 : decode mzcSix 5 = .ok (.invokestatic 1059, 3) := by decide +kernel
theorem mzdSix_8 : decode mzcSix 8 = .ok (.pop, 1) := by decide +kernel
theorem mzdSix_9 : decode mzcSix 9 = .ok (.return_, 1) := by decide +kernel
theorem mzdL1c_0 : decode mzcL1c 0 = .ok (.iload_n 1, 1) := by decide +kernel
theorem mzdL1c_1 : decode mzcL1c 1 = .ok (.aload_n 0, 1) := by decide +kernel
theorem mzdL1c_2 : decode mzcL1c 2 = .ok (.arraylength, 1) := by decide +kernel
theorem mzdL1c_3 : decode mzcL1c 3 = .ok (.invokestatic 9, 3) := by decide +kernel
theorem mzdL1c_6 : decode mzcL1c 6 = .ok (.aload_n 0, 1) := by decide +kernel
theorem mzdL1c_7 : decode mzcL1c 7 = .ok (.iload_n 1, 1) := by decide +kernel
theorem mzdL1c_8 : decode mzcL1c 8 = .ok (.baload, 1) := by decide +kernel
theorem mzdL1c_9 : decode mzcL1c 9 = .ok (.sipush 255, 3) := by decide +kernel
theorem mzdL1c_12 : decode mzcL1c 12 = .ok (.iand, 1) := by decide +kernel
theorem mzdL1c_13 : decode mzcL1c 13 = .ok (.i2c, 1) := by decide +kernel
theorem mzdL1c_14 : decode mzcL1c 14 = .ok (.ireturn, 1) := by decide +kernel
theorem mzdPix_0 : decode mzcPix 0 = .ok (.iload_n 0, 1) := by decide +kernel
theorem mzdPix_1 : decode mzcPix 1 = .ok (.ifCond .lt 8, 3) := by decide +kernel
theorem mzdPix_4 : decode mzcPix 4 = .ok (.iload_n 0, 1) := by decide +kernel
theorem mzdPix_5 : decode mzcPix 5 = .ok (.iload_n 1, 1) := by decide +kernel
theorem mzdPix_6 : decode mzcPix 6 = .ok (.if_icmp .lt 10, 3) := by decide +kernel
theorem mzdPix_9 : decode mzcPix 9 = .ok (.aload_n 2, 1) := by decide +kernel
theorem mzdPix_10 : decode mzcPix 10 = .ok (.iload_n 0, 1) := by decide +kernel
theorem mzdPix_11 : decode mzcPix 11 = .ok (.iload_n 1, 1) := by decide +kernel
theorem mzdPix_12 : decode mzcPix 12 = .ok (.invokestatic 95, 3) := by decide +kernel
theorem mzdPix_15 : decode mzcPix 15 = .ok (.athrow, 1) := by decide +kernel
theorem mzdPix_16 : decode mzcPix 16 = .ok (.iload_n 0, 1) := by decide +kernel
theorem mzdPix_17 : decode mzcPix 17 = .ok (.ireturn, 1) := by decide +kernel
def mzRS (f k : Nat) : Room := { frames := f, cells := 0, slots := 0, locals := k }
def mzsWs (w : Jvm.Cond) : List Jvm.Cond := w :: mzTb
def mzsQ0 : Array Value → State → Outcome → State → Prop := fun _ st o t => o = .returned none ∧ t.heap = st.heap
theorem mzs_blind {G : mzG} {as : List Value} : FrameBlind (va_Pc as (mzAmb G)) := fun a U g mk h => ⟨h.1, mz_amb_v (s := U) (U := U.calling g mk a) rfl rfl h.2⟩
theorem mzs_good {w : Jvm.Cond} (h : w ∈ lw_tbl) (hg : goodWord w = true) : GoodIn mzTb (mzsWs w) := fun x hx => by
  rcases List.mem_cons.mp hx with rfl | h9
  · have := mz_tb h hg
    exact ⟨this, mz_good this⟩
  · exact ⟨h9, mz_good h9⟩
theorem mzs_goodS {own : String} {k : Nat} {y : MethodName} {w : Jvm.Cond} (h1 : Jvm.Cond.methodLink own k y ∈ lw_tbl) (h2 : Jvm.Cond.static y ∈ lw_tbl) (h3 : Jvm.Cond.initialized y.cls ∈ lw_tbl) (h : w ∈ lw_tbl) (hg : goodWord w = true) : GoodIn mzTb (va_wsS own k y (mzsWs w)) := fun x hx => by
  unfold va_wsS at hx
  rcases List.mem_append.mp hx with h9 | h9
  · have : x ∈ mzTb := by
      simp only [List.mem_cons, List.not_mem_nil, or_false] at h9
      rcases h9 with rfl | rfl | rfl
      · exact mz_tb h1 rfl
      · exact mz_tb h2 rfl
      · exact mz_tb h3 rfl
    exact ⟨this, mz_good this⟩
  · exact mzs_good h hg x h9
theorem mzs_goodV {own C : String} {k : Nat} {y : MethodName} {w : Jvm.Cond} (h1 : Jvm.Cond.methodLink own k y ∈ lw_tbl) (h2 : Jvm.Cond.instanceMethod y ∈ lw_tbl) (h3 : Jvm.Cond.selects C y y ∈ lw_tbl) (h4 : Jvm.Cond.initialized C ∈ lw_tbl) (h : w ∈ lw_tbl) (hg : goodWord w = true) : GoodIn mzTb (wsV own k C y (mzsWs w)) := fun x hx => by
  unfold wsV at hx
  rcases List.mem_append.mp hx with h9 | h9
  · have : x ∈ mzTb := by
      simp only [List.mem_cons, List.not_mem_nil, or_false] at h9
      rcases h9 with rfl | rfl | rfl | rfl
      · exact mz_tb h1 rfl
      · exact mz_tb h2 rfl
      · exact mz_tb h3 rfl
      · exact mz_tb h4 rfl
    exact ⟨this, mz_good this⟩
  · exact mzs_good h hg x h9
theorem mzs_call0 {p : Program} {l : Launch} {e : Env} {R : Room} {s : State} {m : MethodId} {args : Array Value} {below : List Frame} {meth : Method} {c : Code} {H : Heap} {locs : List Loc} {cells slots : Nat} {Q : State → Prop} {g : JFrame} {rest : List Value} {a : Array Value}
    (hr : va_Run p l e R s m args below meth c H locs cells slots 0 0 g rest (mzsQ0 a) (fun _ => False)) (kk : W p l e R s m args below meth c H locs cells slots Q { g with pc := g.pc + 3, stack := rest }) : W p l e R s m args below meth c H locs cells slots Q g := by
  intro T hT X
  obtain ⟨v, st₀, t, T', L, h0, X', hL, e1, -, ⟨hv, hh⟩, st⟩ := hr T hT X
  cases hv
  obtain ⟨t2, a1, b1⟩ := kk T' (by rw [e1, hh, h0]) (Stand.forget X' (fun q h => (hL q h).elim))
  exact ⟨t2, st t2 a1, b1⟩
theorem mzs_chN {x : Int32} (h : (x.toUInt32 % 65536).toInt32 = x) : narrow .char (.int x) = .int x := by simp [narrow, h]
theorem mzs_pix {G : mzG} {i n : Int32} {v : Value} (hv : v = .null ∨ ∃ t, v = .ref t) (h0 : ¬ i < 0) (h1 : i < n) (l : Launch) : Met l mzyPix (mzsWs mzwPix) (mzRS 0 0) (va_Pc [.int i, .int n, v] (mzAmb G)) (QcRead i) 0 0 (fun _ => False) := by
  refine Met.ofW (cc := mzcPix) (maxL := 3) (ret := some .int) (by decide) rfl ?_
  intro p e s m args below meth c s₁ B hml hv2
  obtain ⟨rfl, hAm⟩ := hv2
  have hx := B.exec
  have hb := B.bytes
  have hr := B.returns
  have hlocks := B.notSynchronized
  have hlen : (lg_sl [Value.int i, Value.int n, v]).length ≤ 3 := by rcases hv with rfl | ⟨t, rfl⟩ <;> exact Nat.le_of_ble_eq_true rfl
  have hl := lv_entry ([.int i, .int n, v]) (n := 3) hlen
  rw [lg_entry_eq]
  generalize (lg_sl [Value.int i, Value.int n, v] ++ List.replicate (3 - (lg_sl [Value.int i, Value.int n, v]).length) Slot.unset).toArray = ls at hl ⊢
  refine lv_iload_n hx hb mzdPix_0 rfl (lv_at hl 0 rfl) ?_
  refine lv_if_lt hx hb mzdPix_1 (tgt := 9) rfl (fun z => absurd z h0) (fun _ => ?_)
  refine lv_iload_n hx hb mzdPix_4 rfl (lv_at hl 0 rfl) ?_
  refine lv_iload_n hx hb mzdPix_5 rfl (lv_at hl 1 rfl) ?_
  refine lv_icmp_lt hx hb mzdPix_6 (tgt := 16) rfl (fun _ => ?_) (fun z => absurd h1 z)
  refine lv_iload_n hx hb mzdPix_16 rfl (lv_at hl 0 rfl) ?_
  exact W.iret hx hb hr (fun t ht _ => ⟨rfl, ht⟩) (fun q h => by cases h) mzdPix_17
theorem mzs_six {G : mzG} {i n : Int32} (h0 : ¬ i < 0) (h1 : i < n) (l : Launch) : Met l mzySix (mzsWs mzwSix) (mzRS 1 22) (va_Pc [.int i, .int n] (mzAmb G)) mzsQ0 0 0 (fun _ => False) := by
  refine Met.ofW (cc := mzcSix) (maxL := 2) (ret := none) (by decide) rfl ?_
  intro p e s m args below meth c s₁ B hml hv2
  obtain ⟨rfl, hAm⟩ := hv2
  have hx := B.exec
  have hb := B.bytes
  have hr := B.returns
  have hts := atoms_spec (ws := mzsWs mzwSix) B.pre
  have hT : ∀ w ∈ mzTb, w.before _ s = true := fun w hw => hts w (List.mem_cons_of_mem _ hw)
  have hown : s.vm.findClass "java/lang/String" = some m.cls := findClass_of_methodNamed B.named
  have hlocks := B.notSynchronized
  have hl := lv_entry ([.int i, .int n]) (n := 2) (Nat.le_of_ble_eq_true rfl)
  rw [lg_entry_eq]
  generalize (lg_sl [Value.int i, Value.int n] ++ List.replicate (2 - (lg_sl [Value.int i, Value.int n]).length) Slot.unset).toArray = ls at hl ⊢
  refine lv_iload_n hx hb mzdSix_0 rfl (lv_at hl 0 rfl) ?_
  refine lv_iload_n hx hb mzdSix_1 rfl (lv_at hl 1 rfl) ?_
  have key : ∀ v : Value, v = .null ∨ (∃ t, v = .ref t) → va_Z "jdk/internal/util/Preconditions" "SIOOBE_FORMATTER" "Ljava/util/function/BiFunction;" v (mzA G) s s.heap → W p l e (headSpec (mzsWs mzwSix) (mzRS 1 22)).room s m #[Value.int i, Value.int n] below meth c s.heap [] 0 0 (MQ below mzsQ0 #[Value.int i, Value.int n] s 0 0 (fun _ => False)) (F0 m 2 ls [.int n, .int i]) := by
    intro v hv hZ
    refine va_gets hx hb hZ va_S.rf hown (hT _ (mz_tb mzs_Ff rfl)) (fun _ h => h) mzdSix_2 ?_
    refine W.callR (va_runS (As := [.int i, .int n, v]) (rest := []) ⟨hx, hb, hml, hown, hT⟩ (mzs_pix hv h0 h1 l) (va_cwS 3 hT (mzs_goodS mzs_Pxl mzs_Pxs mzs_Pxi mzwPix_in rfl) rfl rfl rfl ⟨by decide, by decide, by decide +kernel⟩ ⟨Nat.le_of_ble_eq_true rfl, Nat.le_of_ble_eq_true rfl⟩) ⟨mzs_blind, fun U hU hW => ⟨rfl, mz_amb_w hW (by rw [hU]; exact va_S.rf) hAm⟩⟩ rfl rfl hl.1 rfl (lv_room (Nat.le_of_ble_eq_true rfl)) mzdSix_5 ⟨Nat.zero_le _, Nat.zero_le _⟩).run ?_
    refine lv_pop hx hb mzdSix_8 rfl ?_
    exact W.vret hx hb hr (fun t ht _ => ⟨rfl, ht⟩) (fun q h => by cases h) mzdSix_9
  rcases hAm.2.2.2.2.2.2 with hZ | ⟨t, hZ⟩
  · exact key _ (Or.inl rfl) hZ
  · exact key _ (Or.inr ⟨t, rfl⟩) hZ
def mzsN (o : Nat) : Nat := (mzStrT.map List.length).getD o 0
def mzsB (o k : Nat) : Int32 := ((mzStrT.map (List.map Int32.ofInt)).getD o []).getD k 0
theorem mzs_f1 : ∀ o, o < 14 → mzsN o < 100 ∧ mzSl o = mzsN o ∧ Int32.ofNat (mzsN o) >>> ((0 : Int32) &&& 31) = Int32.ofInt (mzSl o) ∧ Int32.ofNat (mzsN o) = Int32.ofInt (mzsN o) := by decide +kernel
theorem mzs_f2 : ∀ o, o < 14 → ∀ k, k < mzsN o → ((mzsB o k &&& 255).toUInt32 % 65536).toInt32 = Int32.ofInt (mzSc o k) ∧ ((Int32.ofInt (mzSc o k)).toUInt32 % 65536).toInt32 = Int32.ofInt (mzSc o k) := by decide +kernel
theorem mzs_f3 : ∀ o, o < 14 → ∀ k, k < mzsN o → 0 ≤ mzSc o k ∧ mzSc o k < 65536 := by decide +kernel
theorem mzs_l1 {G : mzG} {o k : Nat} (ho : o < 14) (hk : k < mzsN o) (l : Launch) : Met l mzyL1c (mzsWs mzwL1c) (mzRS 2 43) (va_Pc [.ref (mzAd G (320 + o)), .int (Int32.ofInt k)] (mzAmb G)) (QcRead (Int32.ofInt (mzSc o k))) 0 0 (fun _ => False) := by
  refine Met.ofW (cc := mzcL1c) (maxL := 2) (ret := some .char) (by decide) rfl ?_
  intro p e s m args below meth c s₁ B hml hv2
  obtain ⟨rfl, hAm⟩ := hv2
  have hx := B.exec
  have hb := B.bytes
  have hr := B.returns
  have hts := atoms_spec (ws := mzsWs mzwL1c) B.pre
  have hT : ∀ w ∈ mzTb, w.before _ s = true := fun w hw => hts w (List.mem_cons_of_mem _ hw)
  have hown : s.vm.findClass "java/lang/StringLatin1" = some m.cls := findClass_of_methodNamed B.named
  have hlocks := B.notSynchronized
  obtain ⟨f1, f2, f3, f4⟩ := mzs_f1 o ho
  obtain ⟨g1, g2⟩ := mzs_f2 o ho k hk
  have hS : va_T .byte (mzAd G (320 + o)) (mzsN o) (fun j => .int (mzsB o j)) (mzA G) s s.heap := (hAm.2.2.2.2.1.1 o ho).2.2.2
  have hk2 : k < 2147483648 := by omega
  have n0 : ¬ Int32.ofInt (k : Int) < 0 := fun q => by
    have := (mz_lt (x := k) (y := 0) ⟨by omega, by omega⟩ ⟨by omega, by omega⟩).mp q
    omega
  have n1 : Int32.ofInt (k : Int) < Int32.ofNat (mzsN o) := by
    rw [f4]
    exact (mz_lt ⟨by omega, by omega⟩ ⟨by omega, by omega⟩).mpr (by omega)
  have hl := lv_entry ([.ref (mzAd G (320 + o)), .int (Int32.ofInt k)]) (n := 2) (Nat.le_of_ble_eq_true rfl)
  rw [lg_entry_eq]
  generalize (lg_sl [Value.ref (mzAd G (320 + o)), Value.int (Int32.ofInt k)] ++ List.replicate (2 - (lg_sl [Value.ref (mzAd G (320 + o)), Value.int (Int32.ofInt k)]).length) Slot.unset).toArray = ls at hl ⊢
  refine lv_iload_n hx hb mzdL1c_0 rfl (lv_at hl 1 rfl) ?_
  refine lv_aload_n hx hb mzdL1c_1 rfl (lv_at hl 0 rfl) ?_
  refine va_tlen hx hb hS va_S.rf rfl mzdL1c_2 ?_
  refine mzs_call0 (va_runS (As := [.int (Int32.ofInt k), .int (Int32.ofNat (mzsN o))]) (rest := []) ⟨hx, hb, hml, hown, hT⟩ (mzs_six n0 n1 l) (va_cwS 2 hT (mzs_goodS mzs_Sxl mzs_Sxs mzs_Sini mzwSix_in rfl) rfl rfl rfl ⟨by decide, by decide, by decide +kernel⟩ ⟨Nat.le_of_ble_eq_true rfl, Nat.le_of_ble_eq_true rfl⟩) ⟨mzs_blind, fun U hU hW => ⟨rfl, mz_amb_w hW (by rw [hU]; exact va_S.rf) hAm⟩⟩ rfl rfl hl.1 rfl (lv_room (Nat.le_of_ble_eq_true rfl)) mzdL1c_3 ⟨Nat.zero_le _, Nat.zero_le _⟩) ?_
  refine lv_aload_n hx hb mzdL1c_6 rfl (lv_at hl 0 rfl) ?_
  refine lv_iload_n hx hb mzdL1c_7 rfl (lv_at hl 1 rfl) ?_
  refine va_tb hx hb hS va_S.rf (mz_vpin (by omega) (by omega) (by omega)) (v := .int (mzsB o k)) (by rw [mz_nat' (by omega) (by omega)]; rfl) mzdL1c_8 ?_
  refine lv_sipush hx hb mzdL1c_9 (v := 255) rfl ?_
  refine lv_iand hx hb mzdL1c_12 ?_
  refine lv_i2c hx hb mzdL1c_13 g1 ?_
  exact W.zret hx hb hr (mzs_chN g2) (fun t ht _ => ⟨rfl, ht⟩) (fun q h => by cases h) mzdL1c_14
theorem mzs_lat {G : mzG} {o : Nat} (ho : o < 14) (l : Launch) : Met l mzyLat (mzsWs mzwLat) (mzRS 0 0) (va_Pc [.ref (mzAd G (300 + o))] (mzAmb G)) (QcRead 1) 0 0 (fun _ => False) := by
  refine Met.ofW (cc := mzcLat) (maxL := 1) (ret := some .boolean) (by decide) rfl ?_
  intro p e s m args below meth c s₁ B hml hv2
  obtain ⟨rfl, hAm⟩ := hv2
  have hx := B.exec
  have hb := B.bytes
  have hr := B.returns
  have hts := atoms_spec (ws := mzsWs mzwLat) B.pre
  have hT : ∀ w ∈ mzTb, w.before _ s = true := fun w hw => hts w (List.mem_cons_of_mem _ hw)
  have hown : s.vm.findClass "java/lang/String" = some m.cls := findClass_of_methodNamed B.named
  have hlocks := B.notSynchronized
  have hl := lv_entry ([.ref (mzAd G (300 + o))]) (n := 1) (Nat.le_of_ble_eq_true rfl)
  rw [lg_entry_eq]
  generalize (lg_sl [Value.ref (mzAd G (300 + o))] ++ List.replicate (1 - (lg_sl [Value.ref (mzAd G (300 + o))]).length) Slot.unset).toArray = ls at hl ⊢
  refine va_gets hx hb hAm.2.2.2.2.2.1 va_S.rf hown (hT _ (mz_tb mzs_Zf rfl)) (fun _ h => h) mzdLat_0 ?_
  refine lv_if_eq hx hb mzdLat_3 (tgt := 17) rfl (fun z => absurd z (by decide)) (fun _ => ?_)
  refine lv_aload_n hx hb mzdLat_6 rfl (lv_at hl 0 rfl) ?_
  refine vk_getf hx hb (hAm.2.2.2.2.1.1 o ho).2.1 va_S.rf hown (hT _ (mz_tb mzs_Cf rfl)) (fun _ h => h) mzdLat_7 ?_
  refine lv_if_ne hx hb mzdLat_10 (tgt := 17) rfl (fun z => absurd rfl z) (fun _ => ?_)
  refine lv_iconst hx hb mzdLat_13 (v := 1) rfl ?_
  refine lv_goto hx hb mzdLat_14 (tgt := 18) rfl ?_
  exact W.zret hx hb hr narrow_b1 (fun t ht _ => ⟨rfl, ht⟩) (fun q h => by cases h) mzdLat_18
theorem mzs_cod {G : mzG} {o : Nat} (ho : o < 14) (l : Launch) : Met l mzyCod (mzsWs mzwCod) (mzRS 0 0) (va_Pc [.ref (mzAd G (300 + o))] (mzAmb G)) (QcRead 0) 0 0 (fun _ => False) := by
  refine Met.ofW (cc := mzcCod) (maxL := 1) (ret := some .byte) (by decide) rfl ?_
  intro p e s m args below meth c s₁ B hml hv2
  obtain ⟨rfl, hAm⟩ := hv2
  have hx := B.exec
  have hb := B.bytes
  have hr := B.returns
  have hts := atoms_spec (ws := mzsWs mzwCod) B.pre
  have hT : ∀ w ∈ mzTb, w.before _ s = true := fun w hw => hts w (List.mem_cons_of_mem _ hw)
  have hown : s.vm.findClass "java/lang/String" = some m.cls := findClass_of_methodNamed B.named
  have hlocks := B.notSynchronized
  have hl := lv_entry ([.ref (mzAd G (300 + o))]) (n := 1) (Nat.le_of_ble_eq_true rfl)
  rw [lg_entry_eq]
  generalize (lg_sl [Value.ref (mzAd G (300 + o))] ++ List.replicate (1 - (lg_sl [Value.ref (mzAd G (300 + o))]).length) Slot.unset).toArray = ls at hl ⊢
  refine va_gets hx hb hAm.2.2.2.2.2.1 va_S.rf hown (hT _ (mz_tb mzs_Zf rfl)) (fun _ h => h) mzdCod_0 ?_
  refine lv_if_eq hx hb mzdCod_3 (tgt := 13) rfl (fun z => absurd z (by decide)) (fun _ => ?_)
  refine lv_aload_n hx hb mzdCod_6 rfl (lv_at hl 0 rfl) ?_
  refine vk_getf hx hb (hAm.2.2.2.2.1.1 o ho).2.1 va_S.rf hown (hT _ (mz_tb mzs_Cf rfl)) (fun _ h => h) mzdCod_7 ?_
  refine lv_goto hx hb mzdCod_10 (tgt := 14) rfl ?_
  exact W.zret hx hb hr rfl (fun t ht _ => ⟨rfl, ht⟩) (fun q h => by cases h) mzdCod_14
theorem mzs_len {G : mzG} {o : Nat} (ho : o < 14) (l : Launch) : Met l mzyLen (mzsWs mzwLen) (mzRS 1 20) (va_Pc [.ref (mzAd G (300 + o))] (mzAmb G)) (QcRead (Int32.ofInt (mzSl o))) 0 0 (fun _ => False) := by
  refine Met.ofW (cc := mzcLen) (maxL := 1) (ret := some .int) (by decide) rfl ?_
  intro p e s m args below meth c s₁ B hml hv2
  obtain ⟨rfl, hAm⟩ := hv2
  have hx := B.exec
  have hb := B.bytes
  have hr := B.returns
  have hts := atoms_spec (ws := mzsWs mzwLen) B.pre
  have hT : ∀ w ∈ mzTb, w.before _ s = true := fun w hw => hts w (List.mem_cons_of_mem _ hw)
  have hown : s.vm.findClass "java/lang/String" = some m.cls := findClass_of_methodNamed B.named
  have hlocks := B.notSynchronized
  have hS : va_T .byte (mzAd G (320 + o)) (mzsN o) (fun j => .int (mzsB o j)) (mzA G) s s.heap := (hAm.2.2.2.2.1.1 o ho).2.2.2
  have hl := lv_entry ([.ref (mzAd G (300 + o))]) (n := 1) (Nat.le_of_ble_eq_true rfl)
  rw [lg_entry_eq]
  generalize (lg_sl [Value.ref (mzAd G (300 + o))] ++ List.replicate (1 - (lg_sl [Value.ref (mzAd G (300 + o))]).length) Slot.unset).toArray = ls at hl ⊢
  refine lv_aload_n hx hb mzdLen_0 rfl (lv_at hl 0 rfl) ?_
  refine vk_getf hx hb (hAm.2.2.2.2.1.1 o ho).2.2.1 va_S.rf hown (hT _ (mz_tb mzs_Vf rfl)) (fun _ h => h) mzdLen_1 ?_
  refine va_tlen hx hb hS va_S.rf rfl mzdLen_4 ?_
  refine lv_aload_n hx hb mzdLen_5 rfl (lv_at hl 0 rfl) ?_
  refine W.callR (va_runV (As := []) (rest := [.int (Int32.ofNat (mzsN o))]) ⟨hx, hb, hml, hown, hT⟩ (mzs_cod ho l) (cwV (C := "java/lang/String") 0 hT (mzs_goodV mzs_Codl mzs_Codi mzs_Cods mzs_Sini mzwCod_in rfl) rfl rfl rfl ⟨rfl, by decide, by decide, by decide +kernel⟩ ⟨Nat.le_of_ble_eq_true rfl, Nat.le_of_ble_eq_true rfl⟩) ⟨mzs_blind, vk_recv hAm.2.2.2.2.1 ho va_S.rf, fun U hU hW => ⟨rfl, mz_amb_w hW (by rw [hU]; exact va_S.rf) hAm⟩⟩ rfl rfl hl.1 rfl (lv_room (Nat.le_of_ble_eq_true rfl)) mzdLen_6 ⟨Nat.zero_le _, Nat.zero_le _⟩).run ?_
  refine lv_ishr hx hb mzdLen_9 ?_
  rw [(mzs_f1 o ho).2.2.1]
  exact W.iret hx hb hr (fun t ht _ => ⟨rfl, ht⟩) (fun q h => by cases h) mzdLen_10
theorem mzs_chr {G : mzG} {o k : Nat} (ho : o < 14) (hk : k < mzsN o) (l : Launch) : Met l mzyChr (mzsWs mzwChr) (mzRS 3 64) (va_Pc [.ref (mzAd G (300 + o)), .int (Int32.ofInt k)] (mzAmb G)) (QcRead (Int32.ofInt (mzSc o k))) 0 0 (fun _ => False) := by
  refine Met.ofW (cc := mzcChr) (maxL := 2) (ret := some .char) (by decide) rfl ?_
  intro p e s m args below meth c s₁ B hml hv2
  obtain ⟨rfl, hAm⟩ := hv2
  have hx := B.exec
  have hb := B.bytes
  have hr := B.returns
  have hts := atoms_spec (ws := mzsWs mzwChr) B.pre
  have hT : ∀ w ∈ mzTb, w.before _ s = true := fun w hw => hts w (List.mem_cons_of_mem _ hw)
  have hown : s.vm.findClass "java/lang/String" = some m.cls := findClass_of_methodNamed B.named
  have hlocks := B.notSynchronized
  have hl := lv_entry ([.ref (mzAd G (300 + o)), .int (Int32.ofInt k)]) (n := 2) (Nat.le_of_ble_eq_true rfl)
  rw [lg_entry_eq]
  generalize (lg_sl [Value.ref (mzAd G (300 + o)), Value.int (Int32.ofInt k)] ++ List.replicate (2 - (lg_sl [Value.ref (mzAd G (300 + o)), Value.int (Int32.ofInt k)]).length) Slot.unset).toArray = ls at hl ⊢
  refine lv_aload_n hx hb mzdChr_0 rfl (lv_at hl 0 rfl) ?_
  refine W.callR (va_runV (As := []) (rest := []) ⟨hx, hb, hml, hown, hT⟩ (mzs_lat ho l) (cwV (C := "java/lang/String") 0 hT (mzs_goodV mzs_Latl mzs_Lati mzs_Lats mzs_Sini mzwLat_in rfl) rfl rfl rfl ⟨rfl, by decide, by decide, by decide +kernel⟩ ⟨Nat.le_of_ble_eq_true rfl, Nat.le_of_ble_eq_true rfl⟩) ⟨mzs_blind, vk_recv hAm.2.2.2.2.1 ho va_S.rf, fun U hU hW => ⟨rfl, mz_amb_w hW (by rw [hU]; exact va_S.rf) hAm⟩⟩ rfl rfl hl.1 rfl (lv_room (Nat.le_of_ble_eq_true rfl)) mzdChr_1 ⟨Nat.zero_le _, Nat.zero_le _⟩).run ?_
  refine lv_if_eq hx hb mzdChr_4 (tgt := 16) rfl (fun z => absurd z (by decide)) (fun _ => ?_)
  refine lv_aload_n hx hb mzdChr_7 rfl (lv_at hl 0 rfl) ?_
  refine vk_getf hx hb (hAm.2.2.2.2.1.1 o ho).2.2.1 va_S.rf hown (hT _ (mz_tb mzs_Vf rfl)) (fun _ h => h) mzdChr_8 ?_
  refine lv_iload_n hx hb mzdChr_11 rfl (lv_at hl 1 rfl) ?_
  refine W.callR (va_runS (As := [.ref (mzAd G (320 + o)), .int (Int32.ofInt k)]) (rest := []) ⟨hx, hb, hml, hown, hT⟩ (mzs_l1 ho hk l) (va_cwS 2 hT (mzs_goodS mzs_L1l mzs_L1s mzs_L1i mzwL1c_in rfl) rfl rfl rfl ⟨by decide, by decide, by decide +kernel⟩ ⟨Nat.le_of_ble_eq_true rfl, Nat.le_of_ble_eq_true rfl⟩) ⟨mzs_blind, fun U hU hW => ⟨rfl, mz_amb_w hW (by rw [hU]; exact va_S.rf) hAm⟩⟩ rfl rfl hl.1 rfl (lv_room (Nat.le_of_ble_eq_true rfl)) mzdChr_12 ⟨Nat.zero_le _, Nat.zero_le _⟩).run ?_
  exact W.zret hx hb hr (mzs_chN (mzs_f2 o ho k hk).2) (fun t ht _ => ⟨rfl, ht⟩) (fun q h => by cases h) mzdChr_15
section MZS
variable {G : mzG} {p : Program} {l : Launch} {e : Env} {R : Room} {s : State} {m : MethodId} {args : Array Value} {below : List Frame} {meth : Method} {c : Code} {cells slots : Nat} {Z : State → Prop} {y d pc : Nat} {L S : List mzV} {μ : mzM}
theorem mzr_strlen (C : mzCx G p R s m args meth c y (d + 1) cells slots) {k o : Nat} (hl : Jvm.Cond.methodLink (mzNo (mzOw y)) k ⟨"java/lang/String", "length", "()I"⟩ ∈ lw_tbl) (ho : o < 14) (hsz : mzSz S ≤ 8) (hd : decode (mzBy y) pc = .ok (.invokevirtual k, 3))
    (kk : mzGo G p l e R s m args below meth c cells slots Z y (pc + 3) L (mzI (mzSl o) :: S) μ) : mzGo G p l e R s m args below meth c cells slots Z y pc L (mzP 300 o :: S) μ := by
  intro H locs ls h1 h2 h3 h4
  have hf : 5 ≤ R.frames := by have := C.2.2.2.2.2.2.2.2.2.2.1.1; omega
  have hL : 96 ≤ R.locals := by have := C.2.2.2.2.2.2.2.2.2.2.1.2; omega
  obtain ⟨f1, f2, -, -⟩ := mzs_f1 o ho
  have hb : mzK (mzI (mzSl o)) := by
    show -2147483648 ≤ mzSl o ∧ mzSl o < 2147483648
    rw [f2]
    generalize mzsN o = z at f1 ⊢
    omega
  have hA := C.2.2.2.2.2.2.2.1
  show W p l e R s m args below meth c H locs cells slots Z (F0 m pc ls (.ref (mzAd G (300 + o)) :: S.map (mzC G)))
  exact W.callR (va_runV (As := []) (rest := S.map (mzC G)) ⟨C.1, C.2.1, C.2.2.1, C.2.2.2.2.2.1, C.2.2.2.2.2.2.1⟩ (mzs_len ho l) (cwV (C := "java/lang/String") (y := mzyLen) 0 C.2.2.2.2.2.2.1 (mzs_goodV hl mzs_Leni mzs_Lens mzs_Sini mzwLen_in rfl) rfl rfl rfl ⟨rfl, by decide, by decide, by decide +kernel⟩ ⟨Nat.le_trans (Nat.le_of_ble_eq_true rfl) hf, Nat.le_trans (Nat.le_of_ble_eq_true rfl) hL⟩) ⟨mzs_blind, vk_recv hA.2.2.2.2.1 ho h2, fun U hU hW => ⟨rfl, mz_amb_w hW (by rw [hU]; exact h2) hA⟩⟩ rfl rfl h3.1 rfl (lv_room (Nat.le_trans (mz_sz _) hsz)) hd ⟨C.2.2.2.2.2.2.2.2.2.1.1, C.2.2.2.2.2.2.2.2.2.1.2⟩).run (kk H locs ls h1 h2 h3 (mz_sk (by simp) hb (mz_skt h4)))
theorem mzr_charAt (C : mzCx G p R s m args meth c y (d + 1) cells slots) {k o : Nat} {i : Int} (hl : Jvm.Cond.methodLink (mzNo (mzOw y)) k ⟨"java/lang/String", "charAt", "(I)C"⟩ ∈ lw_tbl) (ho : o < 14) (hi : 0 ≤ i ∧ i < mzSl o) (hsz : mzSz S ≤ 8) (hd : decode (mzBy y) pc = .ok (.invokevirtual k, 3))
    (kk : mzGo G p l e R s m args below meth c cells slots Z y (pc + 3) L (mzI (mzSc o i.toNat) :: S) μ) : mzGo G p l e R s m args below meth c cells slots Z y pc L (mzI i :: mzP 300 o :: S) μ := by
  intro H locs ls h1 h2 h3 h4
  have hf : 5 ≤ R.frames := by have := C.2.2.2.2.2.2.2.2.2.2.1.1; omega
  have hL : 96 ≤ R.locals := by have := C.2.2.2.2.2.2.2.2.2.2.1.2; omega
  obtain ⟨f1, f2, -, -⟩ := mzs_f1 o ho
  obtain ⟨j, rfl⟩ : ∃ j : Nat, i = j := ⟨i.toNat, (Int.toNat_of_nonneg hi.1).symm⟩
  have hj : j < mzsN o := Int.ofNat_lt.mp (f2 ▸ hi.2)
  have hb : mzK (mzI (mzSc o j)) := by
    have := mzs_f3 o ho j hj
    show -2147483648 ≤ mzSc o j ∧ mzSc o j < 2147483648
    generalize mzSc o j = z at this ⊢
    omega
  have hA := C.2.2.2.2.2.2.2.1
  show W p l e R s m args below meth c H locs cells slots Z (F0 m pc ls (.int (Int32.ofInt j) :: .ref (mzAd G (300 + o)) :: S.map (mzC G)))
  exact W.callR (va_runV (As := [.int (Int32.ofInt j)]) (rest := S.map (mzC G)) ⟨C.1, C.2.1, C.2.2.1, C.2.2.2.2.2.1, C.2.2.2.2.2.2.1⟩ (mzs_chr ho hj l) (cwV (C := "java/lang/String") (y := mzyChr) 1 C.2.2.2.2.2.2.1 (mzs_goodV hl mzs_Chri mzs_Chrs mzs_Sini mzwChr_in rfl) rfl rfl rfl ⟨rfl, by decide, by decide, by decide +kernel⟩ ⟨Nat.le_trans (Nat.le_of_ble_eq_true rfl) hf, Nat.le_trans (Nat.le_of_ble_eq_true rfl) hL⟩) ⟨mzs_blind, vk_recv hA.2.2.2.2.1 ho h2, fun U hU hW => ⟨rfl, mz_amb_w hW (by rw [hU]; exact h2) hA⟩⟩ rfl rfl h3.1 rfl (lv_room (Nat.le_trans (mz_sz _) hsz)) hd ⟨C.2.2.2.2.2.2.2.2.2.1.1, C.2.2.2.2.2.2.2.2.2.1.2⟩).run (kk H locs ls h1 h2 h3 (mz_sk (by simp) hb (mz_skt (mz_skt h4))))
end MZS

