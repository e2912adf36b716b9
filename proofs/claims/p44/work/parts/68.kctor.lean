/-! CONSTRUCTORS of Sheet, Tape, World, Melt -/
theorem kn_hh {D : va_G} {H0 H H1 : Heap} {es t : List va_E} {x y : va_E} (h : PH D H0 (es ++ [x]) H) (h1 : PH D H0 (es ++ y :: t) H1) : H.size ≤ H1.size := by
  have a := h.1
  have b := h1.1
  rw [List.length_append, List.length_cons] at a b
  rw [List.length_nil] at a
  omega
theorem mk_good {w : Jvm.Cond} (h : w ∈ lw_tbl) (hg : goodWord w = true) : GoodIn mzTb (mkWs w) := fun x hx => by
  rcases List.mem_cons.mp hx with rfl | h2
  · exact ⟨mz_tb h hg, mz_good (mz_tb h hg)⟩
  · exact ⟨h2, mz_good h2⟩
theorem fi_good : GoodIn mzTb (va_wsS "MeltPins$World" 33 (mzYn 191) (mkWs fiW)) := fun w hw => by
  unfold va_wsS at hw
  rcases List.mem_append.mp hw with h9 | h9
  · have : w ∈ mzTb := by
      simp only [List.mem_cons, List.not_mem_nil, or_false] at h9
      rcases h9 with rfl | rfl | rfl
      · exact mz_tb mk_fil rfl
      · exact mz_tb mk_fis rfl
      · exact mz_tb mk_fii rfl
    exact ⟨this, mz_good this⟩
  · exact mk_good (mz_code (y := 191) (by decide) (by decide)) rfl w h9
def kcl1 (cI : ClassId) (h n : Nat) : List va_E := [.inr (1, [.int 0, .int 0, .ref (h + (n + 1))]), .inl (cI, 40, .inl (fun _ => 0))]
theorem kc_1 (l : Launch) {D : va_G} {cI cA cS : ClassId} {H0 : Heap} {es : List va_E} {n : Nat} (hn : es.length = n) : Met l mkY1 (mkWs mkW1) { frames := 1, cells := 1, slots := 40, locals := 32 } (va_Pc [.ref (H0.size + n)] (KP D (mkT cI cA cS) H0 (es ++ [.inr (1, [.int 0, .int 0, .null])]))) (KQ D H0 (es ++ kcl1 cI H0.size n)) 1 40 (mkF H0) := by
  refine Met.ofW (cc := mkB1) (maxL := 1) (ret := none) (by decide) rfl ?_
  intro p e s m args below meth c s₁ B hml hv
  obtain ⟨rfl, hC⟩ := hv
  have hown : s.vm.findClass "MeltPins$Sheet" = some m.cls := findClass_of_methodNamed B.named
  have hts := atoms_spec (ws := mkWs mkW1) B.pre
  have C : KC D (mkT cI cA cS) H0 p s m _ meth c mkB1 1 "MeltPins$Sheet" := mk_kc B.exec B.bytes hml B.notSynchronized hown hts hC
  have hin : meth.name = "<init>" := (name_of_methodNamed B.named B.method).1
  have hx := B.exec
  have hb := B.bytes
  have hlo : ∀ q ∈ ([] : List Loc), H0.size ≤ q.base := fun _ h => by cases h
  have hP := hC.1
  have hP0 := hC.1
  have hl := lv_entry [.ref (H0.size + n)] (n := 1) (Nat.le_of_ble_eq_true rfl)
  rw [lg_entry_eq]
  generalize (lg_sl [.ref (H0.size + n)] ++ List.replicate (1 - (lg_sl [.ref (H0.size + n)]).length) Slot.unset).toArray = ls at hl ⊢
  have hl : lv_has ls 1 [(0, .ref (H0.size + n))] := hl
  refine lv_aload_n hx hb mkd1_0 (i := 0) rfl (lv_at hl 0 rfl) ?_
  refine kn_obj C hl mk_ob1 mkd1_1 (Nat.le_of_ble_eq_true rfl) (Nat.le_of_ble_eq_true rfl) ?_
  refine W.eq (g2 := F0 m 4 ls []) rfl ?_
  refine lv_aload_n hx hb mkd1_4 (i := 0) rfl (lv_at hl 0 rfl) ?_
  refine lv_bipush hx hb (v := 40) mkd1_5 (by decide) ?_
  refine kn_newa C hn (k := 1) rfl rfl hP 40 (by decide) (by decide) (by decide) (Nat.le_of_ble_eq_true rfl) (Nat.le_of_ble_eq_true rfl) mkd1_7 (fun H hP => ?_)
  simp only [List.append_assoc, List.cons_append, List.nil_append, List.append_nil] at hP
  have hP : PH D H0 (es ++ (.inr (1, [.int 0, .int 0, .null]) :: [.inl (cI, 40, .inl (fun _ => 0))])) H := hP
  refine kn_put C hn (ci := 1) (j := 2) (by decide) (by decide) hP mk_f1_9 rfl rfl hin rfl rfl (show (2 : Nat) < 3 by decide) hlo mkd1_9 (fun H locs hP hlo _ => ?_)
  have hP : PH D H0 (es ++ (.inr (1, [.int 0, .int 0, .ref (H0.size + (n + 1))]) :: [.inl (cI, 40, .inl (fun _ => 0))])) H := hP
  refine W.widen (k := 1) (n := 40) (Nat.le_of_ble_eq_true rfl) (Nat.le_of_ble_eq_true rfl) ?_
  exact W.vret hx hb B.returns (fun t ht _ => ⟨rfl, by rw [ht]; exact hP⟩) (fun q hq => hlo q hq) mkd1_12 B.notSynchronized
def kcl2 (cI : ClassId) (h n : Nat) : List va_E := [.inr (2, [.ref (h + (n + 1)), .int 0, .int 0, .int 0, .int 0, .int 0]), .inl (cI, 120, .inl (fun _ => 0))]
theorem kc_2 (l : Launch) {D : va_G} {cI cA cS : ClassId} {H0 : Heap} {es : List va_E} {n : Nat} (hn : es.length = n) : Met l mkY2 (mkWs mkW2) { frames := 1, cells := 1, slots := 120, locals := 32 } (va_Pc [.ref (H0.size + n)] (KP D (mkT cI cA cS) H0 (es ++ [.inr (2, [.null, .int 0, .int 0, .int 0, .int 0, .int 0])]))) (KQ D H0 (es ++ kcl2 cI H0.size n)) 1 120 (mkF H0) := by
  refine Met.ofW (cc := mkB2) (maxL := 1) (ret := none) (by decide) rfl ?_
  intro p e s m args below meth c s₁ B hml hv
  obtain ⟨rfl, hC⟩ := hv
  have hown : s.vm.findClass "MeltPins$Tape" = some m.cls := findClass_of_methodNamed B.named
  have hts := atoms_spec (ws := mkWs mkW2) B.pre
  have C : KC D (mkT cI cA cS) H0 p s m _ meth c mkB2 1 "MeltPins$Tape" := mk_kc B.exec B.bytes hml B.notSynchronized hown hts hC
  have hin : meth.name = "<init>" := (name_of_methodNamed B.named B.method).1
  have hx := B.exec
  have hb := B.bytes
  have hlo : ∀ q ∈ ([] : List Loc), H0.size ≤ q.base := fun _ h => by cases h
  have hP := hC.1
  have hP0 := hC.1
  have hl := lv_entry [.ref (H0.size + n)] (n := 1) (Nat.le_of_ble_eq_true rfl)
  rw [lg_entry_eq]
  generalize (lg_sl [.ref (H0.size + n)] ++ List.replicate (1 - (lg_sl [.ref (H0.size + n)]).length) Slot.unset).toArray = ls at hl ⊢
  have hl : lv_has ls 1 [(0, .ref (H0.size + n))] := hl
  refine lv_aload_n hx hb mkd2_0 (i := 0) rfl (lv_at hl 0 rfl) ?_
  refine kn_obj C hl mk_ob2 mkd2_1 (Nat.le_of_ble_eq_true rfl) (Nat.le_of_ble_eq_true rfl) ?_
  refine W.eq (g2 := F0 m 4 ls []) rfl ?_
  refine lv_aload_n hx hb mkd2_4 (i := 0) rfl (lv_at hl 0 rfl) ?_
  refine lv_bipush hx hb (v := 120) mkd2_5 (by decide) ?_
  refine kn_newa C hn (k := 1) rfl rfl hP 120 (by decide) (by decide) (by decide) (Nat.le_of_ble_eq_true rfl) (Nat.le_of_ble_eq_true rfl) mkd2_7 (fun H hP => ?_)
  simp only [List.append_assoc, List.cons_append, List.nil_append, List.append_nil] at hP
  have hP : PH D H0 (es ++ (.inr (2, [.null, .int 0, .int 0, .int 0, .int 0, .int 0]) :: [.inl (cI, 120, .inl (fun _ => 0))])) H := hP
  refine kn_put C hn (ci := 2) (j := 0) (by decide) (by decide) hP mk_f2_9 rfl rfl hin rfl rfl (show (0 : Nat) < 6 by decide) hlo mkd2_9 (fun H locs hP hlo _ => ?_)
  have hP : PH D H0 (es ++ (.inr (2, [.ref (H0.size + (n + 1)), .int 0, .int 0, .int 0, .int 0, .int 0]) :: [.inl (cI, 120, .inl (fun _ => 0))])) H := hP
  refine W.widen (k := 1) (n := 120) (Nat.le_of_ble_eq_true rfl) (Nat.le_of_ble_eq_true rfl) ?_
  exact W.vret hx hb B.returns (fun t ht _ => ⟨rfl, by rw [ht]; exact hP⟩) (fun q hq => hlo q hq) mkd2_12 B.notSynchronized
def kcl3 (cI cA : ClassId) (h n : Nat) : List va_E := .inr (3, [.int 0, .int 0, .int 0, .int 0, .int 1, .ref (h + (n + 1)), .ref (h + (n + 14)), .ref (h + (n + 27)), .ref (h + (n + 28)), .ref (h + (n + 29))]) :: .inl (cA, 12, .inr (.inr (.inr (.inr (fun j => if j < 12 then some (h + (n + 1) + 1 + j) else none))))) :: (List.replicate 12 (.inl (cI, 9, .inl (fun _ => 0))) ++ (.inl (cA, 12, .inr (.inr (.inr (.inr (fun j => if j < 12 then some (h + (n + 14) + 1 + j) else none))))) :: (List.replicate 12 (.inl (cI, 12, .inl (fun _ => 0))) ++ (.inl (cI, 20, .inl (fun _ => 0)) :: .inl (cI, 20, .inl (fun _ => 0)) :: [.inl (cI, 10, .inl (fun _ => Int32.ofInt (-1)))]))))
theorem kc_3 (l : Launch) {D : va_G} {cI cA cS : ClassId} {H0 : Heap} {es : List va_E} {n : Nat} (hn : es.length = n) : Met l mkY3 (mkWs mkW3) { frames := 2, cells := 29, slots := 326, locals := 64 } (va_Pc [.ref (H0.size + n)] (KP D (mkT cI cA cS) H0 (es ++ [.inr (3, [.int 0, .int 0, .int 0, .int 0, .int 0, .null, .null, .null, .null, .null])]))) (KQ D H0 (es ++ kcl3 cI cA H0.size n)) 29 326 (mkF H0) := by
  refine Met.ofW (cc := mkB3) (maxL := 1) (ret := none) (by decide) rfl ?_
  intro p e s m args below meth c s₁ B hml hv
  obtain ⟨rfl, hC⟩ := hv
  have hown : s.vm.findClass "MeltPins$World" = some m.cls := findClass_of_methodNamed B.named
  have hts := atoms_spec (ws := mkWs mkW3) B.pre
  have C : KC D (mkT cI cA cS) H0 p s m _ meth c mkB3 1 "MeltPins$World" := mk_kc B.exec B.bytes hml B.notSynchronized hown hts hC
  have hin : meth.name = "<init>" := (name_of_methodNamed B.named B.method).1
  have hx := B.exec
  have hb := B.bytes
  have hlo : ∀ q ∈ ([] : List Loc), H0.size ≤ q.base := fun _ h => by cases h
  have hP := hC.1
  have hP0 := hC.1
  have hl := lv_entry [.ref (H0.size + n)] (n := 1) (Nat.le_of_ble_eq_true rfl)
  rw [lg_entry_eq]
  generalize (lg_sl [.ref (H0.size + n)] ++ List.replicate (1 - (lg_sl [.ref (H0.size + n)]).length) Slot.unset).toArray = ls at hl ⊢
  have hl : lv_has ls 1 [(0, .ref (H0.size + n))] := hl
  refine lv_aload_n hx hb mkd3_0 (i := 0) rfl (lv_at hl 0 rfl) ?_
  refine kn_obj C hl mk_ob3 mkd3_1 (Nat.le_of_ble_eq_true rfl) (Nat.le_of_ble_eq_true rfl) ?_
  refine W.eq (g2 := F0 m 4 ls []) rfl ?_
  refine lv_aload_n hx hb mkd3_4 (i := 0) rfl (lv_at hl 0 rfl) ?_
  refine lv_iconst hx hb (v := 1) mkd3_5 (by decide) ?_
  refine kn_put C hn (ci := 3) (j := 4) (by decide) (by decide) hP mk_f3_9 rfl rfl hin rfl rfl (show (4 : Nat) < 10 by decide) hlo mkd3_6 (fun H locs hP hlo _ => ?_)
  have hP : PH D H0 (es ++ (.inr (3, [.int 0, .int 0, .int 0, .int 0, .int 1, .null, .null, .null, .null, .null]) :: [])) H := hP
  refine lv_aload_n hx hb mkd3_9 (i := 0) rfl (lv_at hl 0 rfl) ?_
  refine lv_bipush hx hb (v := 12) mkd3_10 (by decide) ?_
  refine lv_bipush hx hb (v := 9) mkd3_12 (by decide) ?_
  refine kn_mna C hn (k := 1) rfl rfl rfl mk_c3_15 hP (kn_hh hP0 hP) 12 9 (by decide) (by decide) (by decide) (by decide) (by decide) (by decide) (Nat.le_of_ble_eq_true rfl) (Nat.le_of_ble_eq_true rfl) mkd3_14 (fun H hP _ => ?_)
  simp only [List.append_assoc, List.cons_append, List.nil_append, List.append_nil] at hP
  have hP : PH D H0 (es ++ (.inr (3, [.int 0, .int 0, .int 0, .int 0, .int 1, .null, .null, .null, .null, .null]) :: .inl (cA, 12, .inr (.inr (.inr (.inr (fun j => if j < 12 then some (H0.size + (n + 1) + 1 + j) else none))))) :: (List.replicate 12 (.inl (cI, 9, .inl (fun _ => 0))) ++ []))) H := hP
  refine kn_put C hn (ci := 3) (j := 5) (by decide) (by decide) hP mk_f3_17 rfl rfl hin rfl rfl (show (5 : Nat) < 10 by decide) hlo mkd3_18 (fun H locs hP hlo _ => ?_)
  have hP : PH D H0 (es ++ (.inr (3, [.int 0, .int 0, .int 0, .int 0, .int 1, .ref (H0.size + (n + 1)), .null, .null, .null, .null]) :: .inl (cA, 12, .inr (.inr (.inr (.inr (fun j => if j < 12 then some (H0.size + (n + 1) + 1 + j) else none))))) :: (List.replicate 12 (.inl (cI, 9, .inl (fun _ => 0))) ++ []))) H := hP
  refine lv_aload_n hx hb mkd3_21 (i := 0) rfl (lv_at hl 0 rfl) ?_
  refine lv_bipush hx hb (v := 12) mkd3_22 (by decide) ?_
  refine lv_bipush hx hb (v := 12) mkd3_24 (by decide) ?_
  refine kn_mna C hn (k := 14) rfl rfl rfl mk_c3_15 hP (kn_hh hP0 hP) 12 12 (by decide) (by decide) (by decide) (by decide) (by decide) (by decide) (Nat.le_of_ble_eq_true rfl) (Nat.le_of_ble_eq_true rfl) mkd3_26 (fun H hP _ => ?_)
  simp only [List.append_assoc, List.cons_append, List.nil_append, List.append_nil] at hP
  have hP : PH D H0 (es ++ (.inr (3, [.int 0, .int 0, .int 0, .int 0, .int 1, .ref (H0.size + (n + 1)), .null, .null, .null, .null]) :: .inl (cA, 12, .inr (.inr (.inr (.inr (fun j => if j < 12 then some (H0.size + (n + 1) + 1 + j) else none))))) :: (List.replicate 12 (.inl (cI, 9, .inl (fun _ => 0))) ++ (.inl (cA, 12, .inr (.inr (.inr (.inr (fun j => if j < 12 then some (H0.size + (n + 14) + 1 + j) else none))))) :: (List.replicate 12 (.inl (cI, 12, .inl (fun _ => 0))) ++ []))))) H := hP
  refine kn_put C hn (ci := 3) (j := 6) (by decide) (by decide) hP mk_f3_20 rfl rfl hin rfl rfl (show (6 : Nat) < 10 by decide) hlo mkd3_30 (fun H locs hP hlo _ => ?_)
  have hP : PH D H0 (es ++ (.inr (3, [.int 0, .int 0, .int 0, .int 0, .int 1, .ref (H0.size + (n + 1)), .ref (H0.size + (n + 14)), .null, .null, .null]) :: .inl (cA, 12, .inr (.inr (.inr (.inr (fun j => if j < 12 then some (H0.size + (n + 1) + 1 + j) else none))))) :: (List.replicate 12 (.inl (cI, 9, .inl (fun _ => 0))) ++ (.inl (cA, 12, .inr (.inr (.inr (.inr (fun j => if j < 12 then some (H0.size + (n + 14) + 1 + j) else none))))) :: (List.replicate 12 (.inl (cI, 12, .inl (fun _ => 0))) ++ []))))) H := hP
  refine lv_aload_n hx hb mkd3_33 (i := 0) rfl (lv_at hl 0 rfl) ?_
  refine lv_bipush hx hb (v := 20) mkd3_34 (by decide) ?_
  refine kn_newa C hn (k := 27) rfl rfl hP 20 (by decide) (by decide) (by decide) (Nat.le_of_ble_eq_true rfl) (Nat.le_of_ble_eq_true rfl) mkd3_36 (fun H hP => ?_)
  simp only [List.append_assoc, List.cons_append, List.nil_append, List.append_nil] at hP
  have hP : PH D H0 (es ++ (.inr (3, [.int 0, .int 0, .int 0, .int 0, .int 1, .ref (H0.size + (n + 1)), .ref (H0.size + (n + 14)), .null, .null, .null]) :: .inl (cA, 12, .inr (.inr (.inr (.inr (fun j => if j < 12 then some (H0.size + (n + 1) + 1 + j) else none))))) :: (List.replicate 12 (.inl (cI, 9, .inl (fun _ => 0))) ++ (.inl (cA, 12, .inr (.inr (.inr (.inr (fun j => if j < 12 then some (H0.size + (n + 14) + 1 + j) else none))))) :: (List.replicate 12 (.inl (cI, 12, .inl (fun _ => 0))) ++ ([.inl (cI, 20, .inl (fun _ => 0))])))))) H := hP
  refine kn_put C hn (ci := 3) (j := 7) (by decide) (by decide) hP mk_f3_23 rfl rfl hin rfl rfl (show (7 : Nat) < 10 by decide) hlo mkd3_38 (fun H locs hP hlo _ => ?_)
  have hP : PH D H0 (es ++ (.inr (3, [.int 0, .int 0, .int 0, .int 0, .int 1, .ref (H0.size + (n + 1)), .ref (H0.size + (n + 14)), .ref (H0.size + (n + 27)), .null, .null]) :: .inl (cA, 12, .inr (.inr (.inr (.inr (fun j => if j < 12 then some (H0.size + (n + 1) + 1 + j) else none))))) :: (List.replicate 12 (.inl (cI, 9, .inl (fun _ => 0))) ++ (.inl (cA, 12, .inr (.inr (.inr (.inr (fun j => if j < 12 then some (H0.size + (n + 14) + 1 + j) else none))))) :: (List.replicate 12 (.inl (cI, 12, .inl (fun _ => 0))) ++ ([.inl (cI, 20, .inl (fun _ => 0))])))))) H := hP
  refine lv_aload_n hx hb mkd3_41 (i := 0) rfl (lv_at hl 0 rfl) ?_
  refine lv_bipush hx hb (v := 20) mkd3_42 (by decide) ?_
  refine kn_newa C hn (k := 28) rfl rfl hP 20 (by decide) (by decide) (by decide) (Nat.le_of_ble_eq_true rfl) (Nat.le_of_ble_eq_true rfl) mkd3_44 (fun H hP => ?_)
  simp only [List.append_assoc, List.cons_append, List.nil_append, List.append_nil] at hP
  have hP : PH D H0 (es ++ (.inr (3, [.int 0, .int 0, .int 0, .int 0, .int 1, .ref (H0.size + (n + 1)), .ref (H0.size + (n + 14)), .ref (H0.size + (n + 27)), .null, .null]) :: .inl (cA, 12, .inr (.inr (.inr (.inr (fun j => if j < 12 then some (H0.size + (n + 1) + 1 + j) else none))))) :: (List.replicate 12 (.inl (cI, 9, .inl (fun _ => 0))) ++ (.inl (cA, 12, .inr (.inr (.inr (.inr (fun j => if j < 12 then some (H0.size + (n + 14) + 1 + j) else none))))) :: (List.replicate 12 (.inl (cI, 12, .inl (fun _ => 0))) ++ (.inl (cI, 20, .inl (fun _ => 0)) :: [.inl (cI, 20, .inl (fun _ => 0))])))))) H := hP
  refine kn_put C hn (ci := 3) (j := 8) (by decide) (by decide) hP mk_f3_27 rfl rfl hin rfl rfl (show (8 : Nat) < 10 by decide) hlo mkd3_46 (fun H locs hP hlo _ => ?_)
  have hP : PH D H0 (es ++ (.inr (3, [.int 0, .int 0, .int 0, .int 0, .int 1, .ref (H0.size + (n + 1)), .ref (H0.size + (n + 14)), .ref (H0.size + (n + 27)), .ref (H0.size + (n + 28)), .null]) :: .inl (cA, 12, .inr (.inr (.inr (.inr (fun j => if j < 12 then some (H0.size + (n + 1) + 1 + j) else none))))) :: (List.replicate 12 (.inl (cI, 9, .inl (fun _ => 0))) ++ (.inl (cA, 12, .inr (.inr (.inr (.inr (fun j => if j < 12 then some (H0.size + (n + 14) + 1 + j) else none))))) :: (List.replicate 12 (.inl (cI, 12, .inl (fun _ => 0))) ++ (.inl (cI, 20, .inl (fun _ => 0)) :: [.inl (cI, 20, .inl (fun _ => 0))])))))) H := hP
  refine lv_aload_n hx hb mkd3_49 (i := 0) rfl (lv_at hl 0 rfl) ?_
  refine lv_bipush hx hb (v := 10) mkd3_50 (by decide) ?_
  refine kn_newa C hn (k := 29) rfl rfl hP 10 (by decide) (by decide) (by decide) (Nat.le_of_ble_eq_true rfl) (Nat.le_of_ble_eq_true rfl) mkd3_52 (fun H hP => ?_)
  simp only [List.append_assoc, List.cons_append, List.nil_append, List.append_nil] at hP
  have hP : PH D H0 (es ++ (.inr (3, [.int 0, .int 0, .int 0, .int 0, .int 1, .ref (H0.size + (n + 1)), .ref (H0.size + (n + 14)), .ref (H0.size + (n + 27)), .ref (H0.size + (n + 28)), .null]) :: .inl (cA, 12, .inr (.inr (.inr (.inr (fun j => if j < 12 then some (H0.size + (n + 1) + 1 + j) else none))))) :: (List.replicate 12 (.inl (cI, 9, .inl (fun _ => 0))) ++ (.inl (cA, 12, .inr (.inr (.inr (.inr (fun j => if j < 12 then some (H0.size + (n + 14) + 1 + j) else none))))) :: (List.replicate 12 (.inl (cI, 12, .inl (fun _ => 0))) ++ (.inl (cI, 20, .inl (fun _ => 0)) :: .inl (cI, 20, .inl (fun _ => 0)) :: [.inl (cI, 10, .inl (fun _ => 0))])))))) H := hP
  refine kn_put C hn (ci := 3) (j := 9) (by decide) (by decide) hP mk_f3_30 rfl rfl hin rfl rfl (show (9 : Nat) < 10 by decide) hlo mkd3_54 (fun H locs hP hlo _ => ?_)
  have hP : PH D H0 (es ++ (.inr (3, [.int 0, .int 0, .int 0, .int 0, .int 1, .ref (H0.size + (n + 1)), .ref (H0.size + (n + 14)), .ref (H0.size + (n + 27)), .ref (H0.size + (n + 28)), .ref (H0.size + (n + 29))]) :: .inl (cA, 12, .inr (.inr (.inr (.inr (fun j => if j < 12 then some (H0.size + (n + 1) + 1 + j) else none))))) :: (List.replicate 12 (.inl (cI, 9, .inl (fun _ => 0))) ++ (.inl (cA, 12, .inr (.inr (.inr (.inr (fun j => if j < 12 then some (H0.size + (n + 14) + 1 + j) else none))))) :: (List.replicate 12 (.inl (cI, 12, .inl (fun _ => 0))) ++ (.inl (cI, 20, .inl (fun _ => 0)) :: .inl (cI, 20, .inl (fun _ => 0)) :: [.inl (cI, 10, .inl (fun _ => 0))])))))) H := hP
  refine lv_aload_n hx hb mkd3_57 (i := 0) rfl (lv_at hl 0 rfl) ?_
  refine kn_get C hn (ci := 3) (j := 9) (by decide) (by decide) hP mk_f3_30 rfl rfl mkd3_58 ?_
  refine lv_iconst hx hb (v := Int32.ofInt (-1)) mkd3_61 rfl ?_
  have he : (es ++ (.inr (3, [.int 0, .int 0, .int 0, .int 0, .int 1, .ref (H0.size + (n + 1)), .ref (H0.size + (n + 14)), .ref (H0.size + (n + 27)), .ref (H0.size + (n + 28)), .ref (H0.size + (n + 29))]) :: .inl (cA, 12, .inr (.inr (.inr (.inr (fun j => if j < 12 then some (H0.size + (n + 1) + 1 + j) else none))))) :: (List.replicate 12 (.inl (cI, 9, .inl (fun _ => 0))) ++ (.inl (cA, 12, .inr (.inr (.inr (.inr (fun j => if j < 12 then some (H0.size + (n + 14) + 1 + j) else none))))) :: (List.replicate 12 (.inl (cI, 12, .inl (fun _ => 0))) ++ (.inl (cI, 20, .inl (fun _ => 0)) :: .inl (cI, 20, .inl (fun _ => 0)) :: [.inl (cI, 10, .inl (fun _ => 0))]))))))[n + 29]? = some (.inl (cI, 10, .inl (fun _ => 0))) := kn_at hn rfl
  refine ph_back (va_runS (As := [.ref (H0.size + (n + 29)), .int (Int32.ofInt (-1))]) (rest := []) ⟨C.1, C.2.1, C.2.2.1, C.2.2.2.2.1, C.2.2.2.2.2.1⟩ (fi_met l (cA := cA) (cS := cS) (Int32.ofInt (-1)) he (by decide)) (va_cwS 2 C.2.2.2.2.2.1 fi_good rfl rfl rfl ⟨by decide, by decide, by decide⟩ ⟨(Nat.le_of_ble_eq_true rfl), (Nat.le_of_ble_eq_true rfl)⟩) ⟨kp_blind, fun U hU hW => ⟨rfl, kp_moved hW.alike (by rw [hU]; exact hP) C.2.2.2.2.2.2.1 C.2.2.2.2.2.2.2.2.1 C.2.2.2.2.2.2.2.2.2⟩⟩ rfl rfl hl.1 rfl (lv_room (Nat.le_of_ble_eq_true rfl)) mkd3_62 ⟨(Nat.le_of_ble_eq_true rfl), (Nat.le_of_ble_eq_true rfl)⟩) hlo (fun H locs hP hlo => ?_)
  rw [kn_st hn] at hP
  have hP : PH D H0 (es ++ (.inr (3, [.int 0, .int 0, .int 0, .int 0, .int 1, .ref (H0.size + (n + 1)), .ref (H0.size + (n + 14)), .ref (H0.size + (n + 27)), .ref (H0.size + (n + 28)), .ref (H0.size + (n + 29))]) :: .inl (cA, 12, .inr (.inr (.inr (.inr (fun j => if j < 12 then some (H0.size + (n + 1) + 1 + j) else none))))) :: (List.replicate 12 (.inl (cI, 9, .inl (fun _ => 0))) ++ (.inl (cA, 12, .inr (.inr (.inr (.inr (fun j => if j < 12 then some (H0.size + (n + 14) + 1 + j) else none))))) :: (List.replicate 12 (.inl (cI, 12, .inl (fun _ => 0))) ++ (.inl (cI, 20, .inl (fun _ => 0)) :: .inl (cI, 20, .inl (fun _ => 0)) :: [.inl (cI, 10, .inl (fun _ => Int32.ofInt (-1)))])))))) H := hP
  refine W.eq (g2 := F0 m 65 ls []) rfl ?_
  refine W.widen (k := 29) (n := 326) (Nat.le_of_ble_eq_true rfl) (Nat.le_of_ble_eq_true rfl) ?_
  exact W.vret hx hb B.returns (fun t ht _ => ⟨rfl, by rw [ht]; exact hP⟩) (fun q hq => hlo q hq) mkd3_65 B.notSynchronized
def kcl0 (cI cA : ClassId) (w h n : Nat) : List va_E := .inr (0, [.ref w, .ref (h + (n + 1)), .ref (h + (n + 2)), .ref (h + (n + 3)), .ref (h + (n + 4)), .ref (h + (n + 17)), .ref (h + (n + 30)), .int 0, .int 0, .int 0]) :: .inl (cI, 12, .inl (fun _ => 0)) :: .inl (cI, 12, .inl (fun _ => 0)) :: .inl (cI, 12, .inl (fun _ => 0)) :: .inl (cA, 12, .inr (.inr (.inr (.inr (fun j => if j < 12 then some (h + (n + 4) + 1 + j) else none))))) :: (List.replicate 12 (.inl (cI, 12, .inl (fun _ => 0))) ++ (.inl (cA, 12, .inr (.inr (.inr (.inr (fun j => if j < 12 then some (h + (n + 17) + 1 + j) else none))))) :: (List.replicate 12 (.inl (cI, 12, .inl (fun _ => 0))) ++ ([.inl (cI, 12, .inl (fun _ => 0))]))))
theorem kc_0 (l : Launch) {D : va_G} {cI cA cS : ClassId} {H0 : Heap} {es : List va_E} {n : Nat} {w : Nat} (hn : es.length = n) : Met l mkY0 (mkWs mkW0) { frames := 1, cells := 30, slots := 360, locals := 32 } (va_Pc [.ref (H0.size + n), .ref w] (KP D (mkT cI cA cS) H0 (es ++ [.inr (0, [.null, .null, .null, .null, .null, .null, .null, .int 0, .int 0, .int 0])]))) (KQ D H0 (es ++ kcl0 cI cA w H0.size n)) 30 360 (mkF H0) := by
  refine Met.ofW (cc := mkB0) (maxL := 2) (ret := none) (by decide) rfl ?_
  intro p e s m args below meth c s₁ B hml hv
  obtain ⟨rfl, hC⟩ := hv
  have hown : s.vm.findClass "MeltPins$Melt" = some m.cls := findClass_of_methodNamed B.named
  have hts := atoms_spec (ws := mkWs mkW0) B.pre
  have C : KC D (mkT cI cA cS) H0 p s m _ meth c mkB0 2 "MeltPins$Melt" := mk_kc B.exec B.bytes hml B.notSynchronized hown hts hC
  have hin : meth.name = "<init>" := (name_of_methodNamed B.named B.method).1
  have hx := B.exec
  have hb := B.bytes
  have hlo : ∀ q ∈ ([] : List Loc), H0.size ≤ q.base := fun _ h => by cases h
  have hP := hC.1
  have hP0 := hC.1
  have hl := lv_entry [.ref (H0.size + n), .ref w] (n := 2) (Nat.le_of_ble_eq_true rfl)
  rw [lg_entry_eq]
  generalize (lg_sl [.ref (H0.size + n), .ref w] ++ List.replicate (2 - (lg_sl [.ref (H0.size + n), .ref w]).length) Slot.unset).toArray = ls at hl ⊢
  have hl : lv_has ls 2 [(0, .ref (H0.size + n)), (1, .ref w)] := hl
  refine lv_aload_n hx hb mkd0_0 (i := 0) rfl (lv_at hl 0 rfl) ?_
  refine kn_obj C hl mk_ob0 mkd0_1 (Nat.le_of_ble_eq_true rfl) (Nat.le_of_ble_eq_true rfl) ?_
  refine W.eq (g2 := F0 m 4 ls []) rfl ?_
  refine lv_aload_n hx hb mkd0_4 (i := 0) rfl (lv_at hl 0 rfl) ?_
  refine lv_bipush hx hb (v := 12) mkd0_5 (by decide) ?_
  refine kn_newa C hn (k := 1) rfl rfl hP 12 (by decide) (by decide) (by decide) (Nat.le_of_ble_eq_true rfl) (Nat.le_of_ble_eq_true rfl) mkd0_7 (fun H hP => ?_)
  simp only [List.append_assoc, List.cons_append, List.nil_append, List.append_nil] at hP
  have hP : PH D H0 (es ++ (.inr (0, [.null, .null, .null, .null, .null, .null, .null, .int 0, .int 0, .int 0]) :: [.inl (cI, 12, .inl (fun _ => 0))])) H := hP
  refine kn_put C hn (ci := 0) (j := 1) (by decide) (by decide) hP mk_f0_9 rfl rfl hin rfl rfl (show (1 : Nat) < 10 by decide) hlo mkd0_9 (fun H locs hP hlo _ => ?_)
  have hP : PH D H0 (es ++ (.inr (0, [.null, .ref (H0.size + (n + 1)), .null, .null, .null, .null, .null, .int 0, .int 0, .int 0]) :: [.inl (cI, 12, .inl (fun _ => 0))])) H := hP
  refine lv_aload_n hx hb mkd0_12 (i := 0) rfl (lv_at hl 0 rfl) ?_
  refine lv_bipush hx hb (v := 12) mkd0_13 (by decide) ?_
  refine kn_newa C hn (k := 2) rfl rfl hP 12 (by decide) (by decide) (by decide) (Nat.le_of_ble_eq_true rfl) (Nat.le_of_ble_eq_true rfl) mkd0_15 (fun H hP => ?_)
  simp only [List.append_assoc, List.cons_append, List.nil_append, List.append_nil] at hP
  have hP : PH D H0 (es ++ (.inr (0, [.null, .ref (H0.size + (n + 1)), .null, .null, .null, .null, .null, .int 0, .int 0, .int 0]) :: .inl (cI, 12, .inl (fun _ => 0)) :: [.inl (cI, 12, .inl (fun _ => 0))])) H := hP
  refine kn_put C hn (ci := 0) (j := 2) (by decide) (by decide) hP mk_f0_15 rfl rfl hin rfl rfl (show (2 : Nat) < 10 by decide) hlo mkd0_17 (fun H locs hP hlo _ => ?_)
  have hP : PH D H0 (es ++ (.inr (0, [.null, .ref (H0.size + (n + 1)), .ref (H0.size + (n + 2)), .null, .null, .null, .null, .int 0, .int 0, .int 0]) :: .inl (cI, 12, .inl (fun _ => 0)) :: [.inl (cI, 12, .inl (fun _ => 0))])) H := hP
  refine lv_aload_n hx hb mkd0_20 (i := 0) rfl (lv_at hl 0 rfl) ?_
  refine lv_bipush hx hb (v := 12) mkd0_21 (by decide) ?_
  refine kn_newa C hn (k := 3) rfl rfl hP 12 (by decide) (by decide) (by decide) (Nat.le_of_ble_eq_true rfl) (Nat.le_of_ble_eq_true rfl) mkd0_23 (fun H hP => ?_)
  simp only [List.append_assoc, List.cons_append, List.nil_append, List.append_nil] at hP
  have hP : PH D H0 (es ++ (.inr (0, [.null, .ref (H0.size + (n + 1)), .ref (H0.size + (n + 2)), .null, .null, .null, .null, .int 0, .int 0, .int 0]) :: .inl (cI, 12, .inl (fun _ => 0)) :: .inl (cI, 12, .inl (fun _ => 0)) :: [.inl (cI, 12, .inl (fun _ => 0))])) H := hP
  refine kn_put C hn (ci := 0) (j := 3) (by decide) (by decide) hP mk_f0_18 rfl rfl hin rfl rfl (show (3 : Nat) < 10 by decide) hlo mkd0_25 (fun H locs hP hlo _ => ?_)
  have hP : PH D H0 (es ++ (.inr (0, [.null, .ref (H0.size + (n + 1)), .ref (H0.size + (n + 2)), .ref (H0.size + (n + 3)), .null, .null, .null, .int 0, .int 0, .int 0]) :: .inl (cI, 12, .inl (fun _ => 0)) :: .inl (cI, 12, .inl (fun _ => 0)) :: [.inl (cI, 12, .inl (fun _ => 0))])) H := hP
  refine lv_aload_n hx hb mkd0_28 (i := 0) rfl (lv_at hl 0 rfl) ?_
  refine lv_bipush hx hb (v := 12) mkd0_29 (by decide) ?_
  refine lv_bipush hx hb (v := 12) mkd0_31 (by decide) ?_
  refine kn_mna C hn (k := 4) rfl rfl rfl mk_c0_21 hP (kn_hh hP0 hP) 12 12 (by decide) (by decide) (by decide) (by decide) (by decide) (by decide) (Nat.le_of_ble_eq_true rfl) (Nat.le_of_ble_eq_true rfl) mkd0_33 (fun H hP _ => ?_)
  simp only [List.append_assoc, List.cons_append, List.nil_append, List.append_nil] at hP
  have hP : PH D H0 (es ++ (.inr (0, [.null, .ref (H0.size + (n + 1)), .ref (H0.size + (n + 2)), .ref (H0.size + (n + 3)), .null, .null, .null, .int 0, .int 0, .int 0]) :: .inl (cI, 12, .inl (fun _ => 0)) :: .inl (cI, 12, .inl (fun _ => 0)) :: .inl (cI, 12, .inl (fun _ => 0)) :: .inl (cA, 12, .inr (.inr (.inr (.inr (fun j => if j < 12 then some (H0.size + (n + 4) + 1 + j) else none))))) :: (List.replicate 12 (.inl (cI, 12, .inl (fun _ => 0))) ++ []))) H := hP
  refine kn_put C hn (ci := 0) (j := 4) (by decide) (by decide) hP mk_f0_23 rfl rfl hin rfl rfl (show (4 : Nat) < 10 by decide) hlo mkd0_37 (fun H locs hP hlo _ => ?_)
  have hP : PH D H0 (es ++ (.inr (0, [.null, .ref (H0.size + (n + 1)), .ref (H0.size + (n + 2)), .ref (H0.size + (n + 3)), .ref (H0.size + (n + 4)), .null, .null, .int 0, .int 0, .int 0]) :: .inl (cI, 12, .inl (fun _ => 0)) :: .inl (cI, 12, .inl (fun _ => 0)) :: .inl (cI, 12, .inl (fun _ => 0)) :: .inl (cA, 12, .inr (.inr (.inr (.inr (fun j => if j < 12 then some (H0.size + (n + 4) + 1 + j) else none))))) :: (List.replicate 12 (.inl (cI, 12, .inl (fun _ => 0))) ++ []))) H := hP
  refine lv_aload_n hx hb mkd0_40 (i := 0) rfl (lv_at hl 0 rfl) ?_
  refine lv_bipush hx hb (v := 12) mkd0_41 (by decide) ?_
  refine lv_bipush hx hb (v := 12) mkd0_43 (by decide) ?_
  refine kn_mna C hn (k := 17) rfl rfl rfl mk_c0_21 hP (kn_hh hP0 hP) 12 12 (by decide) (by decide) (by decide) (by decide) (by decide) (by decide) (Nat.le_of_ble_eq_true rfl) (Nat.le_of_ble_eq_true rfl) mkd0_45 (fun H hP _ => ?_)
  simp only [List.append_assoc, List.cons_append, List.nil_append, List.append_nil] at hP
  have hP : PH D H0 (es ++ (.inr (0, [.null, .ref (H0.size + (n + 1)), .ref (H0.size + (n + 2)), .ref (H0.size + (n + 3)), .ref (H0.size + (n + 4)), .null, .null, .int 0, .int 0, .int 0]) :: .inl (cI, 12, .inl (fun _ => 0)) :: .inl (cI, 12, .inl (fun _ => 0)) :: .inl (cI, 12, .inl (fun _ => 0)) :: .inl (cA, 12, .inr (.inr (.inr (.inr (fun j => if j < 12 then some (H0.size + (n + 4) + 1 + j) else none))))) :: (List.replicate 12 (.inl (cI, 12, .inl (fun _ => 0))) ++ (.inl (cA, 12, .inr (.inr (.inr (.inr (fun j => if j < 12 then some (H0.size + (n + 17) + 1 + j) else none))))) :: (List.replicate 12 (.inl (cI, 12, .inl (fun _ => 0))) ++ []))))) H := hP
  refine kn_put C hn (ci := 0) (j := 5) (by decide) (by decide) hP mk_f0_26 rfl rfl hin rfl rfl (show (5 : Nat) < 10 by decide) hlo mkd0_49 (fun H locs hP hlo _ => ?_)
  have hP : PH D H0 (es ++ (.inr (0, [.null, .ref (H0.size + (n + 1)), .ref (H0.size + (n + 2)), .ref (H0.size + (n + 3)), .ref (H0.size + (n + 4)), .ref (H0.size + (n + 17)), .null, .int 0, .int 0, .int 0]) :: .inl (cI, 12, .inl (fun _ => 0)) :: .inl (cI, 12, .inl (fun _ => 0)) :: .inl (cI, 12, .inl (fun _ => 0)) :: .inl (cA, 12, .inr (.inr (.inr (.inr (fun j => if j < 12 then some (H0.size + (n + 4) + 1 + j) else none))))) :: (List.replicate 12 (.inl (cI, 12, .inl (fun _ => 0))) ++ (.inl (cA, 12, .inr (.inr (.inr (.inr (fun j => if j < 12 then some (H0.size + (n + 17) + 1 + j) else none))))) :: (List.replicate 12 (.inl (cI, 12, .inl (fun _ => 0))) ++ []))))) H := hP
  refine lv_aload_n hx hb mkd0_52 (i := 0) rfl (lv_at hl 0 rfl) ?_
  refine lv_bipush hx hb (v := 12) mkd0_53 (by decide) ?_
  refine kn_newa C hn (k := 30) rfl rfl hP 12 (by decide) (by decide) (by decide) (Nat.le_of_ble_eq_true rfl) (Nat.le_of_ble_eq_true rfl) mkd0_55 (fun H hP => ?_)
  simp only [List.append_assoc, List.cons_append, List.nil_append, List.append_nil] at hP
  have hP : PH D H0 (es ++ (.inr (0, [.null, .ref (H0.size + (n + 1)), .ref (H0.size + (n + 2)), .ref (H0.size + (n + 3)), .ref (H0.size + (n + 4)), .ref (H0.size + (n + 17)), .null, .int 0, .int 0, .int 0]) :: .inl (cI, 12, .inl (fun _ => 0)) :: .inl (cI, 12, .inl (fun _ => 0)) :: .inl (cI, 12, .inl (fun _ => 0)) :: .inl (cA, 12, .inr (.inr (.inr (.inr (fun j => if j < 12 then some (H0.size + (n + 4) + 1 + j) else none))))) :: (List.replicate 12 (.inl (cI, 12, .inl (fun _ => 0))) ++ (.inl (cA, 12, .inr (.inr (.inr (.inr (fun j => if j < 12 then some (H0.size + (n + 17) + 1 + j) else none))))) :: (List.replicate 12 (.inl (cI, 12, .inl (fun _ => 0))) ++ ([.inl (cI, 12, .inl (fun _ => 0))])))))) H := hP
  refine kn_put C hn (ci := 0) (j := 6) (by decide) (by decide) hP mk_f0_29 rfl rfl hin rfl rfl (show (6 : Nat) < 10 by decide) hlo mkd0_57 (fun H locs hP hlo _ => ?_)
  have hP : PH D H0 (es ++ (.inr (0, [.null, .ref (H0.size + (n + 1)), .ref (H0.size + (n + 2)), .ref (H0.size + (n + 3)), .ref (H0.size + (n + 4)), .ref (H0.size + (n + 17)), .ref (H0.size + (n + 30)), .int 0, .int 0, .int 0]) :: .inl (cI, 12, .inl (fun _ => 0)) :: .inl (cI, 12, .inl (fun _ => 0)) :: .inl (cI, 12, .inl (fun _ => 0)) :: .inl (cA, 12, .inr (.inr (.inr (.inr (fun j => if j < 12 then some (H0.size + (n + 4) + 1 + j) else none))))) :: (List.replicate 12 (.inl (cI, 12, .inl (fun _ => 0))) ++ (.inl (cA, 12, .inr (.inr (.inr (.inr (fun j => if j < 12 then some (H0.size + (n + 17) + 1 + j) else none))))) :: (List.replicate 12 (.inl (cI, 12, .inl (fun _ => 0))) ++ ([.inl (cI, 12, .inl (fun _ => 0))])))))) H := hP
  refine lv_aload_n hx hb mkd0_60 (i := 0) rfl (lv_at hl 0 rfl) ?_
  refine lv_aload_n hx hb mkd0_61 (i := 1) rfl (lv_at hl 1 rfl) ?_
  refine kn_put C hn (ci := 0) (j := 0) (by decide) (by decide) hP mk_f0_32 rfl rfl hin rfl rfl (show (0 : Nat) < 10 by decide) hlo mkd0_62 (fun H locs hP hlo _ => ?_)
  have hP : PH D H0 (es ++ (.inr (0, [.ref w, .ref (H0.size + (n + 1)), .ref (H0.size + (n + 2)), .ref (H0.size + (n + 3)), .ref (H0.size + (n + 4)), .ref (H0.size + (n + 17)), .ref (H0.size + (n + 30)), .int 0, .int 0, .int 0]) :: .inl (cI, 12, .inl (fun _ => 0)) :: .inl (cI, 12, .inl (fun _ => 0)) :: .inl (cI, 12, .inl (fun _ => 0)) :: .inl (cA, 12, .inr (.inr (.inr (.inr (fun j => if j < 12 then some (H0.size + (n + 4) + 1 + j) else none))))) :: (List.replicate 12 (.inl (cI, 12, .inl (fun _ => 0))) ++ (.inl (cA, 12, .inr (.inr (.inr (.inr (fun j => if j < 12 then some (H0.size + (n + 17) + 1 + j) else none))))) :: (List.replicate 12 (.inl (cI, 12, .inl (fun _ => 0))) ++ ([.inl (cI, 12, .inl (fun _ => 0))])))))) H := hP
  refine W.widen (k := 30) (n := 360) (Nat.le_of_ble_eq_true rfl) (Nat.le_of_ble_eq_true rfl) ?_
  exact W.vret hx hb B.returns (fun t ht _ => ⟨rfl, by rw [ht]; exact hP⟩) (fun q hq => hlo q hq) mkd0_65 B.notSynchronized
