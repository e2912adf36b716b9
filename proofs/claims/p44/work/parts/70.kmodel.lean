/-! MeltPinsModel() -/
def kmF (i : Nat) : Nat → Int32 := fun j => Int32.ofInt (if j = 3 then 1 else if 308 ≤ j ∧ j < 308 + i then -1 else 0)
theorem kmF_0 (j : Nat) : upd (fun _ => (0 : Int32)) (Int32.toNatClampNeg 3) 1 j = kmF 0 j := by
  have e : Int32.toNatClampNeg 3 = 3 := by decide
  unfold upd kmF
  rw [e]
  by_cases h : j = 3
  · rw [if_pos h, if_pos h]; rfl
  · rw [if_neg h, if_neg h, if_neg (by omega)]; rfl
theorem kmF_s (j i : Nat) : upd (kmF i) (308 + i) (Int32.ofInt (-1)) j = kmF (i + 1) j := by
  unfold upd kmF
  by_cases h : j = 308 + i
  · subst h
    rw [if_pos rfl, if_neg (by omega), if_pos (by omega)]
  · rw [if_neg h]
    by_cases h3 : j = 3
    · rw [if_pos h3, if_pos h3]
    · rw [if_neg h3, if_neg h3]
      by_cases h4 : 308 ≤ j ∧ j < 308 + i
      · rw [if_pos h4, if_pos (by omega)]
      · rw [if_neg h4, if_neg (by omega)]
theorem ph_alike0 {D : va_G} {H0 H : Heap} {es t : List va_E} {n N : Nat} {x : va_E} {cI : ClassId} {f g : Nat → Int32} (hn : es.length = n) (h : PH D H0 (es ++ (x :: .inl (cI, N, .inl f) :: t)) H) (hfg : ∀ j, j < N → f j = g j) : PH D H0 (es ++ (x :: .inl (cI, N, .inl g) :: t)) H := by
  have h1 : es ++ (x :: .inl (cI, N, .inl f) :: t) = (es ++ (x :: .inl (cI, N, .inl f) :: t)).set (n + 1) (.inl (cI, N, .inl f)) := by rw [kn_st hn]; rfl
  rw [h1] at h
  have h2 := ph_alike h hfg
  rw [kn_st hn] at h2
  exact h2
def kcl5 (cI : ClassId) (h n : Nat) : List va_E := .inr (5, [.ref (h + (n + 1)), .ref (h + (n + 2)), .int 0, .ref (h + (n + 3)), .int 0, .ref (h + (n + 4)), .int 0, .int 0, .int 0, .int 0, .int 0, .int 0, .ref (h + (n + 5)), .int 0, .int 0, .int 0, .ref (h + (n + 6)), .ref (h + (n + 7)), .ref (h + (n + 8)), .ref (h + (n + 9)), .int 0, .int 0, .ref (h + (n + 10)), .ref (h + (n + 11)), .ref (h + (n + 12)), .ref (h + (n + 13))]) :: .inl (cI, 318, .inl (kmF 10)) :: .inl (cI, 318, .inl (fun _ => 0)) :: .inl (cI, 7, .inl (fun _ => 0)) :: .inl (cI, 120, .inl (fun _ => 0)) :: .inl (cI, 318, .inl (fun _ => 0)) :: .inl (cI, 12, .inl (fun _ => 0)) :: .inl (cI, 12, .inl (fun _ => 0)) :: .inl (cI, 4096, .inl (fun _ => 0)) :: .inl (cI, 50, .inl (fun _ => 0)) :: .inl (cI, 12, .inl (fun _ => 0)) :: .inl (cI, 4, .inl (fun _ => 0)) :: .inl (cI, 4, .inl (fun _ => 0)) :: [.inl (cI, 160, .inl (fun _ => 0))]
theorem kc_5 (l : Launch) {D : va_G} {cI cA cS : ClassId} {H0 : Heap} {es : List va_E} {n : Nat} (hn : es.length = n) : Met l mkY5 (mkWs mkW5) { frames := 1, cells := 13, slots := 5431, locals := 32 } (va_Pc [.ref (H0.size + n)] (KP D (mkT cI cA cS) H0 (es ++ [.inr (5, [.null, .null, .int 0, .null, .int 0, .null, .int 0, .int 0, .int 0, .int 0, .int 0, .int 0, .null, .int 0, .int 0, .int 0, .null, .null, .null, .null, .int 0, .int 0, .null, .null, .null, .null])]))) (KQ D H0 (es ++ kcl5 cI H0.size n)) 13 5431 (mkF H0) := by
  refine Met.ofW (cc := mkB5) (maxL := 2) (ret := none) (by decide) rfl ?_
  intro p e s m args below meth c s₁ B hml hv
  obtain ⟨rfl, hC⟩ := hv
  have hown : s.vm.findClass "MeltPinsModel" = some m.cls := findClass_of_methodNamed B.named
  have hts := atoms_spec (ws := mkWs mkW5) B.pre
  have C : KC D (mkT cI cA cS) H0 p s m _ meth c mkB5 2 "MeltPinsModel" := mk_kc B.exec B.bytes hml B.notSynchronized hown hts hC
  have hin : meth.name = "<init>" := (name_of_methodNamed B.named B.method).1
  have hx := B.exec
  have hb := B.bytes
  have hlo : ∀ q ∈ ([] : List Loc), H0.size ≤ q.base := fun _ h => by cases h
  have hP := hC.1
  have hP0 := hC.1
  have hl := lv_entry [.ref (H0.size + n)] (n := 2) (Nat.le_of_ble_eq_true rfl)
  rw [lg_entry_eq]
  generalize (lg_sl [.ref (H0.size + n)] ++ List.replicate (2 - (lg_sl [.ref (H0.size + n)]).length) Slot.unset).toArray = ls at hl ⊢
  have hl : lv_has ls 2 [(0, .ref (H0.size + n))] := hl
  refine lv_aload_n hx hb mkd5_0 (i := 0) rfl (lv_at hl 0 rfl) ?_
  refine kn_obj C hl mk_ob5 mkd5_1 (Nat.le_of_ble_eq_true rfl) (Nat.le_of_ble_eq_true rfl) ?_
  refine W.eq (g2 := F0 m 4 ls []) rfl ?_
  refine lv_aload_n hx hb mkd5_4 (i := 0) rfl (lv_at hl 0 rfl) ?_
  refine lv_sipush hx hb (v := 318) mkd5_5 (by decide) ?_
  refine kn_newa C hn (k := 1) rfl rfl hP 318 (by decide) (by decide) (by decide) (Nat.le_of_ble_eq_true rfl) (Nat.le_of_ble_eq_true rfl) mkd5_8 (fun H hP => ?_)
  simp only [List.append_assoc, List.cons_append, List.nil_append, List.append_nil] at hP
  have hP : PH D H0 (es ++ (.inr (5, [.null, .null, .int 0, .null, .int 0, .null, .int 0, .int 0, .int 0, .int 0, .int 0, .int 0, .null, .int 0, .int 0, .int 0, .null, .null, .null, .null, .int 0, .int 0, .null, .null, .null, .null]) :: [.inl (cI, 318, .inl (fun _ => 0))])) H := hP
  refine kn_put C hn (ci := 5) (j := 0) (by decide) (by decide) hP mk_f5_9 rfl rfl hin rfl rfl (show (0 : Nat) < 26 by decide) hlo mkd5_10 (fun H locs hP hlo _ => ?_)
  have hP : PH D H0 (es ++ (.inr (5, [.ref (H0.size + (n + 1)), .null, .int 0, .null, .int 0, .null, .int 0, .int 0, .int 0, .int 0, .int 0, .int 0, .null, .int 0, .int 0, .int 0, .null, .null, .null, .null, .int 0, .int 0, .null, .null, .null, .null]) :: [.inl (cI, 318, .inl (fun _ => 0))])) H := hP
  refine lv_aload_n hx hb mkd5_13 (i := 0) rfl (lv_at hl 0 rfl) ?_
  refine lv_sipush hx hb (v := 318) mkd5_14 (by decide) ?_
  refine kn_newa C hn (k := 2) rfl rfl hP 318 (by decide) (by decide) (by decide) (Nat.le_of_ble_eq_true rfl) (Nat.le_of_ble_eq_true rfl) mkd5_17 (fun H hP => ?_)
  simp only [List.append_assoc, List.cons_append, List.nil_append, List.append_nil] at hP
  have hP : PH D H0 (es ++ (.inr (5, [.ref (H0.size + (n + 1)), .null, .int 0, .null, .int 0, .null, .int 0, .int 0, .int 0, .int 0, .int 0, .int 0, .null, .int 0, .int 0, .int 0, .null, .null, .null, .null, .int 0, .int 0, .null, .null, .null, .null]) :: .inl (cI, 318, .inl (fun _ => 0)) :: [.inl (cI, 318, .inl (fun _ => 0))])) H := hP
  refine kn_put C hn (ci := 5) (j := 1) (by decide) (by decide) hP mk_f5_13 rfl rfl hin rfl rfl (show (1 : Nat) < 26 by decide) hlo mkd5_19 (fun H locs hP hlo _ => ?_)
  have hP : PH D H0 (es ++ (.inr (5, [.ref (H0.size + (n + 1)), .ref (H0.size + (n + 2)), .int 0, .null, .int 0, .null, .int 0, .int 0, .int 0, .int 0, .int 0, .int 0, .null, .int 0, .int 0, .int 0, .null, .null, .null, .null, .int 0, .int 0, .null, .null, .null, .null]) :: .inl (cI, 318, .inl (fun _ => 0)) :: [.inl (cI, 318, .inl (fun _ => 0))])) H := hP
  refine lv_aload_n hx hb mkd5_22 (i := 0) rfl (lv_at hl 0 rfl) ?_
  refine lv_bipush hx hb (v := 7) mkd5_23 (by decide) ?_
  refine kn_newa C hn (k := 3) rfl rfl hP 7 (by decide) (by decide) (by decide) (Nat.le_of_ble_eq_true rfl) (Nat.le_of_ble_eq_true rfl) mkd5_25 (fun H hP => ?_)
  simp only [List.append_assoc, List.cons_append, List.nil_append, List.append_nil] at hP
  have hP : PH D H0 (es ++ (.inr (5, [.ref (H0.size + (n + 1)), .ref (H0.size + (n + 2)), .int 0, .null, .int 0, .null, .int 0, .int 0, .int 0, .int 0, .int 0, .int 0, .null, .int 0, .int 0, .int 0, .null, .null, .null, .null, .int 0, .int 0, .null, .null, .null, .null]) :: .inl (cI, 318, .inl (fun _ => 0)) :: .inl (cI, 318, .inl (fun _ => 0)) :: [.inl (cI, 7, .inl (fun _ => 0))])) H := hP
  refine kn_put C hn (ci := 5) (j := 3) (by decide) (by decide) hP mk_f5_16 rfl rfl hin rfl rfl (show (3 : Nat) < 26 by decide) hlo mkd5_27 (fun H locs hP hlo _ => ?_)
  have hP : PH D H0 (es ++ (.inr (5, [.ref (H0.size + (n + 1)), .ref (H0.size + (n + 2)), .int 0, .ref (H0.size + (n + 3)), .int 0, .null, .int 0, .int 0, .int 0, .int 0, .int 0, .int 0, .null, .int 0, .int 0, .int 0, .null, .null, .null, .null, .int 0, .int 0, .null, .null, .null, .null]) :: .inl (cI, 318, .inl (fun _ => 0)) :: .inl (cI, 318, .inl (fun _ => 0)) :: [.inl (cI, 7, .inl (fun _ => 0))])) H := hP
  refine lv_aload_n hx hb mkd5_30 (i := 0) rfl (lv_at hl 0 rfl) ?_
  refine lv_bipush hx hb (v := 120) mkd5_31 (by decide) ?_
  refine kn_newa C hn (k := 4) rfl rfl hP 120 (by decide) (by decide) (by decide) (Nat.le_of_ble_eq_true rfl) (Nat.le_of_ble_eq_true rfl) mkd5_33 (fun H hP => ?_)
  simp only [List.append_assoc, List.cons_append, List.nil_append, List.append_nil] at hP
  have hP : PH D H0 (es ++ (.inr (5, [.ref (H0.size + (n + 1)), .ref (H0.size + (n + 2)), .int 0, .ref (H0.size + (n + 3)), .int 0, .null, .int 0, .int 0, .int 0, .int 0, .int 0, .int 0, .null, .int 0, .int 0, .int 0, .null, .null, .null, .null, .int 0, .int 0, .null, .null, .null, .null]) :: .inl (cI, 318, .inl (fun _ => 0)) :: .inl (cI, 318, .inl (fun _ => 0)) :: .inl (cI, 7, .inl (fun _ => 0)) :: [.inl (cI, 120, .inl (fun _ => 0))])) H := hP
  refine kn_put C hn (ci := 5) (j := 5) (by decide) (by decide) hP mk_f5_19 rfl rfl hin rfl rfl (show (5 : Nat) < 26 by decide) hlo mkd5_35 (fun H locs hP hlo _ => ?_)
  have hP : PH D H0 (es ++ (.inr (5, [.ref (H0.size + (n + 1)), .ref (H0.size + (n + 2)), .int 0, .ref (H0.size + (n + 3)), .int 0, .ref (H0.size + (n + 4)), .int 0, .int 0, .int 0, .int 0, .int 0, .int 0, .null, .int 0, .int 0, .int 0, .null, .null, .null, .null, .int 0, .int 0, .null, .null, .null, .null]) :: .inl (cI, 318, .inl (fun _ => 0)) :: .inl (cI, 318, .inl (fun _ => 0)) :: .inl (cI, 7, .inl (fun _ => 0)) :: [.inl (cI, 120, .inl (fun _ => 0))])) H := hP
  refine lv_aload_n hx hb mkd5_38 (i := 0) rfl (lv_at hl 0 rfl) ?_
  refine lv_sipush hx hb (v := 318) mkd5_39 (by decide) ?_
  refine kn_newa C hn (k := 5) rfl rfl hP 318 (by decide) (by decide) (by decide) (Nat.le_of_ble_eq_true rfl) (Nat.le_of_ble_eq_true rfl) mkd5_42 (fun H hP => ?_)
  simp only [List.append_assoc, List.cons_append, List.nil_append, List.append_nil] at hP
  have hP : PH D H0 (es ++ (.inr (5, [.ref (H0.size + (n + 1)), .ref (H0.size + (n + 2)), .int 0, .ref (H0.size + (n + 3)), .int 0, .ref (H0.size + (n + 4)), .int 0, .int 0, .int 0, .int 0, .int 0, .int 0, .null, .int 0, .int 0, .int 0, .null, .null, .null, .null, .int 0, .int 0, .null, .null, .null, .null]) :: .inl (cI, 318, .inl (fun _ => 0)) :: .inl (cI, 318, .inl (fun _ => 0)) :: .inl (cI, 7, .inl (fun _ => 0)) :: .inl (cI, 120, .inl (fun _ => 0)) :: [.inl (cI, 318, .inl (fun _ => 0))])) H := hP
  refine kn_put C hn (ci := 5) (j := 12) (by decide) (by decide) hP mk_f5_22 rfl rfl hin rfl rfl (show (12 : Nat) < 26 by decide) hlo mkd5_44 (fun H locs hP hlo _ => ?_)
  have hP : PH D H0 (es ++ (.inr (5, [.ref (H0.size + (n + 1)), .ref (H0.size + (n + 2)), .int 0, .ref (H0.size + (n + 3)), .int 0, .ref (H0.size + (n + 4)), .int 0, .int 0, .int 0, .int 0, .int 0, .int 0, .ref (H0.size + (n + 5)), .int 0, .int 0, .int 0, .null, .null, .null, .null, .int 0, .int 0, .null, .null, .null, .null]) :: .inl (cI, 318, .inl (fun _ => 0)) :: .inl (cI, 318, .inl (fun _ => 0)) :: .inl (cI, 7, .inl (fun _ => 0)) :: .inl (cI, 120, .inl (fun _ => 0)) :: [.inl (cI, 318, .inl (fun _ => 0))])) H := hP
  refine lv_aload_n hx hb mkd5_47 (i := 0) rfl (lv_at hl 0 rfl) ?_
  refine lv_bipush hx hb (v := 12) mkd5_48 (by decide) ?_
  refine kn_newa C hn (k := 6) rfl rfl hP 12 (by decide) (by decide) (by decide) (Nat.le_of_ble_eq_true rfl) (Nat.le_of_ble_eq_true rfl) mkd5_50 (fun H hP => ?_)
  simp only [List.append_assoc, List.cons_append, List.nil_append, List.append_nil] at hP
  have hP : PH D H0 (es ++ (.inr (5, [.ref (H0.size + (n + 1)), .ref (H0.size + (n + 2)), .int 0, .ref (H0.size + (n + 3)), .int 0, .ref (H0.size + (n + 4)), .int 0, .int 0, .int 0, .int 0, .int 0, .int 0, .ref (H0.size + (n + 5)), .int 0, .int 0, .int 0, .null, .null, .null, .null, .int 0, .int 0, .null, .null, .null, .null]) :: .inl (cI, 318, .inl (fun _ => 0)) :: .inl (cI, 318, .inl (fun _ => 0)) :: .inl (cI, 7, .inl (fun _ => 0)) :: .inl (cI, 120, .inl (fun _ => 0)) :: .inl (cI, 318, .inl (fun _ => 0)) :: [.inl (cI, 12, .inl (fun _ => 0))])) H := hP
  refine kn_put C hn (ci := 5) (j := 16) (by decide) (by decide) hP mk_f5_25 rfl rfl hin rfl rfl (show (16 : Nat) < 26 by decide) hlo mkd5_52 (fun H locs hP hlo _ => ?_)
  have hP : PH D H0 (es ++ (.inr (5, [.ref (H0.size + (n + 1)), .ref (H0.size + (n + 2)), .int 0, .ref (H0.size + (n + 3)), .int 0, .ref (H0.size + (n + 4)), .int 0, .int 0, .int 0, .int 0, .int 0, .int 0, .ref (H0.size + (n + 5)), .int 0, .int 0, .int 0, .ref (H0.size + (n + 6)), .null, .null, .null, .int 0, .int 0, .null, .null, .null, .null]) :: .inl (cI, 318, .inl (fun _ => 0)) :: .inl (cI, 318, .inl (fun _ => 0)) :: .inl (cI, 7, .inl (fun _ => 0)) :: .inl (cI, 120, .inl (fun _ => 0)) :: .inl (cI, 318, .inl (fun _ => 0)) :: [.inl (cI, 12, .inl (fun _ => 0))])) H := hP
  refine lv_aload_n hx hb mkd5_55 (i := 0) rfl (lv_at hl 0 rfl) ?_
  refine lv_bipush hx hb (v := 12) mkd5_56 (by decide) ?_
  refine kn_newa C hn (k := 7) rfl rfl hP 12 (by decide) (by decide) (by decide) (Nat.le_of_ble_eq_true rfl) (Nat.le_of_ble_eq_true rfl) mkd5_58 (fun H hP => ?_)
  simp only [List.append_assoc, List.cons_append, List.nil_append, List.append_nil] at hP
  have hP : PH D H0 (es ++ (.inr (5, [.ref (H0.size + (n + 1)), .ref (H0.size + (n + 2)), .int 0, .ref (H0.size + (n + 3)), .int 0, .ref (H0.size + (n + 4)), .int 0, .int 0, .int 0, .int 0, .int 0, .int 0, .ref (H0.size + (n + 5)), .int 0, .int 0, .int 0, .ref (H0.size + (n + 6)), .null, .null, .null, .int 0, .int 0, .null, .null, .null, .null]) :: .inl (cI, 318, .inl (fun _ => 0)) :: .inl (cI, 318, .inl (fun _ => 0)) :: .inl (cI, 7, .inl (fun _ => 0)) :: .inl (cI, 120, .inl (fun _ => 0)) :: .inl (cI, 318, .inl (fun _ => 0)) :: .inl (cI, 12, .inl (fun _ => 0)) :: [.inl (cI, 12, .inl (fun _ => 0))])) H := hP
  refine kn_put C hn (ci := 5) (j := 17) (by decide) (by decide) hP mk_f5_28 rfl rfl hin rfl rfl (show (17 : Nat) < 26 by decide) hlo mkd5_60 (fun H locs hP hlo _ => ?_)
  have hP : PH D H0 (es ++ (.inr (5, [.ref (H0.size + (n + 1)), .ref (H0.size + (n + 2)), .int 0, .ref (H0.size + (n + 3)), .int 0, .ref (H0.size + (n + 4)), .int 0, .int 0, .int 0, .int 0, .int 0, .int 0, .ref (H0.size + (n + 5)), .int 0, .int 0, .int 0, .ref (H0.size + (n + 6)), .ref (H0.size + (n + 7)), .null, .null, .int 0, .int 0, .null, .null, .null, .null]) :: .inl (cI, 318, .inl (fun _ => 0)) :: .inl (cI, 318, .inl (fun _ => 0)) :: .inl (cI, 7, .inl (fun _ => 0)) :: .inl (cI, 120, .inl (fun _ => 0)) :: .inl (cI, 318, .inl (fun _ => 0)) :: .inl (cI, 12, .inl (fun _ => 0)) :: [.inl (cI, 12, .inl (fun _ => 0))])) H := hP
  refine lv_aload_n hx hb mkd5_63 (i := 0) rfl (lv_at hl 0 rfl) ?_
  refine lv_sipush hx hb (v := 4096) mkd5_64 (by decide) ?_
  refine kn_newa C hn (k := 8) rfl rfl hP 4096 (by decide) (by decide) (by decide) (Nat.le_of_ble_eq_true rfl) (Nat.le_of_ble_eq_true rfl) mkd5_67 (fun H hP => ?_)
  simp only [List.append_assoc, List.cons_append, List.nil_append, List.append_nil] at hP
  have hP : PH D H0 (es ++ (.inr (5, [.ref (H0.size + (n + 1)), .ref (H0.size + (n + 2)), .int 0, .ref (H0.size + (n + 3)), .int 0, .ref (H0.size + (n + 4)), .int 0, .int 0, .int 0, .int 0, .int 0, .int 0, .ref (H0.size + (n + 5)), .int 0, .int 0, .int 0, .ref (H0.size + (n + 6)), .ref (H0.size + (n + 7)), .null, .null, .int 0, .int 0, .null, .null, .null, .null]) :: .inl (cI, 318, .inl (fun _ => 0)) :: .inl (cI, 318, .inl (fun _ => 0)) :: .inl (cI, 7, .inl (fun _ => 0)) :: .inl (cI, 120, .inl (fun _ => 0)) :: .inl (cI, 318, .inl (fun _ => 0)) :: .inl (cI, 12, .inl (fun _ => 0)) :: .inl (cI, 12, .inl (fun _ => 0)) :: [.inl (cI, 4096, .inl (fun _ => 0))])) H := hP
  refine kn_put C hn (ci := 5) (j := 18) (by decide) (by decide) hP mk_f5_31 rfl rfl hin rfl rfl (show (18 : Nat) < 26 by decide) hlo mkd5_69 (fun H locs hP hlo _ => ?_)
  have hP : PH D H0 (es ++ (.inr (5, [.ref (H0.size + (n + 1)), .ref (H0.size + (n + 2)), .int 0, .ref (H0.size + (n + 3)), .int 0, .ref (H0.size + (n + 4)), .int 0, .int 0, .int 0, .int 0, .int 0, .int 0, .ref (H0.size + (n + 5)), .int 0, .int 0, .int 0, .ref (H0.size + (n + 6)), .ref (H0.size + (n + 7)), .ref (H0.size + (n + 8)), .null, .int 0, .int 0, .null, .null, .null, .null]) :: .inl (cI, 318, .inl (fun _ => 0)) :: .inl (cI, 318, .inl (fun _ => 0)) :: .inl (cI, 7, .inl (fun _ => 0)) :: .inl (cI, 120, .inl (fun _ => 0)) :: .inl (cI, 318, .inl (fun _ => 0)) :: .inl (cI, 12, .inl (fun _ => 0)) :: .inl (cI, 12, .inl (fun _ => 0)) :: [.inl (cI, 4096, .inl (fun _ => 0))])) H := hP
  refine lv_aload_n hx hb mkd5_72 (i := 0) rfl (lv_at hl 0 rfl) ?_
  refine lv_bipush hx hb (v := 50) mkd5_73 (by decide) ?_
  refine kn_newa C hn (k := 9) rfl rfl hP 50 (by decide) (by decide) (by decide) (Nat.le_of_ble_eq_true rfl) (Nat.le_of_ble_eq_true rfl) mkd5_75 (fun H hP => ?_)
  simp only [List.append_assoc, List.cons_append, List.nil_append, List.append_nil] at hP
  have hP : PH D H0 (es ++ (.inr (5, [.ref (H0.size + (n + 1)), .ref (H0.size + (n + 2)), .int 0, .ref (H0.size + (n + 3)), .int 0, .ref (H0.size + (n + 4)), .int 0, .int 0, .int 0, .int 0, .int 0, .int 0, .ref (H0.size + (n + 5)), .int 0, .int 0, .int 0, .ref (H0.size + (n + 6)), .ref (H0.size + (n + 7)), .ref (H0.size + (n + 8)), .null, .int 0, .int 0, .null, .null, .null, .null]) :: .inl (cI, 318, .inl (fun _ => 0)) :: .inl (cI, 318, .inl (fun _ => 0)) :: .inl (cI, 7, .inl (fun _ => 0)) :: .inl (cI, 120, .inl (fun _ => 0)) :: .inl (cI, 318, .inl (fun _ => 0)) :: .inl (cI, 12, .inl (fun _ => 0)) :: .inl (cI, 12, .inl (fun _ => 0)) :: .inl (cI, 4096, .inl (fun _ => 0)) :: [.inl (cI, 50, .inl (fun _ => 0))])) H := hP
  refine kn_put C hn (ci := 5) (j := 19) (by decide) (by decide) hP mk_f5_34 rfl rfl hin rfl rfl (show (19 : Nat) < 26 by decide) hlo mkd5_77 (fun H locs hP hlo _ => ?_)
  have hP : PH D H0 (es ++ (.inr (5, [.ref (H0.size + (n + 1)), .ref (H0.size + (n + 2)), .int 0, .ref (H0.size + (n + 3)), .int 0, .ref (H0.size + (n + 4)), .int 0, .int 0, .int 0, .int 0, .int 0, .int 0, .ref (H0.size + (n + 5)), .int 0, .int 0, .int 0, .ref (H0.size + (n + 6)), .ref (H0.size + (n + 7)), .ref (H0.size + (n + 8)), .ref (H0.size + (n + 9)), .int 0, .int 0, .null, .null, .null, .null]) :: .inl (cI, 318, .inl (fun _ => 0)) :: .inl (cI, 318, .inl (fun _ => 0)) :: .inl (cI, 7, .inl (fun _ => 0)) :: .inl (cI, 120, .inl (fun _ => 0)) :: .inl (cI, 318, .inl (fun _ => 0)) :: .inl (cI, 12, .inl (fun _ => 0)) :: .inl (cI, 12, .inl (fun _ => 0)) :: .inl (cI, 4096, .inl (fun _ => 0)) :: [.inl (cI, 50, .inl (fun _ => 0))])) H := hP
  refine lv_aload_n hx hb mkd5_80 (i := 0) rfl (lv_at hl 0 rfl) ?_
  refine lv_bipush hx hb (v := 12) mkd5_81 (by decide) ?_
  refine kn_newa C hn (k := 10) rfl rfl hP 12 (by decide) (by decide) (by decide) (Nat.le_of_ble_eq_true rfl) (Nat.le_of_ble_eq_true rfl) mkd5_83 (fun H hP => ?_)
  simp only [List.append_assoc, List.cons_append, List.nil_append, List.append_nil] at hP
  have hP : PH D H0 (es ++ (.inr (5, [.ref (H0.size + (n + 1)), .ref (H0.size + (n + 2)), .int 0, .ref (H0.size + (n + 3)), .int 0, .ref (H0.size + (n + 4)), .int 0, .int 0, .int 0, .int 0, .int 0, .int 0, .ref (H0.size + (n + 5)), .int 0, .int 0, .int 0, .ref (H0.size + (n + 6)), .ref (H0.size + (n + 7)), .ref (H0.size + (n + 8)), .ref (H0.size + (n + 9)), .int 0, .int 0, .null, .null, .null, .null]) :: .inl (cI, 318, .inl (fun _ => 0)) :: .inl (cI, 318, .inl (fun _ => 0)) :: .inl (cI, 7, .inl (fun _ => 0)) :: .inl (cI, 120, .inl (fun _ => 0)) :: .inl (cI, 318, .inl (fun _ => 0)) :: .inl (cI, 12, .inl (fun _ => 0)) :: .inl (cI, 12, .inl (fun _ => 0)) :: .inl (cI, 4096, .inl (fun _ => 0)) :: .inl (cI, 50, .inl (fun _ => 0)) :: [.inl (cI, 12, .inl (fun _ => 0))])) H := hP
  refine kn_put C hn (ci := 5) (j := 22) (by decide) (by decide) hP mk_f5_37 rfl rfl hin rfl rfl (show (22 : Nat) < 26 by decide) hlo mkd5_85 (fun H locs hP hlo _ => ?_)
  have hP : PH D H0 (es ++ (.inr (5, [.ref (H0.size + (n + 1)), .ref (H0.size + (n + 2)), .int 0, .ref (H0.size + (n + 3)), .int 0, .ref (H0.size + (n + 4)), .int 0, .int 0, .int 0, .int 0, .int 0, .int 0, .ref (H0.size + (n + 5)), .int 0, .int 0, .int 0, .ref (H0.size + (n + 6)), .ref (H0.size + (n + 7)), .ref (H0.size + (n + 8)), .ref (H0.size + (n + 9)), .int 0, .int 0, .ref (H0.size + (n + 10)), .null, .null, .null]) :: .inl (cI, 318, .inl (fun _ => 0)) :: .inl (cI, 318, .inl (fun _ => 0)) :: .inl (cI, 7, .inl (fun _ => 0)) :: .inl (cI, 120, .inl (fun _ => 0)) :: .inl (cI, 318, .inl (fun _ => 0)) :: .inl (cI, 12, .inl (fun _ => 0)) :: .inl (cI, 12, .inl (fun _ => 0)) :: .inl (cI, 4096, .inl (fun _ => 0)) :: .inl (cI, 50, .inl (fun _ => 0)) :: [.inl (cI, 12, .inl (fun _ => 0))])) H := hP
  refine lv_aload_n hx hb mkd5_88 (i := 0) rfl (lv_at hl 0 rfl) ?_
  refine lv_iconst hx hb (v := 4) mkd5_89 (by decide) ?_
  refine kn_newa C hn (k := 11) rfl rfl hP 4 (by decide) (by decide) (by decide) (Nat.le_of_ble_eq_true rfl) (Nat.le_of_ble_eq_true rfl) mkd5_90 (fun H hP => ?_)
  simp only [List.append_assoc, List.cons_append, List.nil_append, List.append_nil] at hP
  have hP : PH D H0 (es ++ (.inr (5, [.ref (H0.size + (n + 1)), .ref (H0.size + (n + 2)), .int 0, .ref (H0.size + (n + 3)), .int 0, .ref (H0.size + (n + 4)), .int 0, .int 0, .int 0, .int 0, .int 0, .int 0, .ref (H0.size + (n + 5)), .int 0, .int 0, .int 0, .ref (H0.size + (n + 6)), .ref (H0.size + (n + 7)), .ref (H0.size + (n + 8)), .ref (H0.size + (n + 9)), .int 0, .int 0, .ref (H0.size + (n + 10)), .null, .null, .null]) :: .inl (cI, 318, .inl (fun _ => 0)) :: .inl (cI, 318, .inl (fun _ => 0)) :: .inl (cI, 7, .inl (fun _ => 0)) :: .inl (cI, 120, .inl (fun _ => 0)) :: .inl (cI, 318, .inl (fun _ => 0)) :: .inl (cI, 12, .inl (fun _ => 0)) :: .inl (cI, 12, .inl (fun _ => 0)) :: .inl (cI, 4096, .inl (fun _ => 0)) :: .inl (cI, 50, .inl (fun _ => 0)) :: .inl (cI, 12, .inl (fun _ => 0)) :: [.inl (cI, 4, .inl (fun _ => 0))])) H := hP
  refine kn_put C hn (ci := 5) (j := 23) (by decide) (by decide) hP mk_f5_40 rfl rfl hin rfl rfl (show (23 : Nat) < 26 by decide) hlo mkd5_92 (fun H locs hP hlo _ => ?_)
  have hP : PH D H0 (es ++ (.inr (5, [.ref (H0.size + (n + 1)), .ref (H0.size + (n + 2)), .int 0, .ref (H0.size + (n + 3)), .int 0, .ref (H0.size + (n + 4)), .int 0, .int 0, .int 0, .int 0, .int 0, .int 0, .ref (H0.size + (n + 5)), .int 0, .int 0, .int 0, .ref (H0.size + (n + 6)), .ref (H0.size + (n + 7)), .ref (H0.size + (n + 8)), .ref (H0.size + (n + 9)), .int 0, .int 0, .ref (H0.size + (n + 10)), .ref (H0.size + (n + 11)), .null, .null]) :: .inl (cI, 318, .inl (fun _ => 0)) :: .inl (cI, 318, .inl (fun _ => 0)) :: .inl (cI, 7, .inl (fun _ => 0)) :: .inl (cI, 120, .inl (fun _ => 0)) :: .inl (cI, 318, .inl (fun _ => 0)) :: .inl (cI, 12, .inl (fun _ => 0)) :: .inl (cI, 12, .inl (fun _ => 0)) :: .inl (cI, 4096, .inl (fun _ => 0)) :: .inl (cI, 50, .inl (fun _ => 0)) :: .inl (cI, 12, .inl (fun _ => 0)) :: [.inl (cI, 4, .inl (fun _ => 0))])) H := hP
  refine lv_aload_n hx hb mkd5_95 (i := 0) rfl (lv_at hl 0 rfl) ?_
  refine lv_iconst hx hb (v := 4) mkd5_96 (by decide) ?_
  refine kn_newa C hn (k := 12) rfl rfl hP 4 (by decide) (by decide) (by decide) (Nat.le_of_ble_eq_true rfl) (Nat.le_of_ble_eq_true rfl) mkd5_97 (fun H hP => ?_)
  simp only [List.append_assoc, List.cons_append, List.nil_append, List.append_nil] at hP
  have hP : PH D H0 (es ++ (.inr (5, [.ref (H0.size + (n + 1)), .ref (H0.size + (n + 2)), .int 0, .ref (H0.size + (n + 3)), .int 0, .ref (H0.size + (n + 4)), .int 0, .int 0, .int 0, .int 0, .int 0, .int 0, .ref (H0.size + (n + 5)), .int 0, .int 0, .int 0, .ref (H0.size + (n + 6)), .ref (H0.size + (n + 7)), .ref (H0.size + (n + 8)), .ref (H0.size + (n + 9)), .int 0, .int 0, .ref (H0.size + (n + 10)), .ref (H0.size + (n + 11)), .null, .null]) :: .inl (cI, 318, .inl (fun _ => 0)) :: .inl (cI, 318, .inl (fun _ => 0)) :: .inl (cI, 7, .inl (fun _ => 0)) :: .inl (cI, 120, .inl (fun _ => 0)) :: .inl (cI, 318, .inl (fun _ => 0)) :: .inl (cI, 12, .inl (fun _ => 0)) :: .inl (cI, 12, .inl (fun _ => 0)) :: .inl (cI, 4096, .inl (fun _ => 0)) :: .inl (cI, 50, .inl (fun _ => 0)) :: .inl (cI, 12, .inl (fun _ => 0)) :: .inl (cI, 4, .inl (fun _ => 0)) :: [.inl (cI, 4, .inl (fun _ => 0))])) H := hP
  refine kn_put C hn (ci := 5) (j := 24) (by decide) (by decide) hP mk_f5_43 rfl rfl hin rfl rfl (show (24 : Nat) < 26 by decide) hlo mkd5_99 (fun H locs hP hlo _ => ?_)
  have hP : PH D H0 (es ++ (.inr (5, [.ref (H0.size + (n + 1)), .ref (H0.size + (n + 2)), .int 0, .ref (H0.size + (n + 3)), .int 0, .ref (H0.size + (n + 4)), .int 0, .int 0, .int 0, .int 0, .int 0, .int 0, .ref (H0.size + (n + 5)), .int 0, .int 0, .int 0, .ref (H0.size + (n + 6)), .ref (H0.size + (n + 7)), .ref (H0.size + (n + 8)), .ref (H0.size + (n + 9)), .int 0, .int 0, .ref (H0.size + (n + 10)), .ref (H0.size + (n + 11)), .ref (H0.size + (n + 12)), .null]) :: .inl (cI, 318, .inl (fun _ => 0)) :: .inl (cI, 318, .inl (fun _ => 0)) :: .inl (cI, 7, .inl (fun _ => 0)) :: .inl (cI, 120, .inl (fun _ => 0)) :: .inl (cI, 318, .inl (fun _ => 0)) :: .inl (cI, 12, .inl (fun _ => 0)) :: .inl (cI, 12, .inl (fun _ => 0)) :: .inl (cI, 4096, .inl (fun _ => 0)) :: .inl (cI, 50, .inl (fun _ => 0)) :: .inl (cI, 12, .inl (fun _ => 0)) :: .inl (cI, 4, .inl (fun _ => 0)) :: [.inl (cI, 4, .inl (fun _ => 0))])) H := hP
  refine lv_aload_n hx hb mkd5_102 (i := 0) rfl (lv_at hl 0 rfl) ?_
  refine lv_sipush hx hb (v := 160) mkd5_103 (by decide) ?_
  refine kn_newa C hn (k := 13) rfl rfl hP 160 (by decide) (by decide) (by decide) (Nat.le_of_ble_eq_true rfl) (Nat.le_of_ble_eq_true rfl) mkd5_106 (fun H hP => ?_)
  simp only [List.append_assoc, List.cons_append, List.nil_append, List.append_nil] at hP
  have hP : PH D H0 (es ++ (.inr (5, [.ref (H0.size + (n + 1)), .ref (H0.size + (n + 2)), .int 0, .ref (H0.size + (n + 3)), .int 0, .ref (H0.size + (n + 4)), .int 0, .int 0, .int 0, .int 0, .int 0, .int 0, .ref (H0.size + (n + 5)), .int 0, .int 0, .int 0, .ref (H0.size + (n + 6)), .ref (H0.size + (n + 7)), .ref (H0.size + (n + 8)), .ref (H0.size + (n + 9)), .int 0, .int 0, .ref (H0.size + (n + 10)), .ref (H0.size + (n + 11)), .ref (H0.size + (n + 12)), .null]) :: .inl (cI, 318, .inl (fun _ => 0)) :: .inl (cI, 318, .inl (fun _ => 0)) :: .inl (cI, 7, .inl (fun _ => 0)) :: .inl (cI, 120, .inl (fun _ => 0)) :: .inl (cI, 318, .inl (fun _ => 0)) :: .inl (cI, 12, .inl (fun _ => 0)) :: .inl (cI, 12, .inl (fun _ => 0)) :: .inl (cI, 4096, .inl (fun _ => 0)) :: .inl (cI, 50, .inl (fun _ => 0)) :: .inl (cI, 12, .inl (fun _ => 0)) :: .inl (cI, 4, .inl (fun _ => 0)) :: .inl (cI, 4, .inl (fun _ => 0)) :: [.inl (cI, 160, .inl (fun _ => 0))])) H := hP
  refine kn_put C hn (ci := 5) (j := 25) (by decide) (by decide) hP mk_f5_46 rfl rfl hin rfl rfl (show (25 : Nat) < 26 by decide) hlo mkd5_108 (fun H locs hP hlo _ => ?_)
  have hP : PH D H0 (es ++ (.inr (5, [.ref (H0.size + (n + 1)), .ref (H0.size + (n + 2)), .int 0, .ref (H0.size + (n + 3)), .int 0, .ref (H0.size + (n + 4)), .int 0, .int 0, .int 0, .int 0, .int 0, .int 0, .ref (H0.size + (n + 5)), .int 0, .int 0, .int 0, .ref (H0.size + (n + 6)), .ref (H0.size + (n + 7)), .ref (H0.size + (n + 8)), .ref (H0.size + (n + 9)), .int 0, .int 0, .ref (H0.size + (n + 10)), .ref (H0.size + (n + 11)), .ref (H0.size + (n + 12)), .ref (H0.size + (n + 13))]) :: .inl (cI, 318, .inl (fun _ => 0)) :: .inl (cI, 318, .inl (fun _ => 0)) :: .inl (cI, 7, .inl (fun _ => 0)) :: .inl (cI, 120, .inl (fun _ => 0)) :: .inl (cI, 318, .inl (fun _ => 0)) :: .inl (cI, 12, .inl (fun _ => 0)) :: .inl (cI, 12, .inl (fun _ => 0)) :: .inl (cI, 4096, .inl (fun _ => 0)) :: .inl (cI, 50, .inl (fun _ => 0)) :: .inl (cI, 12, .inl (fun _ => 0)) :: .inl (cI, 4, .inl (fun _ => 0)) :: .inl (cI, 4, .inl (fun _ => 0)) :: [.inl (cI, 160, .inl (fun _ => 0))])) H := hP
  refine lv_aload_n hx hb mkd5_111 (i := 0) rfl (lv_at hl 0 rfl) ?_
  refine kn_get C hn (ci := 5) (j := 0) (by decide) (by decide) hP mk_f5_9 rfl rfl mkd5_112 ?_
  refine lv_iconst hx hb (v := 3) mkd5_115 (by decide) ?_
  refine lv_iconst hx hb (v := 1) mkd5_116 (by decide) ?_
  refine ph_iast C rfl hP (kn_at hn (k := 1) rfl) (by unfold vp_in; decide) hlo mkd5_117 (fun H locs hP hlo => ?_)
  rw [kn_st hn] at hP
  have hP : PH D H0 (es ++ (.inr (5, [.ref (H0.size + (n + 1)), .ref (H0.size + (n + 2)), .int 0, .ref (H0.size + (n + 3)), .int 0, .ref (H0.size + (n + 4)), .int 0, .int 0, .int 0, .int 0, .int 0, .int 0, .ref (H0.size + (n + 5)), .int 0, .int 0, .int 0, .ref (H0.size + (n + 6)), .ref (H0.size + (n + 7)), .ref (H0.size + (n + 8)), .ref (H0.size + (n + 9)), .int 0, .int 0, .ref (H0.size + (n + 10)), .ref (H0.size + (n + 11)), .ref (H0.size + (n + 12)), .ref (H0.size + (n + 13))]) :: .inl (cI, 318, .inl (kmF 0)) :: .inl (cI, 318, .inl (fun _ => 0)) :: .inl (cI, 7, .inl (fun _ => 0)) :: .inl (cI, 120, .inl (fun _ => 0)) :: .inl (cI, 318, .inl (fun _ => 0)) :: .inl (cI, 12, .inl (fun _ => 0)) :: .inl (cI, 12, .inl (fun _ => 0)) :: .inl (cI, 4096, .inl (fun _ => 0)) :: .inl (cI, 50, .inl (fun _ => 0)) :: .inl (cI, 12, .inl (fun _ => 0)) :: .inl (cI, 4, .inl (fun _ => 0)) :: .inl (cI, 4, .inl (fun _ => 0)) :: [.inl (cI, 160, .inl (fun _ => 0))])) H := ph_alike0 hn hP (fun j _ => kmF_0 j)
  refine lv_iconst hx hb (v := 0) mkd5_118 (by decide) ?_
  refine lv_istore_n hx hb (i := 1) mkd5_119 rfl hl (by decide) rfl (fun ls hl => ?_)
  have hl : lv_has ls 2 [(1, .int 0), (0, .ref (H0.size + n))] := hl
  refine W.widen (k := 13) (n := 5431) (Nat.le_of_ble_eq_true rfl) (Nat.le_of_ble_eq_true rfl) ?_
  have loop : ∀ (r i : Nat), r + i = 10 → ∀ (H : Heap) (locs : List Loc) (ls : Array Slot), PH D H0 (es ++ (.inr (5, [.ref (H0.size + (n + 1)), .ref (H0.size + (n + 2)), .int 0, .ref (H0.size + (n + 3)), .int 0, .ref (H0.size + (n + 4)), .int 0, .int 0, .int 0, .int 0, .int 0, .int 0, .ref (H0.size + (n + 5)), .int 0, .int 0, .int 0, .ref (H0.size + (n + 6)), .ref (H0.size + (n + 7)), .ref (H0.size + (n + 8)), .ref (H0.size + (n + 9)), .int 0, .int 0, .ref (H0.size + (n + 10)), .ref (H0.size + (n + 11)), .ref (H0.size + (n + 12)), .ref (H0.size + (n + 13))]) :: .inl (cI, 318, .inl (kmF i)) :: .inl (cI, 318, .inl (fun _ => 0)) :: .inl (cI, 7, .inl (fun _ => 0)) :: .inl (cI, 120, .inl (fun _ => 0)) :: .inl (cI, 318, .inl (fun _ => 0)) :: .inl (cI, 12, .inl (fun _ => 0)) :: .inl (cI, 12, .inl (fun _ => 0)) :: .inl (cI, 4096, .inl (fun _ => 0)) :: .inl (cI, 50, .inl (fun _ => 0)) :: .inl (cI, 12, .inl (fun _ => 0)) :: .inl (cI, 4, .inl (fun _ => 0)) :: .inl (cI, 4, .inl (fun _ => 0)) :: [.inl (cI, 160, .inl (fun _ => 0))])) H → (∀ q ∈ locs, H0.size ≤ q.base) → lv_has ls 2 [(1, .int (nI i)), (0, .ref (H0.size + n))] → W p l e (headSpec (mkWs mkW5) { frames := 1, cells := 13, slots := 5431, locals := 32 }).room s m [.ref (H0.size + n)].toArray below meth c H locs 13 5431 (MQ below (KQ D H0 (es ++ kcl5 cI H0.size n)) [.ref (H0.size + n)].toArray s 13 5431 (mkF H0)) (F0 m 120 ls []) := by
    intro r
    induction r with
    | zero =>
      intro i hi H locs ls hP hlo hl
      have e : i = 10 := by omega
      subst e
      refine lv_iload_n hx hb mkd5_120 (i := 1) rfl (lv_at hl 0 rfl) ?_
      refine lv_bipush hx hb (v := nI 10) mkd5_121 (by decide) ?_
      refine lv_icmp_ge hx hb (tgt := 143) mkd5_123 (by decide) (fun _ => ?_) (fun z => absurd (by decide) z)
      exact W.vret hx hb B.returns (fun t ht _ => ⟨rfl, by rw [ht]; exact hP⟩) (fun q hq => hlo q hq) mkd5_143 B.notSynchronized
    | succ r ih =>
      intro i hi H locs ls hP hlo hl
      refine lv_iload_n hx hb mkd5_120 (i := 1) rfl (lv_at hl 0 rfl) ?_
      refine lv_bipush hx hb (v := nI 10) mkd5_121 (by decide) ?_
      refine lv_icmp_ge hx hb (tgt := 143) mkd5_123 (by decide) (fun z => absurd z (nI_ge (by omega) (by omega))) (fun _ => ?_)
      refine lv_aload_n hx hb mkd5_126 (i := 0) rfl (lv_at hl 1 rfl) ?_
      refine kn_get C hn (ci := 5) (j := 0) (by decide) (by decide) hP mk_f5_9 rfl rfl mkd5_127 ?_
      refine lv_sipush hx hb (v := nI 308) mkd5_130 (by decide) ?_
      refine lv_iload_n hx hb mkd5_133 (i := 1) rfl (lv_at hl 0 rfl) ?_
      refine lv_iadd hx hb mkd5_134 ?_
      refine lv_iconst hx hb (v := Int32.ofInt (-1)) mkd5_135 rfl ?_
      rw [nI_add]
      refine ph_iast C rfl hP (kn_at hn (k := 1) rfl) (nI_in (by omega) (by omega)) hlo mkd5_136 (fun H locs hP hlo => ?_)
      rw [kn_st hn, nI_clamp (by omega)] at hP
      refine lv_iinc hx hb (v := nI (i + 1)) mkd5_137 hl (k := 0) rfl (nI_1 i) (by decide) rfl (fun ls hl => ?_)
      refine lv_goto hx hb (tgt := 120) mkd5_140 (by decide) ?_
      exact ih (i + 1) (by omega) H locs ls (ph_alike0 hn hP (fun j _ => kmF_s j i)) hlo hl
  exact loop 10 0 rfl H locs ls hP hlo hl
