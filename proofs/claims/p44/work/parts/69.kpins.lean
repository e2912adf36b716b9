/-! MeltPins() -/
def KN (D : va_G) (tys : List (ClassId × FieldType)) (H0 : Heap) (es : List va_E) (U : State) : Prop := KP D tys H0 es U ∧ ∀ w ∈ mzNest, va_Nw w U
theorem kn_nest {s U : State} (hW : s.WarmedH U.vm) (h : ∀ w ∈ mzNest, va_Nw w s) : ∀ w ∈ mzNest, va_Nw w U := fun w hw => by
  have hz := h w hw
  rcases mz_nestk w hw with ⟨_, _, _, _, _, _, rfl⟩ | ⟨_, _, _, _, rfl⟩
  · exact va_Nw.warmF hW hz
  · exact va_Nw.warmM hW hz
theorem kn_blind {D : va_G} {tys : List (ClassId × FieldType)} {H0 : Heap} {es : List va_E} {as : List Value} : FrameBlind (va_Pc as (KN D tys H0 es)) := fun a U g mk h => ⟨h.1, kp_moved (u := U) (U := U.calling g mk a) (Vm.Alike.refl U.vm) h.2.1.1 h.2.1.2.1 h.2.1.2.2.1 h.2.1.2.2.2, fun w hw => by
  have hz := h.2.2 w hw
  rcases mz_nestk w hw with ⟨_, _, _, _, _, _, rfl⟩ | ⟨_, _, _, _, rfl⟩
  · exact va_Nw.same (u := U) (U := U.calling g mk a) rfl rfl hz
  · exact va_Nw.same (u := U) (U := U.calling g mk a) rfl rfl hz⟩
theorem kdf_0 : ∀ j, j < mzNf 0 → defaultValue ((mzFt.getD 0 tyX0) j) = vp_V [.null, .null, .null, .null, .null, .null, .null, .int 0, .int 0, .int 0] j := by decide +kernel
theorem kdf_1 : ∀ j, j < mzNf 1 → defaultValue ((mzFt.getD 1 tyX0) j) = vp_V [.int 0, .int 0, .null] j := by decide +kernel
theorem kdf_2 : ∀ j, j < mzNf 2 → defaultValue ((mzFt.getD 2 tyX0) j) = vp_V [.null, .int 0, .int 0, .int 0, .int 0, .int 0] j := by decide +kernel
theorem kdf_3 : ∀ j, j < mzNf 3 → defaultValue ((mzFt.getD 3 tyX0) j) = vp_V [.int 0, .int 0, .int 0, .int 0, .int 0, .null, .null, .null, .null, .null] j := by decide +kernel
def kcl4 (cI cA cS : ClassId) (h n : Nat) : List va_E := .inr (4, [.ref (h + (n + 1)), .ref (h + (n + 31)), .ref (h + (n + 61)), .ref (h + (n + 91)), .ref (h + (n + 122)), .ref (h + (n + 124)), .ref (h + (n + 125)), .int 0]) :: (kcl3 cI cA h (n + 1) ++ ((kcl3 cI cA h (n + 31) ++ ((kcl3 cI cA h (n + 61) ++ ((kcl0 cI cA (h + (n + 1)) h (n + 91) ++ ((kcl2 cI h (n + 122) ++ (.inl (cS, 4, .inr (.inr (.inr (.inr (va_up (va_up (va_up (va_up (fun _ => none) 0 (some (h + (n + 126)))) 1 (some (h + (n + 128)))) 2 (some (h + (n + 130)))) 3 (some (h + (n + 132)))))))) :: .inl (cI, 7, .inl (fun _ => 0)) :: (kcl1 cI h (n + 126) ++ ((kcl1 cI h (n + 128) ++ ((kcl1 cI h (n + 130) ++ ((kcl1 cI h (n + 132) ++ [])))))))))))))))))
theorem kc_4 (l : Launch) {D : va_G} {cI cA cS : ClassId} {H0 : Heap} {es : List va_E} {n : Nat} (hn : es.length = n) : Met l mkY4 (mkWs mkW4) { frames := 3, cells := 133, slots := 1687, locals := 128 } (va_Pc [.ref (H0.size + n)] (KN D (mkT cI cA cS) H0 (es ++ [.inr (4, [.null, .null, .null, .null, .null, .null, .null, .int 0])]))) (KQ D H0 (es ++ kcl4 cI cA cS H0.size n)) 133 1687 (mkF H0) := by
  refine Met.ofW (cc := mkB4) (maxL := 2) (ret := none) (by decide) rfl ?_
  intro p e s m args below meth c s₁ B hml hv
  obtain ⟨rfl, hC, hNs⟩ := hv
  have hown : s.vm.findClass "MeltPins" = some m.cls := findClass_of_methodNamed B.named
  have hts := atoms_spec (ws := mkWs mkW4) B.pre
  have C : KC D (mkT cI cA cS) H0 p s m _ meth c mkB4 2 "MeltPins" := mk_kc B.exec B.bytes hml B.notSynchronized hown hts hC
  have hin : meth.name = "<init>" := (name_of_methodNamed B.named B.method).1
  have hx := B.exec
  have hb := B.bytes
  have hlo : ∀ q ∈ ([] : List Loc), H0.size ≤ q.base := fun _ h => by cases h
  have hP := hC.1
  have hP0 := hC.1
  have hl := lv_entry [.ref (H0.size + n)] (n := 2) (Nat.le_of_ble_eq_true rfl)
  rw [lg_entry_eq]
  generalize (lg_sl [.ref (H0.size + n)] ++ List.replicate (2 - (lg_sl [.ref (H0.size + n)]).length) Slot.unset).toArray = ls at hl ⊢
  have hl : lv_has ls 2 [(0, .ref (H0.size + n))] := hl
  refine lv_aload_n hx hb mkd4_0 (i := 0) rfl (lv_at hl 0 rfl) ?_
  refine kn_obj C hl mk_ob4 mkd4_1 (Nat.le_of_ble_eq_true rfl) (Nat.le_of_ble_eq_true rfl) ?_
  refine W.eq (g2 := F0 m 4 ls []) rfl ?_
  refine lv_aload_n hx hb mkd4_4 (i := 0) rfl (lv_at hl 0 rfl) ?_
  refine kn_new C hn (k := 1) rfl (ci := 3) (fs := [.int 0, .int 0, .int 0, .int 0, .int 0, .null, .null, .null, .null, .null]) (by decide) mk_c4_9 mk_it3 hP (Nat.le_of_ble_eq_true rfl) (Nat.le_of_ble_eq_true rfl) kdf_3 mkd4_5 (fun H hP => ?_)
  refine lv_dup hx hb mkd4_8 rfl ?_
  refine ph_back (va_runIN (As := []) (rest := [.ref (H0.size + (n + 1)), .ref (H0.size + n)]) ⟨C.1, C.2.1, C.2.2.1, C.2.2.2.2.1, C.2.2.2.2.2.1⟩ (kc_3 l (cA := cA) (cS := cS) (kn_len hn rfl)) ⟨va_cnB 0 C.2.2.2.2.2.1 (mk_good mkW3_in rfl) rfl rfl rfl (hNs _ mk_ns3) (kn_w C (mz_ini 3 (by decide)) rfl) ⟨by decide, by decide, by decide⟩ ⟨(Nat.le_of_ble_eq_true rfl), (Nat.le_of_ble_eq_true rfl)⟩, rfl, kn_w C mk_im3 rfl⟩ ⟨kp_blind, fun U hU hW => ⟨rfl, kp_moved hW.alike (by rw [hU, List.append_assoc]; exact hP) C.2.2.2.2.2.2.1 C.2.2.2.2.2.2.2.2.1 C.2.2.2.2.2.2.2.2.2⟩⟩ rfl rfl hl.1 rfl (lv_room (Nat.le_of_ble_eq_true rfl)) mkd4_9 ⟨(Nat.le_of_ble_eq_true rfl), (Nat.le_of_ble_eq_true rfl)⟩) hlo (fun H locs hP hlo => ?_)
  simp only [List.append_assoc, List.cons_append, List.nil_append, List.append_nil] at hP
  have hP : PH D H0 (es ++ (.inr (4, [.null, .null, .null, .null, .null, .null, .null, .int 0]) :: (kcl3 cI cA H0.size (n + 1) ++ []))) H := hP
  refine W.eq (g2 := F0 m 12 ls [.ref (H0.size + (n + 1)), .ref (H0.size + n)]) rfl ?_
  refine kn_put C hn (ci := 4) (j := 0) (by decide) (by decide) hP mk_f4_12 rfl rfl hin rfl rfl (show (0 : Nat) < 8 by decide) hlo mkd4_12 (fun H locs hP hlo _ => ?_)
  have hP : PH D H0 (es ++ (.inr (4, [.ref (H0.size + (n + 1)), .null, .null, .null, .null, .null, .null, .int 0]) :: (kcl3 cI cA H0.size (n + 1) ++ []))) H := hP
  refine lv_aload_n hx hb mkd4_15 (i := 0) rfl (lv_at hl 0 rfl) ?_
  refine kn_new C hn (k := 31) rfl (ci := 3) (fs := [.int 0, .int 0, .int 0, .int 0, .int 0, .null, .null, .null, .null, .null]) (by decide) mk_c4_9 mk_it3 hP (Nat.le_of_ble_eq_true rfl) (Nat.le_of_ble_eq_true rfl) kdf_3 mkd4_16 (fun H hP => ?_)
  refine lv_dup hx hb mkd4_19 rfl ?_
  refine ph_back (va_runIN (As := []) (rest := [.ref (H0.size + (n + 31)), .ref (H0.size + n)]) ⟨C.1, C.2.1, C.2.2.1, C.2.2.2.2.1, C.2.2.2.2.2.1⟩ (kc_3 l (cA := cA) (cS := cS) (kn_len hn rfl)) ⟨va_cnB 0 C.2.2.2.2.2.1 (mk_good mkW3_in rfl) rfl rfl rfl (hNs _ mk_ns3) (kn_w C (mz_ini 3 (by decide)) rfl) ⟨by decide, by decide, by decide⟩ ⟨(Nat.le_of_ble_eq_true rfl), (Nat.le_of_ble_eq_true rfl)⟩, rfl, kn_w C mk_im3 rfl⟩ ⟨kp_blind, fun U hU hW => ⟨rfl, kp_moved hW.alike (by rw [hU, List.append_assoc]; exact hP) C.2.2.2.2.2.2.1 C.2.2.2.2.2.2.2.2.1 C.2.2.2.2.2.2.2.2.2⟩⟩ rfl rfl hl.1 rfl (lv_room (Nat.le_of_ble_eq_true rfl)) mkd4_20 ⟨(Nat.le_of_ble_eq_true rfl), (Nat.le_of_ble_eq_true rfl)⟩) hlo (fun H locs hP hlo => ?_)
  simp only [List.append_assoc, List.cons_append, List.nil_append, List.append_nil] at hP
  have hP : PH D H0 (es ++ (.inr (4, [.ref (H0.size + (n + 1)), .null, .null, .null, .null, .null, .null, .int 0]) :: (kcl3 cI cA H0.size (n + 1) ++ ((kcl3 cI cA H0.size (n + 31) ++ []))))) H := hP
  refine W.eq (g2 := F0 m 23 ls [.ref (H0.size + (n + 31)), .ref (H0.size + n)]) rfl ?_
  refine kn_put C hn (ci := 4) (j := 1) (by decide) (by decide) hP mk_f4_16 rfl rfl hin rfl rfl (show (1 : Nat) < 8 by decide) hlo mkd4_23 (fun H locs hP hlo _ => ?_)
  have hP : PH D H0 (es ++ (.inr (4, [.ref (H0.size + (n + 1)), .ref (H0.size + (n + 31)), .null, .null, .null, .null, .null, .int 0]) :: (kcl3 cI cA H0.size (n + 1) ++ ((kcl3 cI cA H0.size (n + 31) ++ []))))) H := hP
  refine lv_aload_n hx hb mkd4_26 (i := 0) rfl (lv_at hl 0 rfl) ?_
  refine kn_new C hn (k := 61) rfl (ci := 3) (fs := [.int 0, .int 0, .int 0, .int 0, .int 0, .null, .null, .null, .null, .null]) (by decide) mk_c4_9 mk_it3 hP (Nat.le_of_ble_eq_true rfl) (Nat.le_of_ble_eq_true rfl) kdf_3 mkd4_27 (fun H hP => ?_)
  refine lv_dup hx hb mkd4_30 rfl ?_
  refine ph_back (va_runIN (As := []) (rest := [.ref (H0.size + (n + 61)), .ref (H0.size + n)]) ⟨C.1, C.2.1, C.2.2.1, C.2.2.2.2.1, C.2.2.2.2.2.1⟩ (kc_3 l (cA := cA) (cS := cS) (kn_len hn rfl)) ⟨va_cnB 0 C.2.2.2.2.2.1 (mk_good mkW3_in rfl) rfl rfl rfl (hNs _ mk_ns3) (kn_w C (mz_ini 3 (by decide)) rfl) ⟨by decide, by decide, by decide⟩ ⟨(Nat.le_of_ble_eq_true rfl), (Nat.le_of_ble_eq_true rfl)⟩, rfl, kn_w C mk_im3 rfl⟩ ⟨kp_blind, fun U hU hW => ⟨rfl, kp_moved hW.alike (by rw [hU, List.append_assoc]; exact hP) C.2.2.2.2.2.2.1 C.2.2.2.2.2.2.2.2.1 C.2.2.2.2.2.2.2.2.2⟩⟩ rfl rfl hl.1 rfl (lv_room (Nat.le_of_ble_eq_true rfl)) mkd4_31 ⟨(Nat.le_of_ble_eq_true rfl), (Nat.le_of_ble_eq_true rfl)⟩) hlo (fun H locs hP hlo => ?_)
  simp only [List.append_assoc, List.cons_append, List.nil_append, List.append_nil] at hP
  have hP : PH D H0 (es ++ (.inr (4, [.ref (H0.size + (n + 1)), .ref (H0.size + (n + 31)), .null, .null, .null, .null, .null, .int 0]) :: (kcl3 cI cA H0.size (n + 1) ++ ((kcl3 cI cA H0.size (n + 31) ++ ((kcl3 cI cA H0.size (n + 61) ++ []))))))) H := hP
  refine W.eq (g2 := F0 m 34 ls [.ref (H0.size + (n + 61)), .ref (H0.size + n)]) rfl ?_
  refine kn_put C hn (ci := 4) (j := 2) (by decide) (by decide) hP mk_f4_19 rfl rfl hin rfl rfl (show (2 : Nat) < 8 by decide) hlo mkd4_34 (fun H locs hP hlo _ => ?_)
  have hP : PH D H0 (es ++ (.inr (4, [.ref (H0.size + (n + 1)), .ref (H0.size + (n + 31)), .ref (H0.size + (n + 61)), .null, .null, .null, .null, .int 0]) :: (kcl3 cI cA H0.size (n + 1) ++ ((kcl3 cI cA H0.size (n + 31) ++ ((kcl3 cI cA H0.size (n + 61) ++ []))))))) H := hP
  refine lv_aload_n hx hb mkd4_37 (i := 0) rfl (lv_at hl 0 rfl) ?_
  refine kn_new C hn (k := 91) rfl (ci := 0) (fs := [.null, .null, .null, .null, .null, .null, .null, .int 0, .int 0, .int 0]) (by decide) mk_c4_22 mk_it0 hP (Nat.le_of_ble_eq_true rfl) (Nat.le_of_ble_eq_true rfl) kdf_0 mkd4_38 (fun H hP => ?_)
  refine lv_dup hx hb mkd4_41 rfl ?_
  refine lv_aload_n hx hb mkd4_42 (i := 0) rfl (lv_at hl 0 rfl) ?_
  refine kn_get C hn (ci := 4) (j := 0) (by decide) (by decide) hP mk_f4_12 rfl rfl mkd4_43 ?_
  refine ph_back (va_runIN (As := [.ref (H0.size + (n + 1))]) (rest := [.ref (H0.size + (n + 91)), .ref (H0.size + n)]) ⟨C.1, C.2.1, C.2.2.1, C.2.2.2.2.1, C.2.2.2.2.2.1⟩ (kc_0 l (cA := cA) (cS := cS) (kn_len hn rfl)) ⟨va_cnB 1 C.2.2.2.2.2.1 (mk_good mkW0_in rfl) rfl rfl rfl (hNs _ mk_ns0) (kn_w C (mz_ini 0 (by decide)) rfl) ⟨by decide, by decide, by decide⟩ ⟨(Nat.le_of_ble_eq_true rfl), (Nat.le_of_ble_eq_true rfl)⟩, rfl, kn_w C mk_im0 rfl⟩ ⟨kp_blind, fun U hU hW => ⟨rfl, kp_moved hW.alike (by rw [hU, List.append_assoc]; exact hP) C.2.2.2.2.2.2.1 C.2.2.2.2.2.2.2.2.1 C.2.2.2.2.2.2.2.2.2⟩⟩ rfl rfl hl.1 rfl (lv_room (Nat.le_of_ble_eq_true rfl)) mkd4_46 ⟨(Nat.le_of_ble_eq_true rfl), (Nat.le_of_ble_eq_true rfl)⟩) hlo (fun H locs hP hlo => ?_)
  simp only [List.append_assoc, List.cons_append, List.nil_append, List.append_nil] at hP
  have hP : PH D H0 (es ++ (.inr (4, [.ref (H0.size + (n + 1)), .ref (H0.size + (n + 31)), .ref (H0.size + (n + 61)), .null, .null, .null, .null, .int 0]) :: (kcl3 cI cA H0.size (n + 1) ++ ((kcl3 cI cA H0.size (n + 31) ++ ((kcl3 cI cA H0.size (n + 61) ++ ((kcl0 cI cA (H0.size + (n + 1)) H0.size (n + 91) ++ []))))))))) H := hP
  refine W.eq (g2 := F0 m 49 ls [.ref (H0.size + (n + 91)), .ref (H0.size + n)]) rfl ?_
  refine kn_put C hn (ci := 4) (j := 3) (by decide) (by decide) hP mk_f4_27 rfl rfl hin rfl rfl (show (3 : Nat) < 8 by decide) hlo mkd4_49 (fun H locs hP hlo _ => ?_)
  have hP : PH D H0 (es ++ (.inr (4, [.ref (H0.size + (n + 1)), .ref (H0.size + (n + 31)), .ref (H0.size + (n + 61)), .ref (H0.size + (n + 91)), .null, .null, .null, .int 0]) :: (kcl3 cI cA H0.size (n + 1) ++ ((kcl3 cI cA H0.size (n + 31) ++ ((kcl3 cI cA H0.size (n + 61) ++ ((kcl0 cI cA (H0.size + (n + 1)) H0.size (n + 91) ++ []))))))))) H := hP
  refine lv_aload_n hx hb mkd4_52 (i := 0) rfl (lv_at hl 0 rfl) ?_
  refine kn_new C hn (k := 122) rfl (ci := 2) (fs := [.null, .int 0, .int 0, .int 0, .int 0, .int 0]) (by decide) mk_c4_31 mk_it2 hP (Nat.le_of_ble_eq_true rfl) (Nat.le_of_ble_eq_true rfl) kdf_2 mkd4_53 (fun H hP => ?_)
  refine lv_dup hx hb mkd4_56 rfl ?_
  refine ph_back (va_runIN (As := []) (rest := [.ref (H0.size + (n + 122)), .ref (H0.size + n)]) ⟨C.1, C.2.1, C.2.2.1, C.2.2.2.2.1, C.2.2.2.2.2.1⟩ (kc_2 l (cA := cA) (cS := cS) (kn_len hn rfl)) ⟨va_cnB 0 C.2.2.2.2.2.1 (mk_good mkW2_in rfl) rfl rfl rfl (hNs _ mk_ns2) (kn_w C (mz_ini 2 (by decide)) rfl) ⟨by decide, by decide, by decide⟩ ⟨(Nat.le_of_ble_eq_true rfl), (Nat.le_of_ble_eq_true rfl)⟩, rfl, kn_w C mk_im2 rfl⟩ ⟨kp_blind, fun U hU hW => ⟨rfl, kp_moved hW.alike (by rw [hU, List.append_assoc]; exact hP) C.2.2.2.2.2.2.1 C.2.2.2.2.2.2.2.2.1 C.2.2.2.2.2.2.2.2.2⟩⟩ rfl rfl hl.1 rfl (lv_room (Nat.le_of_ble_eq_true rfl)) mkd4_57 ⟨(Nat.le_of_ble_eq_true rfl), (Nat.le_of_ble_eq_true rfl)⟩) hlo (fun H locs hP hlo => ?_)
  simp only [List.append_assoc, List.cons_append, List.nil_append, List.append_nil] at hP
  have hP : PH D H0 (es ++ (.inr (4, [.ref (H0.size + (n + 1)), .ref (H0.size + (n + 31)), .ref (H0.size + (n + 61)), .ref (H0.size + (n + 91)), .null, .null, .null, .int 0]) :: (kcl3 cI cA H0.size (n + 1) ++ ((kcl3 cI cA H0.size (n + 31) ++ ((kcl3 cI cA H0.size (n + 61) ++ ((kcl0 cI cA (H0.size + (n + 1)) H0.size (n + 91) ++ ((kcl2 cI H0.size (n + 122) ++ []))))))))))) H := hP
  refine W.eq (g2 := F0 m 60 ls [.ref (H0.size + (n + 122)), .ref (H0.size + n)]) rfl ?_
  refine kn_put C hn (ci := 4) (j := 4) (by decide) (by decide) hP mk_f4_34 rfl rfl hin rfl rfl (show (4 : Nat) < 8 by decide) hlo mkd4_60 (fun H locs hP hlo _ => ?_)
  have hP : PH D H0 (es ++ (.inr (4, [.ref (H0.size + (n + 1)), .ref (H0.size + (n + 31)), .ref (H0.size + (n + 61)), .ref (H0.size + (n + 91)), .ref (H0.size + (n + 122)), .null, .null, .int 0]) :: (kcl3 cI cA H0.size (n + 1) ++ ((kcl3 cI cA H0.size (n + 31) ++ ((kcl3 cI cA H0.size (n + 61) ++ ((kcl0 cI cA (H0.size + (n + 1)) H0.size (n + 91) ++ ((kcl2 cI H0.size (n + 122) ++ []))))))))))) H := hP
  refine lv_aload_n hx hb mkd4_63 (i := 0) rfl (lv_at hl 0 rfl) ?_
  refine lv_iconst hx hb (v := 4) mkd4_64 (by decide) ?_
  refine kn_newq C hn (k := 124) rfl rfl mk_c4_38 hP 4 (by decide) (by decide) (by decide) (Nat.le_of_ble_eq_true rfl) (Nat.le_of_ble_eq_true rfl) mkd4_65 (fun H hP => ?_)
  simp only [List.append_assoc, List.cons_append, List.nil_append, List.append_nil] at hP
  have hP : PH D H0 (es ++ (.inr (4, [.ref (H0.size + (n + 1)), .ref (H0.size + (n + 31)), .ref (H0.size + (n + 61)), .ref (H0.size + (n + 91)), .ref (H0.size + (n + 122)), .null, .null, .int 0]) :: (kcl3 cI cA H0.size (n + 1) ++ ((kcl3 cI cA H0.size (n + 31) ++ ((kcl3 cI cA H0.size (n + 61) ++ ((kcl0 cI cA (H0.size + (n + 1)) H0.size (n + 91) ++ ((kcl2 cI H0.size (n + 122) ++ ([.inl (cS, 4, .inr (.inr (.inr (.inr (fun _ => none)))))])))))))))))) H := hP
  refine kn_put C hn (ci := 4) (j := 5) (by decide) (by decide) hP mk_f4_40 rfl rfl hin rfl rfl (show (5 : Nat) < 8 by decide) hlo mkd4_68 (fun H locs hP hlo _ => ?_)
  have hP : PH D H0 (es ++ (.inr (4, [.ref (H0.size + (n + 1)), .ref (H0.size + (n + 31)), .ref (H0.size + (n + 61)), .ref (H0.size + (n + 91)), .ref (H0.size + (n + 122)), .ref (H0.size + (n + 124)), .null, .int 0]) :: (kcl3 cI cA H0.size (n + 1) ++ ((kcl3 cI cA H0.size (n + 31) ++ ((kcl3 cI cA H0.size (n + 61) ++ ((kcl0 cI cA (H0.size + (n + 1)) H0.size (n + 91) ++ ((kcl2 cI H0.size (n + 122) ++ ([.inl (cS, 4, .inr (.inr (.inr (.inr (fun _ => none)))))])))))))))))) H := hP
  refine lv_aload_n hx hb mkd4_71 (i := 0) rfl (lv_at hl 0 rfl) ?_
  refine lv_bipush hx hb (v := 7) mkd4_72 (by decide) ?_
  refine kn_newa C hn (k := 125) rfl rfl hP 7 (by decide) (by decide) (by decide) (Nat.le_of_ble_eq_true rfl) (Nat.le_of_ble_eq_true rfl) mkd4_74 (fun H hP => ?_)
  simp only [List.append_assoc, List.cons_append, List.nil_append, List.append_nil] at hP
  have hP : PH D H0 (es ++ (.inr (4, [.ref (H0.size + (n + 1)), .ref (H0.size + (n + 31)), .ref (H0.size + (n + 61)), .ref (H0.size + (n + 91)), .ref (H0.size + (n + 122)), .ref (H0.size + (n + 124)), .null, .int 0]) :: (kcl3 cI cA H0.size (n + 1) ++ ((kcl3 cI cA H0.size (n + 31) ++ ((kcl3 cI cA H0.size (n + 61) ++ ((kcl0 cI cA (H0.size + (n + 1)) H0.size (n + 91) ++ ((kcl2 cI H0.size (n + 122) ++ (.inl (cS, 4, .inr (.inr (.inr (.inr (fun _ => none))))) :: [.inl (cI, 7, .inl (fun _ => 0))])))))))))))) H := hP
  refine kn_put C hn (ci := 4) (j := 6) (by decide) (by decide) hP mk_f4_44 rfl rfl hin rfl rfl (show (6 : Nat) < 8 by decide) hlo mkd4_76 (fun H locs hP hlo _ => ?_)
  have hP : PH D H0 (es ++ (.inr (4, [.ref (H0.size + (n + 1)), .ref (H0.size + (n + 31)), .ref (H0.size + (n + 61)), .ref (H0.size + (n + 91)), .ref (H0.size + (n + 122)), .ref (H0.size + (n + 124)), .ref (H0.size + (n + 125)), .int 0]) :: (kcl3 cI cA H0.size (n + 1) ++ ((kcl3 cI cA H0.size (n + 31) ++ ((kcl3 cI cA H0.size (n + 61) ++ ((kcl0 cI cA (H0.size + (n + 1)) H0.size (n + 91) ++ ((kcl2 cI H0.size (n + 122) ++ (.inl (cS, 4, .inr (.inr (.inr (.inr (fun _ => none))))) :: [.inl (cI, 7, .inl (fun _ => 0))])))))))))))) H := hP
  refine lv_iconst hx hb (v := 0) mkd4_79 (by decide) ?_
  refine lv_istore_n hx hb (i := 1) mkd4_80 rfl hl (by decide) rfl (fun ls hl => ?_)
  have hl : lv_has ls 2 [(1, .int 0), (0, .ref (H0.size + n))] := hl
  refine lv_iload_n hx hb mkd4_81 (i := 1) rfl (lv_at hl 0 rfl) ?_
  refine lv_iconst hx hb (v := 4) mkd4_82 (by decide) ?_
  refine lv_icmp_ge hx hb (tgt := 105) mkd4_83 (by decide) (fun z => absurd z (by decide)) (fun _ => ?_)
  refine lv_aload_n hx hb mkd4_86 (i := 0) rfl (lv_at hl 1 rfl) ?_
  refine kn_get C hn (ci := 4) (j := 5) (by decide) (by decide) hP mk_f4_40 rfl rfl mkd4_87 ?_
  refine lv_iload_n hx hb mkd4_90 (i := 1) rfl (lv_at hl 0 rfl) ?_
  refine kn_new C hn (k := 126) rfl (ci := 1) (fs := [.int 0, .int 0, .null]) (by decide) mk_c4_38 mk_it1 hP (Nat.le_of_ble_eq_true rfl) (Nat.le_of_ble_eq_true rfl) kdf_1 mkd4_91 (fun H hP => ?_)
  refine lv_dup hx hb mkd4_94 rfl ?_
  refine ph_back (va_runIN (As := []) (rest := [.ref (H0.size + (n + 126)), .int 0, .ref (H0.size + (n + 124))]) ⟨C.1, C.2.1, C.2.2.1, C.2.2.2.2.1, C.2.2.2.2.2.1⟩ (kc_1 l (cA := cA) (cS := cS) (kn_len hn rfl)) ⟨va_cnB 0 C.2.2.2.2.2.1 (mk_good mkW1_in rfl) rfl rfl rfl (hNs _ mk_ns1) (kn_w C (mz_ini 1 (by decide)) rfl) ⟨by decide, by decide, by decide⟩ ⟨(Nat.le_of_ble_eq_true rfl), (Nat.le_of_ble_eq_true rfl)⟩, rfl, kn_w C mk_im1 rfl⟩ ⟨kp_blind, fun U hU hW => ⟨rfl, kp_moved hW.alike (by rw [hU, List.append_assoc]; exact hP) C.2.2.2.2.2.2.1 C.2.2.2.2.2.2.2.2.1 C.2.2.2.2.2.2.2.2.2⟩⟩ rfl rfl hl.1 rfl (lv_room (Nat.le_of_ble_eq_true rfl)) mkd4_95 ⟨(Nat.le_of_ble_eq_true rfl), (Nat.le_of_ble_eq_true rfl)⟩) hlo (fun H locs hP hlo => ?_)
  simp only [List.append_assoc, List.cons_append, List.nil_append, List.append_nil] at hP
  have hP : PH D H0 (es ++ (.inr (4, [.ref (H0.size + (n + 1)), .ref (H0.size + (n + 31)), .ref (H0.size + (n + 61)), .ref (H0.size + (n + 91)), .ref (H0.size + (n + 122)), .ref (H0.size + (n + 124)), .ref (H0.size + (n + 125)), .int 0]) :: (kcl3 cI cA H0.size (n + 1) ++ ((kcl3 cI cA H0.size (n + 31) ++ ((kcl3 cI cA H0.size (n + 61) ++ ((kcl0 cI cA (H0.size + (n + 1)) H0.size (n + 91) ++ ((kcl2 cI H0.size (n + 122) ++ (.inl (cS, 4, .inr (.inr (.inr (.inr (fun _ => none))))) :: .inl (cI, 7, .inl (fun _ => 0)) :: (kcl1 cI H0.size (n + 126) ++ []))))))))))))) H := hP
  refine W.eq (g2 := F0 m 98 ls [.ref (H0.size + (n + 126)), .int 0, .ref (H0.size + (n + 124))]) rfl ?_
  refine ph_aast C rfl hP (kn_at hn (k := 124) rfl) (kn_at hn (k := 126) rfl) (by unfold vp_in; decide) hlo mkd4_98 (fun H locs hP hlo => ?_)
  rw [kn_st hn] at hP
  have hP : PH D H0 (es ++ (.inr (4, [.ref (H0.size + (n + 1)), .ref (H0.size + (n + 31)), .ref (H0.size + (n + 61)), .ref (H0.size + (n + 91)), .ref (H0.size + (n + 122)), .ref (H0.size + (n + 124)), .ref (H0.size + (n + 125)), .int 0]) :: (kcl3 cI cA H0.size (n + 1) ++ ((kcl3 cI cA H0.size (n + 31) ++ ((kcl3 cI cA H0.size (n + 61) ++ ((kcl0 cI cA (H0.size + (n + 1)) H0.size (n + 91) ++ ((kcl2 cI H0.size (n + 122) ++ (.inl (cS, 4, .inr (.inr (.inr (.inr (va_up (fun _ => none) 0 (some (H0.size + (n + 126)))))))) :: .inl (cI, 7, .inl (fun _ => 0)) :: (kcl1 cI H0.size (n + 126) ++ []))))))))))))) H := hP
  refine lv_iinc hx hb (v := 1) mkd4_99 hl (k := 0) rfl (by decide) (by decide) rfl (fun ls hl => ?_)
  have hl : lv_has ls 2 [(1, .int 1), (0, .ref (H0.size + n))] := hl
  refine lv_goto hx hb (tgt := 81) mkd4_102 (by decide) ?_
  refine lv_iload_n hx hb mkd4_81 (i := 1) rfl (lv_at hl 0 rfl) ?_
  refine lv_iconst hx hb (v := 4) mkd4_82 (by decide) ?_
  refine lv_icmp_ge hx hb (tgt := 105) mkd4_83 (by decide) (fun z => absurd z (by decide)) (fun _ => ?_)
  refine lv_aload_n hx hb mkd4_86 (i := 0) rfl (lv_at hl 1 rfl) ?_
  refine kn_get C hn (ci := 4) (j := 5) (by decide) (by decide) hP mk_f4_40 rfl rfl mkd4_87 ?_
  refine lv_iload_n hx hb mkd4_90 (i := 1) rfl (lv_at hl 0 rfl) ?_
  refine kn_new C hn (k := 128) rfl (ci := 1) (fs := [.int 0, .int 0, .null]) (by decide) mk_c4_38 mk_it1 hP (Nat.le_of_ble_eq_true rfl) (Nat.le_of_ble_eq_true rfl) kdf_1 mkd4_91 (fun H hP => ?_)
  refine lv_dup hx hb mkd4_94 rfl ?_
  refine ph_back (va_runIN (As := []) (rest := [.ref (H0.size + (n + 128)), .int 1, .ref (H0.size + (n + 124))]) ⟨C.1, C.2.1, C.2.2.1, C.2.2.2.2.1, C.2.2.2.2.2.1⟩ (kc_1 l (cA := cA) (cS := cS) (kn_len hn rfl)) ⟨va_cnB 0 C.2.2.2.2.2.1 (mk_good mkW1_in rfl) rfl rfl rfl (hNs _ mk_ns1) (kn_w C (mz_ini 1 (by decide)) rfl) ⟨by decide, by decide, by decide⟩ ⟨(Nat.le_of_ble_eq_true rfl), (Nat.le_of_ble_eq_true rfl)⟩, rfl, kn_w C mk_im1 rfl⟩ ⟨kp_blind, fun U hU hW => ⟨rfl, kp_moved hW.alike (by rw [hU, List.append_assoc]; exact hP) C.2.2.2.2.2.2.1 C.2.2.2.2.2.2.2.2.1 C.2.2.2.2.2.2.2.2.2⟩⟩ rfl rfl hl.1 rfl (lv_room (Nat.le_of_ble_eq_true rfl)) mkd4_95 ⟨(Nat.le_of_ble_eq_true rfl), (Nat.le_of_ble_eq_true rfl)⟩) hlo (fun H locs hP hlo => ?_)
  simp only [List.append_assoc, List.cons_append, List.nil_append, List.append_nil] at hP
  have hP : PH D H0 (es ++ (.inr (4, [.ref (H0.size + (n + 1)), .ref (H0.size + (n + 31)), .ref (H0.size + (n + 61)), .ref (H0.size + (n + 91)), .ref (H0.size + (n + 122)), .ref (H0.size + (n + 124)), .ref (H0.size + (n + 125)), .int 0]) :: (kcl3 cI cA H0.size (n + 1) ++ ((kcl3 cI cA H0.size (n + 31) ++ ((kcl3 cI cA H0.size (n + 61) ++ ((kcl0 cI cA (H0.size + (n + 1)) H0.size (n + 91) ++ ((kcl2 cI H0.size (n + 122) ++ (.inl (cS, 4, .inr (.inr (.inr (.inr (va_up (fun _ => none) 0 (some (H0.size + (n + 126)))))))) :: .inl (cI, 7, .inl (fun _ => 0)) :: (kcl1 cI H0.size (n + 126) ++ ((kcl1 cI H0.size (n + 128) ++ []))))))))))))))) H := hP
  refine W.eq (g2 := F0 m 98 ls [.ref (H0.size + (n + 128)), .int 1, .ref (H0.size + (n + 124))]) rfl ?_
  refine ph_aast C rfl hP (kn_at hn (k := 124) rfl) (kn_at hn (k := 128) rfl) (by unfold vp_in; decide) hlo mkd4_98 (fun H locs hP hlo => ?_)
  rw [kn_st hn] at hP
  have hP : PH D H0 (es ++ (.inr (4, [.ref (H0.size + (n + 1)), .ref (H0.size + (n + 31)), .ref (H0.size + (n + 61)), .ref (H0.size + (n + 91)), .ref (H0.size + (n + 122)), .ref (H0.size + (n + 124)), .ref (H0.size + (n + 125)), .int 0]) :: (kcl3 cI cA H0.size (n + 1) ++ ((kcl3 cI cA H0.size (n + 31) ++ ((kcl3 cI cA H0.size (n + 61) ++ ((kcl0 cI cA (H0.size + (n + 1)) H0.size (n + 91) ++ ((kcl2 cI H0.size (n + 122) ++ (.inl (cS, 4, .inr (.inr (.inr (.inr (va_up (va_up (fun _ => none) 0 (some (H0.size + (n + 126)))) 1 (some (H0.size + (n + 128)))))))) :: .inl (cI, 7, .inl (fun _ => 0)) :: (kcl1 cI H0.size (n + 126) ++ ((kcl1 cI H0.size (n + 128) ++ []))))))))))))))) H := hP
  refine lv_iinc hx hb (v := 2) mkd4_99 hl (k := 0) rfl (by decide) (by decide) rfl (fun ls hl => ?_)
  have hl : lv_has ls 2 [(1, .int 2), (0, .ref (H0.size + n))] := hl
  refine lv_goto hx hb (tgt := 81) mkd4_102 (by decide) ?_
  refine lv_iload_n hx hb mkd4_81 (i := 1) rfl (lv_at hl 0 rfl) ?_
  refine lv_iconst hx hb (v := 4) mkd4_82 (by decide) ?_
  refine lv_icmp_ge hx hb (tgt := 105) mkd4_83 (by decide) (fun z => absurd z (by decide)) (fun _ => ?_)
  refine lv_aload_n hx hb mkd4_86 (i := 0) rfl (lv_at hl 1 rfl) ?_
  refine kn_get C hn (ci := 4) (j := 5) (by decide) (by decide) hP mk_f4_40 rfl rfl mkd4_87 ?_
  refine lv_iload_n hx hb mkd4_90 (i := 1) rfl (lv_at hl 0 rfl) ?_
  refine kn_new C hn (k := 130) rfl (ci := 1) (fs := [.int 0, .int 0, .null]) (by decide) mk_c4_38 mk_it1 hP (Nat.le_of_ble_eq_true rfl) (Nat.le_of_ble_eq_true rfl) kdf_1 mkd4_91 (fun H hP => ?_)
  refine lv_dup hx hb mkd4_94 rfl ?_
  refine ph_back (va_runIN (As := []) (rest := [.ref (H0.size + (n + 130)), .int 2, .ref (H0.size + (n + 124))]) ⟨C.1, C.2.1, C.2.2.1, C.2.2.2.2.1, C.2.2.2.2.2.1⟩ (kc_1 l (cA := cA) (cS := cS) (kn_len hn rfl)) ⟨va_cnB 0 C.2.2.2.2.2.1 (mk_good mkW1_in rfl) rfl rfl rfl (hNs _ mk_ns1) (kn_w C (mz_ini 1 (by decide)) rfl) ⟨by decide, by decide, by decide⟩ ⟨(Nat.le_of_ble_eq_true rfl), (Nat.le_of_ble_eq_true rfl)⟩, rfl, kn_w C mk_im1 rfl⟩ ⟨kp_blind, fun U hU hW => ⟨rfl, kp_moved hW.alike (by rw [hU, List.append_assoc]; exact hP) C.2.2.2.2.2.2.1 C.2.2.2.2.2.2.2.2.1 C.2.2.2.2.2.2.2.2.2⟩⟩ rfl rfl hl.1 rfl (lv_room (Nat.le_of_ble_eq_true rfl)) mkd4_95 ⟨(Nat.le_of_ble_eq_true rfl), (Nat.le_of_ble_eq_true rfl)⟩) hlo (fun H locs hP hlo => ?_)
  simp only [List.append_assoc, List.cons_append, List.nil_append, List.append_nil] at hP
  have hP : PH D H0 (es ++ (.inr (4, [.ref (H0.size + (n + 1)), .ref (H0.size + (n + 31)), .ref (H0.size + (n + 61)), .ref (H0.size + (n + 91)), .ref (H0.size + (n + 122)), .ref (H0.size + (n + 124)), .ref (H0.size + (n + 125)), .int 0]) :: (kcl3 cI cA H0.size (n + 1) ++ ((kcl3 cI cA H0.size (n + 31) ++ ((kcl3 cI cA H0.size (n + 61) ++ ((kcl0 cI cA (H0.size + (n + 1)) H0.size (n + 91) ++ ((kcl2 cI H0.size (n + 122) ++ (.inl (cS, 4, .inr (.inr (.inr (.inr (va_up (va_up (fun _ => none) 0 (some (H0.size + (n + 126)))) 1 (some (H0.size + (n + 128)))))))) :: .inl (cI, 7, .inl (fun _ => 0)) :: (kcl1 cI H0.size (n + 126) ++ ((kcl1 cI H0.size (n + 128) ++ ((kcl1 cI H0.size (n + 130) ++ []))))))))))))))))) H := hP
  refine W.eq (g2 := F0 m 98 ls [.ref (H0.size + (n + 130)), .int 2, .ref (H0.size + (n + 124))]) rfl ?_
  refine ph_aast C rfl hP (kn_at hn (k := 124) rfl) (kn_at hn (k := 130) rfl) (by unfold vp_in; decide) hlo mkd4_98 (fun H locs hP hlo => ?_)
  rw [kn_st hn] at hP
  have hP : PH D H0 (es ++ (.inr (4, [.ref (H0.size + (n + 1)), .ref (H0.size + (n + 31)), .ref (H0.size + (n + 61)), .ref (H0.size + (n + 91)), .ref (H0.size + (n + 122)), .ref (H0.size + (n + 124)), .ref (H0.size + (n + 125)), .int 0]) :: (kcl3 cI cA H0.size (n + 1) ++ ((kcl3 cI cA H0.size (n + 31) ++ ((kcl3 cI cA H0.size (n + 61) ++ ((kcl0 cI cA (H0.size + (n + 1)) H0.size (n + 91) ++ ((kcl2 cI H0.size (n + 122) ++ (.inl (cS, 4, .inr (.inr (.inr (.inr (va_up (va_up (va_up (fun _ => none) 0 (some (H0.size + (n + 126)))) 1 (some (H0.size + (n + 128)))) 2 (some (H0.size + (n + 130)))))))) :: .inl (cI, 7, .inl (fun _ => 0)) :: (kcl1 cI H0.size (n + 126) ++ ((kcl1 cI H0.size (n + 128) ++ ((kcl1 cI H0.size (n + 130) ++ []))))))))))))))))) H := hP
  refine lv_iinc hx hb (v := 3) mkd4_99 hl (k := 0) rfl (by decide) (by decide) rfl (fun ls hl => ?_)
  have hl : lv_has ls 2 [(1, .int 3), (0, .ref (H0.size + n))] := hl
  refine lv_goto hx hb (tgt := 81) mkd4_102 (by decide) ?_
  refine lv_iload_n hx hb mkd4_81 (i := 1) rfl (lv_at hl 0 rfl) ?_
  refine lv_iconst hx hb (v := 4) mkd4_82 (by decide) ?_
  refine lv_icmp_ge hx hb (tgt := 105) mkd4_83 (by decide) (fun z => absurd z (by decide)) (fun _ => ?_)
  refine lv_aload_n hx hb mkd4_86 (i := 0) rfl (lv_at hl 1 rfl) ?_
  refine kn_get C hn (ci := 4) (j := 5) (by decide) (by decide) hP mk_f4_40 rfl rfl mkd4_87 ?_
  refine lv_iload_n hx hb mkd4_90 (i := 1) rfl (lv_at hl 0 rfl) ?_
  refine kn_new C hn (k := 132) rfl (ci := 1) (fs := [.int 0, .int 0, .null]) (by decide) mk_c4_38 mk_it1 hP (Nat.le_of_ble_eq_true rfl) (Nat.le_of_ble_eq_true rfl) kdf_1 mkd4_91 (fun H hP => ?_)
  refine lv_dup hx hb mkd4_94 rfl ?_
  refine ph_back (va_runIN (As := []) (rest := [.ref (H0.size + (n + 132)), .int 3, .ref (H0.size + (n + 124))]) ⟨C.1, C.2.1, C.2.2.1, C.2.2.2.2.1, C.2.2.2.2.2.1⟩ (kc_1 l (cA := cA) (cS := cS) (kn_len hn rfl)) ⟨va_cnB 0 C.2.2.2.2.2.1 (mk_good mkW1_in rfl) rfl rfl rfl (hNs _ mk_ns1) (kn_w C (mz_ini 1 (by decide)) rfl) ⟨by decide, by decide, by decide⟩ ⟨(Nat.le_of_ble_eq_true rfl), (Nat.le_of_ble_eq_true rfl)⟩, rfl, kn_w C mk_im1 rfl⟩ ⟨kp_blind, fun U hU hW => ⟨rfl, kp_moved hW.alike (by rw [hU, List.append_assoc]; exact hP) C.2.2.2.2.2.2.1 C.2.2.2.2.2.2.2.2.1 C.2.2.2.2.2.2.2.2.2⟩⟩ rfl rfl hl.1 rfl (lv_room (Nat.le_of_ble_eq_true rfl)) mkd4_95 ⟨(Nat.le_of_ble_eq_true rfl), (Nat.le_of_ble_eq_true rfl)⟩) hlo (fun H locs hP hlo => ?_)
  simp only [List.append_assoc, List.cons_append, List.nil_append, List.append_nil] at hP
  have hP : PH D H0 (es ++ (.inr (4, [.ref (H0.size + (n + 1)), .ref (H0.size + (n + 31)), .ref (H0.size + (n + 61)), .ref (H0.size + (n + 91)), .ref (H0.size + (n + 122)), .ref (H0.size + (n + 124)), .ref (H0.size + (n + 125)), .int 0]) :: (kcl3 cI cA H0.size (n + 1) ++ ((kcl3 cI cA H0.size (n + 31) ++ ((kcl3 cI cA H0.size (n + 61) ++ ((kcl0 cI cA (H0.size + (n + 1)) H0.size (n + 91) ++ ((kcl2 cI H0.size (n + 122) ++ (.inl (cS, 4, .inr (.inr (.inr (.inr (va_up (va_up (va_up (fun _ => none) 0 (some (H0.size + (n + 126)))) 1 (some (H0.size + (n + 128)))) 2 (some (H0.size + (n + 130)))))))) :: .inl (cI, 7, .inl (fun _ => 0)) :: (kcl1 cI H0.size (n + 126) ++ ((kcl1 cI H0.size (n + 128) ++ ((kcl1 cI H0.size (n + 130) ++ ((kcl1 cI H0.size (n + 132) ++ []))))))))))))))))))) H := hP
  refine W.eq (g2 := F0 m 98 ls [.ref (H0.size + (n + 132)), .int 3, .ref (H0.size + (n + 124))]) rfl ?_
  refine ph_aast C rfl hP (kn_at hn (k := 124) rfl) (kn_at hn (k := 132) rfl) (by unfold vp_in; decide) hlo mkd4_98 (fun H locs hP hlo => ?_)
  rw [kn_st hn] at hP
  have hP : PH D H0 (es ++ (.inr (4, [.ref (H0.size + (n + 1)), .ref (H0.size + (n + 31)), .ref (H0.size + (n + 61)), .ref (H0.size + (n + 91)), .ref (H0.size + (n + 122)), .ref (H0.size + (n + 124)), .ref (H0.size + (n + 125)), .int 0]) :: (kcl3 cI cA H0.size (n + 1) ++ ((kcl3 cI cA H0.size (n + 31) ++ ((kcl3 cI cA H0.size (n + 61) ++ ((kcl0 cI cA (H0.size + (n + 1)) H0.size (n + 91) ++ ((kcl2 cI H0.size (n + 122) ++ (.inl (cS, 4, .inr (.inr (.inr (.inr (va_up (va_up (va_up (va_up (fun _ => none) 0 (some (H0.size + (n + 126)))) 1 (some (H0.size + (n + 128)))) 2 (some (H0.size + (n + 130)))) 3 (some (H0.size + (n + 132)))))))) :: .inl (cI, 7, .inl (fun _ => 0)) :: (kcl1 cI H0.size (n + 126) ++ ((kcl1 cI H0.size (n + 128) ++ ((kcl1 cI H0.size (n + 130) ++ ((kcl1 cI H0.size (n + 132) ++ []))))))))))))))))))) H := hP
  refine lv_iinc hx hb (v := 4) mkd4_99 hl (k := 0) rfl (by decide) (by decide) rfl (fun ls hl => ?_)
  have hl : lv_has ls 2 [(1, .int 4), (0, .ref (H0.size + n))] := hl
  refine lv_goto hx hb (tgt := 81) mkd4_102 (by decide) ?_
  refine lv_iload_n hx hb mkd4_81 (i := 1) rfl (lv_at hl 0 rfl) ?_
  refine lv_iconst hx hb (v := 4) mkd4_82 (by decide) ?_
  refine lv_icmp_ge hx hb (tgt := 105) mkd4_83 (by decide) (fun _ => ?_) (fun z => absurd (by decide) z)
  refine W.widen (k := 133) (n := 1687) (Nat.le_of_ble_eq_true rfl) (Nat.le_of_ble_eq_true rfl) ?_
  exact W.vret hx hb B.returns (fun t ht _ => ⟨rfl, by rw [ht]; exact hP⟩) (fun q hq => hlo q hq) mkd4_105 B.notSynchronized
