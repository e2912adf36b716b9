/-! FROM THE LAW'S ENTRY -/
theorem dl_0 : decode code 0 = .ok (.new 7, 3) := by decide +kernel
theorem dl_3 : decode code 3 = .ok (.dup, 1) := by decide +kernel
theorem dl_4 : decode code 4 = .ok (.invokespecial 9, 3) := by decide +kernel
theorem dl_7 : decode code 7 = .ok (.astore_n 1, 1) := by decide +kernel
theorem dl_8 : decode code 8 = .ok (.new 10, 3) := by decide +kernel
theorem dl_11 : decode code 11 = .ok (.dup, 1) := by decide +kernel
theorem dl_12 : decode code 12 = .ok (.invokespecial 12, 3) := by decide +kernel
theorem dl_15 : decode code 15 = .ok (.astore_n 2, 1) := by decide +kernel
theorem dl_16 : decode code 16 = .ok (.iconst 0, 1) := by decide +kernel
theorem dl_17 : decode code 17 = .ok (.istore_n 3, 1) := by decide +kernel
theorem kdf_4 : ∀ j, j < mzNf 4 → defaultValue ((mzFt.getD 4 tyX0) j) = vp_V [.null, .null, .null, .null, .null, .null, .null, .int 0] j := by decide +kernel
theorem kdf_5 : ∀ j, j < mzNf 5 → defaultValue ((mzFt.getD 5 tyX0) j) = vp_V [.null, .null, .int 0, .null, .int 0, .null, .int 0, .int 0, .int 0, .int 0, .int 0, .int 0, .null, .int 0, .int 0, .int 0, .null, .null, .null, .null, .int 0, .int 0, .null, .null, .null, .null] j := by decide +kernel
theorem kAmb {s : State} {args : Array Value} {D : va_G} {cI cA cS : ClassId} {b L : Nat} {st aK aV : Nat → Nat} {xs : Nat → Int32} (hts : ∀ w ∈ lw_tbl, w.before args s = true) (hg : (Jvm.Cond.and given_1 narrow_1).before args s = true) (hK : va_K D mzCls (mkT cI cA cS) s)
    (hS : vk_S 14 (mzStrT.map List.length) (mzStrT.map (List.map Int32.ofInt)) aK aV (gvA s.heap.size) s s.heap) (hR : ∀ q ∈ mzSL, vk_R (mzNo q.1) q.2.1 (mzStrS.getD q.2.2 "") (aK q.2.2) s) (hst : ∀ k, k < 3 → va_Z "MeltPins" (mzStat k) "[I" (.ref (st k)) (gvA s.heap.size) s s.heap ∧ va_T .int (st k) (mzCsl (200 + k)) (fun j => .int (Int32.ofInt (mzCst (200 + k) j))) (gvA s.heap.size) s s.heap) : mzAmb (kG D cI cA cS s.heap.size b L st aK aV xs) s := by
  have hw : ∀ w ∈ gvL, w.before args s = true := flat_of_before _ hg
  have hn : ∀ q, mzA (kG D cI cA cS s.heap.size b L st aK aV xs) q → gvA s.heap.size q := fun q z => kA_in z
  refine ⟨fun w hw => ?_, hK, fun k hk => ?_, fun q hq => ?_, ?_, ?_, ?_⟩
  · have hz := hts w (gv_tb (List.mem_filter.mp hw).1)
    rcases mz_nestk w hw with ⟨_, _, _, _, _, _, rfl⟩ | ⟨_, _, _, _, rfl⟩
    · exact va_Nw.of rfl hz
    · exact va_Nw.of rfl hz
  · have e : mzAd (kG D cI cA cS s.heap.size b L st aK aV xs) (200 + k) = st k := kAd_st hk
    rw [e]
    exact ⟨(hst k hk).1.narrow hn, (hst k hk).2.narrow hn⟩
  · have e : mzAd (kG D cI cA cS s.heap.size b L st aK aV xs) (300 + q.2.2) = aK q.2.2 := kAd_aK (gv_6 q hq).1
    rw [e]
    exact hR q hq
  · have h := hS.narrow hn
    refine ⟨fun i hi => ?_, fun i j hi hj z => ?_⟩
    · have e1 : mzAd (kG D cI cA cS s.heap.size b L st aK aV xs) (300 + i) = aK i := kAd_aK hi
      have e2 : mzAd (kG D cI cA cS s.heap.size b L st aK aV xs) (320 + i) = aV i := kAd_aV hi
      show va_O _ (mzAd (kG D cI cA cS s.heap.size b L st aK aV xs) (300 + i)) _ _ _ ∧ va_OF _ _ _ _ (mzAd (kG D cI cA cS s.heap.size b L st aK aV xs) (300 + i)) _ _ _ ∧ va_OF _ _ _ (.ref (mzAd (kG D cI cA cS s.heap.size b L st aK aV xs) (320 + i))) (mzAd (kG D cI cA cS s.heap.size b L st aK aV xs) (300 + i)) _ _ _ ∧ va_T _ (mzAd (kG D cI cA cS s.heap.size b L st aK aV xs) (320 + i)) _ _ _ _ _
      rw [e1, e2]
      exact h.1 i hi
    · have e1 : mzAd (kG D cI cA cS s.heap.size b L st aK aV xs) (300 + i) = aK i := kAd_aK hi
      have e2 : mzAd (kG D cI cA cS s.heap.size b L st aK aV xs) (300 + j) = aK j := kAd_aK hj
      exact h.2 i j hi hj (e1.symm.trans (Eq.trans z e2))
  · exact (va_Zof (hts _ (gv_tb gv_11.1)) (hts _ (gv_tb gv_11.2.2.1)) (va_eqi (hw _ gv_10.1)) gv_out).narrow hn
  · exact (va_Zqof (hts _ (gv_tb gv_11.2.1)) (hts _ (gv_tb gv_11.2.2.2.1)) (hw _ gv_10.2) gv_out).narrow hn
theorem whole_start {p : Program} {e : Env} {s : State} {m : MethodId} {below : List Frame} {meth : Method} {c : Code} (l : Launch) (hflags : l.flags = flags0) {b L : Nat} {xs : Nat → Int32} (hL : L ≤ 3072) (C0 : lw_At p s m meth c b L xs) : W p l e room_1 s m #[Value.ref b] below meth c s.heap [] 0 0 (lw_Z below #[Value.ref b] s) (entryFrame m ([Value.ref b] : List Value).toArray 4) := by
  obtain ⟨hx, hb, hr, hml, hown, hts, hX, hbl, hlocks, hgv⟩ := id C0
  obtain ⟨D, cI, cA, cS, hK⟩ := gv_K hts
  obtain ⟨aK, aV, hS14, hR28⟩ := gv_str hts hgv
  obtain ⟨st, hst⟩ := gv_sta hts hgv
  have hAmb : mzAmb (kG D cI cA cS s.heap.size b L st aK aV xs) s := kAmb hts hgv hK hS14 hR28 hst
  have hNs : ∀ w ∈ mzNest, va_Nw w s := hAmb.1
  have C : KC D (mkT cI cA cS) s.heap p s m #[Value.ref b] meth c code 4 "MeltPinsLaw" := ⟨hx, hb, hml, hlocks, hown, fun w hw => hts w (List.mem_filter.mp hw).1, hK, Nat.le_refl _, hts _ mk_aoi, hts _ mk_aos⟩
  have hP : PH D s.heap (([] : List va_E) ++ []) s.heap := ⟨rfl, fun _ _ => rfl, fun i e h => by simp at h⟩
  have hlo : ∀ q ∈ ([] : List Loc), s.heap.size ≤ q.base := fun _ h => by cases h
  have hn0 : ([] : List va_E).length = 0 := rfl
  have hl := lv_entry [.ref b] (n := 4) (Nat.le_of_ble_eq_true rfl)
  rw [lg_entry_eq]
  generalize (lg_sl [.ref b] ++ List.replicate (4 - (lg_sl [.ref b]).length) Slot.unset).toArray = ls at hl ⊢
  have hl : lv_has ls 4 [(0, .ref b)] := hl
  refine kn_new C hn0 (k := 0) rfl (ci := 4) (fs := [.null, .null, .null, .null, .null, .null, .null, .int 0]) (by decide) mk_lc7 mk_it4 hP (Nat.le_of_ble_eq_true rfl) (Nat.le_of_ble_eq_true rfl) kdf_4 dl_0 (fun H hP => ?_)
  refine lv_dup hx hb dl_3 rfl ?_
  refine ph_back (va_runI (As := []) (rest := [.ref (s.heap.size + (0 + 0))]) ⟨C.1, C.2.1, C.2.2.1, C.2.2.2.2.1, C.2.2.2.2.2.1⟩ (kc_4 l (cI := cI) (cA := cA) (cS := cS) (es := []) (n := 0) hn0) (cwI 0 C.2.2.2.2.2.1 (mk_good mkW4_in rfl) rfl rfl rfl (kn_w C (mz_ini 4 (by decide)) rfl) (kn_w C mk_lm9 rfl) (kn_w C mk_im4 rfl) rfl ⟨by decide, by decide, by decide⟩ ⟨(Nat.le_of_ble_eq_true rfl), (Nat.le_of_ble_eq_true rfl)⟩) ⟨kn_blind, fun U hU hW => ⟨rfl, kp_moved hW.alike (by rw [hU]; exact hP) C.2.2.2.2.2.2.1 C.2.2.2.2.2.2.2.2.1 C.2.2.2.2.2.2.2.2.2, kn_nest hW hNs⟩⟩ rfl rfl hl.1 rfl (lv_room (Nat.le_of_ble_eq_true rfl)) dl_4 ⟨(Nat.le_of_ble_eq_true rfl), (Nat.le_of_ble_eq_true rfl)⟩) hlo (fun H locs hP hlo => ?_)
  refine W.eq (g2 := F0 m 7 ls [.ref (s.heap.size + 0)]) rfl ?_
  refine lv_astore_n hx hb (i := 1) dl_7 rfl hl (by decide) rfl (fun ls hl => ?_)
  have hl : lv_has ls 4 [(1, .ref (s.heap.size + 0)), (0, .ref b)] := hl
  refine kn_new C hn0 (k := 134) rfl (ci := 5) (fs := [.null, .null, .int 0, .null, .int 0, .null, .int 0, .int 0, .int 0, .int 0, .int 0, .int 0, .null, .int 0, .int 0, .int 0, .null, .null, .null, .null, .int 0, .int 0, .null, .null, .null, .null]) (by decide) mk_lc10 mk_it5 hP (Nat.le_of_ble_eq_true rfl) (Nat.le_of_ble_eq_true rfl) kdf_5 dl_8 (fun H hP => ?_)
  refine lv_dup hx hb dl_11 rfl ?_
  refine ph_back (va_runI (As := []) (rest := [.ref (s.heap.size + (0 + 134))]) ⟨C.1, C.2.1, C.2.2.1, C.2.2.2.2.1, C.2.2.2.2.2.1⟩ (kc_5 l (cI := cI) (cA := cA) (cS := cS) (es := [] ++ kcl4 cI cA cS s.heap.size 0) (n := 0 + 134) (kn_len hn0 rfl)) (cwI 0 C.2.2.2.2.2.1 (mk_good mkW5_in rfl) rfl rfl rfl (kn_w C (mz_ini 5 (by decide)) rfl) (kn_w C mk_lm12 rfl) (kn_w C mk_im5 rfl) rfl ⟨by decide, by decide, by decide⟩ ⟨(Nat.le_of_ble_eq_true rfl), (Nat.le_of_ble_eq_true rfl)⟩) ⟨kp_blind, fun U hU hW => ⟨rfl, kp_moved hW.alike (by rw [hU, List.append_assoc]; exact hP) C.2.2.2.2.2.2.1 C.2.2.2.2.2.2.2.2.1 C.2.2.2.2.2.2.2.2.2⟩⟩ rfl rfl hl.1 rfl (lv_room (Nat.le_of_ble_eq_true rfl)) dl_12 ⟨(Nat.le_of_ble_eq_true rfl), (Nat.le_of_ble_eq_true rfl)⟩) hlo (fun H locs hP hlo => ?_)
  refine W.eq (g2 := F0 m 15 ls [.ref (s.heap.size + (0 + 134))]) rfl ?_
  refine lv_astore_n hx hb (i := 2) dl_15 rfl hl (by decide) rfl (fun ls hl => ?_)
  refine lv_iconst hx hb (v := 0) dl_16 (by decide) ?_
  refine lv_istore_n hx hb (i := 3) dl_17 rfl hl (by decide) rfl (fun ls hl => ?_)
  have hl : lv_has ls 4 [(3, .int 0), (2, .ref (s.heap.size + (0 + 134))), (1, .ref (s.heap.size + 0)), (0, .ref b)] := hl
  refine va_forget hlo ?_
  rw [List.nil_append] at hP
  have hSt : mzSt (kG D cI cA cS s.heap.size b L st aK aV xs) H (kMu L xs) := kSt hL hP
  refine lw_loop (e := 0) 400000000 0 (kMu L xs) kW0 kRW (Int.le_refl _) (by decide) (kG D cI cA cS s.heap.size b L st aK aV xs) p l e room_1 s m #[Value.ref b] below meth c _ _ (lw_Z below #[Value.ref b] s) ?_ ?_ H [] ls hSt ⟨by rw [hP.1]; exact Nat.le_add_right _ _, fun q hq _ => hP.2.1 q hq, fun q h => by cases h⟩ ⟨hl.1, hl.2.1, rfl, ?_⟩ (fun v h => by cases h)
  · refine ⟨hx, hb, hml, hr, hlocks, hown, C.2.2.2.2.2.1, hAmb, ?_, ⟨(Nat.le_of_ble_eq_true rfl), (Nat.le_of_ble_eq_true rfl)⟩, ⟨(Nat.le_of_ble_eq_true rfl), (Nat.le_of_ble_eq_true rfl)⟩, fun _ => ⟨?_, hbl, ?_⟩⟩
    · intro i j hi hj h
      have h : kAd s.heap.size b st aK aV i = kAd s.heap.size b st aK aV j := h
      rw [kAd_lt hi, kAd_lt hj] at h
      exact kOff_inj hi hj (Nat.add_left_cancel h)
    · have e : (fun j => Int32.ofInt ((xs j).toInt)) = xs := funext fun j => mz_ofInt_toInt _
      show va_X b L (fun j => Int32.ofInt ((xs j).toInt)) s s.heap
      rw [e]
      exact hX
    · exact fun z => absurd (kA_in z) (Nat.not_le.mpr hbl)
  · intro v μ' H' locs' ls' pc' hq ht hk hS2 hva hdg
    match v, hq with
    | some (.inl x), hq =>
      have hq : x = 1 := hq
      subst hq
      exact va_forget (fun q hq => kA_in (hva.2.2 q hq)) (W.widen (k := 600000) (n := 7302250) (Nat.le_of_ble_eq_true rfl) (Nat.le_of_ble_eq_true rfl) (lw_ret hx hb hr hlocks hdg))
    | some (.inr _), hq => exact (show False from hq).elim
    | none, hq => exact (show False from hq).elim
  · intro i v hv
    match i, hv with
    | 0, hv =>
      cases hv
      exact ⟨lv_at hl 3 rfl, trivial⟩
    | 1, hv =>
      cases hv
      exact ⟨lv_at hl 2 rfl, trivial⟩
    | 2, hv =>
      cases hv
      exact ⟨lv_at hl 1 rfl, trivial⟩
    | 3, hv =>
      cases hv
      exact ⟨lv_at hl 0 rfl, by decide, by decide⟩
    | i + 4, hv => cases hv
