/-! CONSTRUCTORS: rows where the first cells are old; Arrays.fill -/
abbrev mkT (cI cA cS : ClassId) : List (ClassId × FieldType) := [(cI, .int), (cA, .array .int), (cS, .object "MeltPins$Sheet")]
theorem kn_len {α : Type} {es t : List α} {n k : Nat} (hn : es.length = n) (hk : t.length = k) : (es ++ t).length = n + k := by rw [List.length_append, hn, hk]
theorem kn_at {α : Type} {es t : List α} {n k : Nat} {x : α} (hn : es.length = n) (h : t[k]? = some x) : (es ++ t)[n + k]? = some x := by
  subst hn
  rw [List.getElem?_append_right (Nat.le_add_right _ _), Nat.add_sub_cancel_left]
  exact h
theorem kn_st {α : Type} {es t : List α} {n k : Nat} {x : α} (hn : es.length = n) : (es ++ t).set (n + k) x = es ++ t.set k x := by
  subst hn
  rw [List.set_append_right _ _ (Nat.le_add_right _ _), Nat.add_sub_cancel_left]
theorem kn_same {α : Type} {es : List α} {a : Nat} {x : α} (h : es[a]? = some x) : es.set a x = es := by
  refine List.ext_getElem? fun i => ?_
  rw [List.getElem?_set]
  by_cases e : a = i
  · subst e
    rw [if_pos rfl, if_pos (List.getElem?_eq_some_iff.mp h).1, h]
  · rw [if_neg e]
theorem ph_alike {D : va_G} {H0 H : Heap} {es : List va_E} {i N : Nat} {cI : ClassId} {f g : Nat → Int32} (h : PH D H0 (es.set i (.inl (cI, N, .inl f))) H) (hfg : ∀ j, j < N → f j = g j) : PH D H0 (es.set i (.inl (cI, N, .inl g))) H := by
  refine ⟨by rw [h.1, List.length_set, List.length_set], h.2.1, fun j x hx => ?_⟩
  by_cases hij : i = j
  · subst hij
    rw [List.getElem?_set, if_pos rfl] at hx
    split at hx
    · next hl =>
      cases hx
      have h1 := h.2.2 i (.inl (cI, N, .inl f)) (by rw [List.getElem?_set, if_pos rfl, if_pos hl])
      show H[H0.size + i]? = some (vp_cell _ _)
      have h1 : H[H0.size + i]? = some (vp_cell cI (N, .inl f)) := h1
      rw [h1, vp_cell_i, vp_cell_i]
      have e : (fun j : Fin N => Value.int (f j.val)) = (fun j : Fin N => Value.int (g j.val)) := funext fun j => by rw [hfg j.val j.isLt]
      unfold arrV
      rw [e]
    · cases hx
  · rw [List.getElem?_set, if_neg hij] at hx
    exact h.2.2 j x (by rw [List.getElem?_set, if_neg hij]; exact hx)
section KN
variable {p : Program} {l : Launch} {e : Env} {R : Room} {s : State} {m : MethodId} {args : Array Value} {below : List Frame} {meth : Method} {c : Code} {H : Heap} {locs : List Loc} {cells slots : Nat} {Q : State → Prop}
variable {cc : ByteArray} {nL pc : Nat} {ls : Array Slot} {rest : List Value} {D : va_G} {tys : List (ClassId × FieldType)} {H0 : Heap} {es t : List va_E} {own : String} {n k : Nat}
theorem kn_new (C : KC D tys H0 p s m args meth c cc nL own) (hn : es.length = n) (hk : t.length = k) {ci index : Nat} (hci : ci < 6) (hcl : Jvm.Cond.classLink own index (mzNo ci) ∈ lw_tbl) (hinst : Jvm.Cond.instantiable (mzNo ci) (mzNf ci) ∈ lw_tbl) (hP : PH D H0 (es ++ t) H) (hcells : cells + 1 ≤ R.cells) (hslots : slots + mzNf ci ≤ R.slots) {fs : List Value} (hfs : ∀ j, j < mzNf ci → defaultValue ((mzFt.getD ci tyX0) j) = vp_V fs j) (hdg : decode cc pc = .ok (.new index, 3))
    (kk : ∀ H1 : Heap, PH D H0 (es ++ (t ++ [.inr (ci, fs)])) H1 → W p l e R s m args below meth c H1 locs (cells + 1) (slots + mzNf ci) Q (F0 m (pc + 3) ls (.ref (H0.size + (n + k)) :: rest))) : W p l e R s m args below meth c H locs cells slots Q (F0 m pc ls rest) :=
  ph_new C hci hcl hinst hP hcells hslots hfs hdg (fun H1 h => by rw [kn_len hn hk]; exact kk H1 (by rw [← List.append_assoc]; exact h))
theorem kn_newa (C : KC D tys H0 p s m args meth c cc nL own) (hn : es.length = n) (hk : t.length = k) {cI : ClassId} (hcI : tys[0]? = some (cI, .int)) (hP : PH D H0 (es ++ t) H) {x : Int32} (N : Nat) (hx : ¬ x < 0) (hN : x.toNatClampNeg = N) (hb4 : N ≤ 4096) (hcells : cells + 1 ≤ R.cells) (hslots : slots + N ≤ R.slots) (hdg : decode cc pc = .ok (.newarray .int, 2))
    (kk : ∀ H1 : Heap, PH D H0 (es ++ (t ++ [.inl (cI, N, .inl (fun _ => 0))])) H1 → W p l e R s m args below meth c H1 locs (cells + 1) (slots + N) Q (F0 m (pc + 2) ls (.ref (H0.size + (n + k)) :: rest))) : W p l e R s m args below meth c H locs cells slots Q (F0 m pc ls (.int x :: rest)) :=
  ph_newa C hcI mk_arr hP hx hN hb4 hcells hslots hdg (fun H1 h => by rw [kn_len hn hk]; exact kk H1 (by rw [← List.append_assoc]; exact h))
theorem kn_newq (C : KC D tys H0 p s m args meth c cc nL own) (hn : es.length = n) (hk : t.length = k) {cS : ClassId} (hcS : tys[2]? = some (cS, .object "MeltPins$Sheet")) {index : Nat} (hcl : Jvm.Cond.classLink own index "MeltPins$Sheet" ∈ lw_tbl) (hP : PH D H0 (es ++ t) H) {x : Int32} (N : Nat) (hx : ¬ x < 0) (hN : x.toNatClampNeg = N) (hb4 : N ≤ 4096) (hcells : cells + 1 ≤ R.cells) (hslots : slots + N ≤ R.slots) (hdg : decode cc pc = .ok (.anewarray index, 3))
    (kk : ∀ H1 : Heap, PH D H0 (es ++ (t ++ [.inl (cS, N, .inr (.inr (.inr (.inr (fun _ => none)))))])) H1 → W p l e R s m args below meth c H1 locs (cells + 1) (slots + N) Q (F0 m (pc + 3) ls (.ref (H0.size + (n + k)) :: rest))) : W p l e R s m args below meth c H locs cells slots Q (F0 m pc ls (.int x :: rest)) :=
  ph_newq C hcS hcl hP hx hN hb4 hcells hslots hdg (fun H1 h => by rw [kn_len hn hk]; exact kk H1 (by rw [← List.append_assoc]; exact h))
theorem kn_mna (C : KC D tys H0 p s m args meth c cc nL own) (hn : es.length = n) (hk : t.length = k) {cI cA : ClassId} (hcI : tys[0]? = some (cI, .int)) (hcA : tys[1]? = some (cA, .array .int)) {index : Nat} (hcl : Jvm.Cond.classLink own index "[[I" ∈ lw_tbl) (hP : PH D H0 (es ++ t) H) (hH : s.heap.size ≤ H.size) {x y : Int32} (N K : Nat) (hx : ¬ x < 0) (hy : ¬ y < 0) (hN : x.toNatClampNeg = N) (hK : y.toNatClampNeg = K) (l1 : N ≤ 1000) (l2 : K ≤ 1000) (hcells : cells + (1 + N) ≤ R.cells) (hslots : slots + (N + N * K) ≤ R.slots) (hdg : decode cc pc = .ok (.multianewarray index 2, 4))
    (kk : ∀ H1 : Heap, PH D H0 (es ++ (t ++ (.inl (cA, N, .inr (.inr (.inr (.inr (fun j => if j < N then some (H0.size + (n + k) + 1 + j) else none))))) :: List.replicate N (.inl (cI, K, .inl (fun _ => 0)))))) H1 → s.heap.size ≤ H1.size → W p l e R s m args below meth c H1 locs (cells + 1 + N) (slots + N + N * K) Q (F0 m (pc + 4) ls (.ref (H0.size + (n + k)) :: rest))) : W p l e R s m args below meth c H locs cells slots Q (F0 m pc ls (.int y :: .int x :: rest)) :=
  ph_mna C hcI hcA hcl mk_arr hP hH hx hy hN hK l1 l2 hcells hslots hdg (fun H1 h => by
    rw [kn_len hn hk] at h ⊢
    have h1 := h.1
    have h2 := hP.1
    exact kk H1 (by rw [← List.append_assoc]; exact h) (by rw [List.length_append] at h1; omega))
theorem kn_get (C : KC D tys H0 p s m args meth c cc nL own) (hn : es.length = n) {ci j idx : Nat} {fs : List Value} {v : Value} (hci : ci < 6) (hj : j < mzNf ci) (hP : PH D H0 (es ++ .inr (ci, fs) :: t) H) (hl : Jvm.Cond.fieldLink own idx (mzNo ci) (mzFq ci j).2.1 (mzFq ci j).2.2.1 ∈ lw_tbl) (ho : (mzFq ci j).1 = mzNo ci) (hv : fs[j]? = some v) (hdg : decode cc pc = .ok (.getfield idx, 3))
    (kk : W p l e R s m args below meth c H locs cells slots Q (F0 m (pc + 3) ls (v :: rest))) : W p l e R s m args below meth c H locs cells slots Q (F0 m pc ls (.ref (H0.size + n) :: rest)) := by
  subst hn
  exact ph_get C hci hj hP mk_ix hl ho hv hdg kk
theorem kn_put (C : KC D tys H0 p s m args meth c cc nL own) (hn : es.length = n) {ci j idx : Nat} {fs : List Value} {v : Value} (hci : ci < 6) (hj : j < mzNf ci) (hP : PH D H0 (es ++ .inr (ci, fs) :: t) H) (hl : Jvm.Cond.fieldLink own idx (mzNo ci) (mzFq ci j).2.1 (mzFq ci j).2.2.1 ∈ lw_tbl) (ho : (mzFq ci j).1 = mzNo ci) (how : mzNo ci = own) (hin : meth.name = "<init>") (hnr : narrow ((mzFt.getD ci tyX0) j) v = v) (hfit : fits ((mzFt.getD ci tyX0) j) v = true) (hlen : j < fs.length) (hlo : ∀ q ∈ locs, H0.size ≤ q.base) (hdg : decode cc pc = .ok (.putfield idx, 3))
    (kk : ∀ (H1 : Heap) (locs1 : List Loc), PH D H0 (es ++ .inr (ci, fs.set j v) :: t) H1 → (∀ q ∈ locs1, H0.size ≤ q.base) → H1.size = H.size → W p l e R s m args below meth c H1 locs1 cells slots Q (F0 m (pc + 3) ls rest)) : W p l e R s m args below meth c H locs cells slots Q (F0 m pc ls (v :: .ref (H0.size + n) :: rest)) := by
  subst hn
  exact ph_put C hci hj hP mk_ix hl ho how hin (mz_fty ci hci j hj) hnr hfit hlen hlo hdg (fun H1 l1 h1 h2 h3 => kk H1 l1 (by rw [mk_set] at h1; exact h1) h2 h3)
theorem ph_iast (C : KC D tys H0 p s m args meth c cc nL own) {i N : Nat} {cI : ClassId} {f : Nat → Int32} (hcI : tys[0]? = some (cI, .int)) (hP : PH D H0 es H) (he : es[i]? = some (.inl (cI, N, .inl f))) {j x : Int32} (hin : vp_in j N) (hlo : ∀ q ∈ locs, H0.size ≤ q.base) (hdg : decode cc pc = .ok (.iastore, 1))
    (kk : ∀ (H1 : Heap) (locs1 : List Loc), PH D H0 (es.set i (.inl (cI, N, .inl (upd f j.toNatClampNeg x)))) H1 → (∀ q ∈ locs1, H0.size ≤ q.base) → W p l e R s m args below meth c H1 locs1 cells slots Q (F0 m (pc + 1) ls rest)) : W p l e R s m args below meth c H locs cells slots Q (F0 m pc ls (.int x :: .int j :: .ref (H0.size + i) :: rest)) := by
  obtain ⟨hx, hb, hml, hlk, hown, hts, hK, hsz, hAO, hSO⟩ := C
  refine W.iast hx hb (hP.2.2 i _ he) ((hK.2 0 _ hcI).1 N (fun j => .int (f j))) (fun q => by cases q) (by show ¬ (j < 0 ∨ (arrV _ _ _).slots.size ≤ _); rw [arrV_size]; exact hin) rfl rfl hdg fun H1 e z oq => ?_
  refine kk H1 _ (ph_set (e0 := .inl (cI, N, .inl f)) hP z oq ?_) (fun q hq => ?_)
  · show H1[H0.size + i]? = some (vp_cell _ _)
    rw [e, vp_cell_i, vp_cell_i, arrV_store]
    congr 2
    funext q
    by_cases hq : q = j.toNatClampNeg
    · subst hq
      simp [updV, upd]
    · simp [updV, upd, hq]
  · rcases List.mem_append.mp hq with h | h
    · exact hlo q h
    · rcases List.mem_singleton.mp h with rfl
      exact Nat.le_add_right _ _
theorem ph_aast (C : KC D tys H0 p s m args meth c cc nL own) {i k N : Nat} {cS : ClassId} {f : Nat → Option Nat} {fs : List Value} (hcS : tys[2]? = some (cS, .object "MeltPins$Sheet")) (hP : PH D H0 es H) (he : es[i]? = some (.inl (cS, N, .inr (.inr (.inr (.inr f)))))) (hv : es[k]? = some (.inr (1, fs))) {j : Int32} (hin : vp_in j N) (hlo : ∀ q ∈ locs, H0.size ≤ q.base) (hdg : decode cc pc = .ok (.aastore, 1))
    (kk : ∀ (H1 : Heap) (locs1 : List Loc), PH D H0 (es.set i (.inl (cS, N, .inr (.inr (.inr (.inr (va_up f j.toNatClampNeg (some (H0.size + k))))))))) H1 → (∀ q ∈ locs1, H0.size ≤ q.base) → W p l e R s m args below meth c H1 locs1 cells slots Q (F0 m (pc + 1) ls rest)) : W p l e R s m args below meth c H locs cells slots Q (F0 m pc ls (.ref (H0.size + k) :: .int j :: .ref (H0.size + i) :: rest)) := by
  obtain ⟨hx, hb, hml, hlk, hown, hts, hK, hsz, hAO, hSO⟩ := C
  have hlt : j.toNatClampNeg < N := Nat.not_le.mp fun q => hin (Or.inr q)
  have h0 : ¬ j < 0 := fun q => hin (Or.inl q)
  obtain ⟨r, h1, cellV, g1, g2, g3, -⟩ := hP.2.2 k _ hv
  have hr : r = (mzNo 1, mzFq 1, mzNf 1) := Option.some.inj (h1.symm.trans (mz_cls 1 (by decide)))
  subst hr
  have hcls := (hK.1 1 _ (mz_cls 1 (by decide))).2
  obtain ⟨kA, comp, k1, k2, k3, -⟩ := (hK.2 2 _ hcS).2
  have hcomp : comp = D.1 1 := Option.some.inj (k3.symm.trans hcls.1)
  subst hcomp
  obtain ⟨kC, hkC, -⟩ := hcls.2
  refine W.aast hx hb (hP.2.2 i _ he) (fun q h => by cases h) (fun h => by cases h) k1 k2 rfl hkC ⟨h0, by show _ < (arrV _ _ _).slots.size; rw [arrV_size]; exact hlt⟩ g1 (fun q h => by rw [g3] at h; cases h) (by rw [g2]; exact hkC) (by rw [g2]; exact va_assign hcls) rfl rfl hdg fun H1 e z oq => ?_
  refine kk H1 _ (ph_set (e0 := .inl (cS, N, .inr (.inr (.inr (.inr f))))) hP z oq ?_) (fun q hq => ?_)
  · show H1[H0.size + i]? = some (vp_cell _ _)
    rw [e, vp_cell_q, vp_cell_q, arrV_store]
    congr 2
    funext q
    by_cases hq : q = j.toNatClampNeg
    · subst hq
      simp [updV, va_up, va_rf]
    · simp [updV, va_up, hq]
  · rcases List.mem_append.mp hq with h | h
    · exact hlo q h
    · rcases List.mem_singleton.mp h with rfl
      exact Nat.le_add_right _ _
/-- the words of a table, in a constructor -/
theorem kn_w (C : KC D tys H0 p s m args meth c cc nL own) {w : Jvm.Cond} (h : w ∈ lw_tbl) (hg : goodWord w = true) : w.before args s = true := C.2.2.2.2.2.1 _ (mz_tb h hg)
theorem kn_obj (C : KC D tys H0 p s m args meth c cc nL own) {lv : List (Nat × Value)} (hl : lv_has ls nL lv) {idx a : Nat} (hlink : Jvm.Cond.methodLink own idx ⟨"java/lang/Object", "<init>", "()V"⟩ ∈ lw_tbl) (hdg : decode cc pc = .ok (.invokespecial idx, 3)) (hf : 1 ≤ R.frames) (hlo : 12 ≤ R.locals)
    (kk : W p l e R s m args below meth c H locs cells slots Q (F0 m (pc + 3) ls [])) : W p l e R s m args below meth c H locs cells slots Q (F0 m pc ls [.ref a]) :=
  W.objInit C.1 C.2.1 C.2.2.2.2.1 (kn_w C hlink rfl) (kn_w C mk_obi rfl) (kn_w C mk_obc rfl) rfl (by rw [C.2.2.1]; exact hl.1) rfl hdg hf (by simpa [F0] using hlo) kk
end KN
/-- Arrays.fill -/
def fiW : Jvm.Cond := .code (mzYn 191) (mzBy 191) (mzNl 191) (mzRt 191)
theorem fid_0 : decode (mzBy 191) 0 = .ok (.iconst 0, 1) := by decide +kernel
theorem fid_1 : decode (mzBy 191) 1 = .ok (.istore_n 2, 1) := by decide +kernel
theorem fid_2 : decode (mzBy 191) 2 = .ok (.aload_n 0, 1) := by decide +kernel
theorem fid_3 : decode (mzBy 191) 3 = .ok (.arraylength, 1) := by decide +kernel
theorem fid_4 : decode (mzBy 191) 4 = .ok (.istore_n 3, 1) := by decide +kernel
theorem fid_5 : decode (mzBy 191) 5 = .ok (.iload_n 2, 1) := by decide +kernel
theorem fid_6 : decode (mzBy 191) 6 = .ok (.iload_n 3, 1) := by decide +kernel
theorem fid_7 : decode (mzBy 191) 7 = .ok (.if_icmp .ge 13, 3) := by decide +kernel
theorem fid_10 : decode (mzBy 191) 10 = .ok (.aload_n 0, 1) := by decide +kernel
theorem fid_11 : decode (mzBy 191) 11 = .ok (.iload_n 2, 1) := by decide +kernel
theorem fid_12 : decode (mzBy 191) 12 = .ok (.iload_n 1, 1) := by decide +kernel
theorem fid_13 : decode (mzBy 191) 13 = .ok (.iastore, 1) := by decide +kernel
theorem fid_14 : decode (mzBy 191) 14 = .ok (.iinc 2 1, 3) := by decide +kernel
theorem fid_17 : decode (mzBy 191) 17 = .ok (.goto (-12), 3) := by decide +kernel
theorem fid_20 : decode (mzBy 191) 20 = .ok (.return_, 1) := by decide +kernel
theorem fi_met (l : Launch) {D : va_G} {cI cA cS : ClassId} {H0 : Heap} {es : List va_E} {a N : Nat} {f : Nat → Int32} (v : Int32) (he : es[a]? = some (.inl (cI, N, .inl f))) (hN : N ≤ 1000) :
    Met l (mzYn 191) (mkWs fiW) { frames := 1, cells := 0, slots := 0, locals := 32 } (va_Pc [.ref (H0.size + a), .int v] (KP D (mkT cI cA cS) H0 es)) (KQ D H0 (es.set a (.inl (cI, N, .inl (fun _ => v))))) 0 0 (mkF H0) := by
  refine Met.ofW (cc := mzBy 191) (maxL := 4) (ret := none) (by decide) rfl ?_
  intro p e s m args below meth c s₁ B hml hv
  obtain ⟨rfl, hC⟩ := hv
  have hown : s.vm.findClass "java/util/Arrays" = some m.cls := findClass_of_methodNamed B.named
  have hts := atoms_spec (ws := mkWs fiW) B.pre
  have C : KC D (mkT cI cA cS) H0 p s m _ meth c (mzBy 191) 4 "java/util/Arrays" := mk_kc B.exec B.bytes hml B.notSynchronized hown hts hC
  have hx := B.exec
  have hb := B.bytes
  have hK := C.2.2.2.2.2.2.1
  have hP := hC.1
  have hl := lv_entry [.ref (H0.size + a), .int v] (n := 4) (Nat.le_of_ble_eq_true rfl)
  rw [lg_entry_eq]
  generalize (lg_sl [.ref (H0.size + a), .int v] ++ List.replicate (4 - (lg_sl [.ref (H0.size + a), .int v]).length) Slot.unset).toArray = ls at hl ⊢
  have hl : lv_has ls 4 [(0, .ref (H0.size + a)), (1, .int v)] := hl
  have loop : ∀ (r i : Nat), r + i = N → ∀ (H : Heap) (locs : List Loc) (ls : Array Slot), PH D H0 (es.set a (.inl (cI, N, .inl (fun j => if j < i then v else f j)))) H → (∀ q ∈ locs, H0.size ≤ q.base) → lv_has ls 4 [(2, .int (nI i)), (3, .int (nI N)), (0, .ref (H0.size + a)), (1, .int v)] →
      W p l e (headSpec (mkWs fiW) { frames := 1, cells := 0, slots := 0, locals := 32 }).room s m [.ref (H0.size + a), .int v].toArray below meth c H locs 0 0 (MQ below (KQ D H0 (es.set a (.inl (cI, N, .inl (fun _ => v))))) [.ref (H0.size + a), .int v].toArray s 0 0 (mkF H0)) (F0 m 5 ls []) := by
    intro r
    induction r with
    | zero =>
      intro i hi H locs ls hP hlo hl
      refine lv_iload_n hx hb fid_5 (i := 2) rfl (lv_at hl 0 rfl) ?_
      refine lv_iload_n hx hb fid_6 (i := 3) rfl (lv_at hl 1 rfl) ?_
      refine lv_icmp_ge hx hb (tgt := 20) fid_7 (by decide) (fun _ => ?_) (fun z => absurd (nI_le (by omega) (by omega)) z)
      exact W.vret hx hb B.returns (fun t ht _ => ⟨rfl, by rw [ht]; exact ph_alike hP (fun j hj => if_pos (by omega))⟩) (fun q hq => hlo q hq) fid_20 B.notSynchronized
    | succ r ih =>
      intro i hi H locs ls hP hlo hl
      refine lv_iload_n hx hb fid_5 (i := 2) rfl (lv_at hl 0 rfl) ?_
      refine lv_iload_n hx hb fid_6 (i := 3) rfl (lv_at hl 1 rfl) ?_
      refine lv_icmp_ge hx hb (tgt := 20) fid_7 (by decide) (fun z => absurd z (nI_ge (by omega) (by omega))) (fun _ => ?_)
      refine lv_aload_n hx hb fid_10 (i := 0) rfl (lv_at hl 2 rfl) ?_
      refine lv_iload_n hx hb fid_11 (i := 2) rfl (lv_at hl 0 rfl) ?_
      refine lv_iload_n hx hb fid_12 (i := 1) rfl (lv_at hl 3 rfl) ?_
      have hea : (es.set a (.inl (cI, N, .inl (fun j => if j < i then v else f j))))[a]? = some (.inl (cI, N, .inl (fun j => if j < i then v else f j))) := by
        rw [List.getElem?_set, if_pos rfl, if_pos (List.getElem?_eq_some_iff.mp he).1]
      refine ph_iast C rfl hP hea (nI_in (by omega) (by omega)) hlo fid_13 (fun H1 locs1 hP1 hlo1 => ?_)
      rw [List.set_set, nI_clamp (by omega)] at hP1
      refine lv_iinc hx hb (v := nI (i + 1)) fid_14 hl (k := 0) rfl (nI_1 i) (by decide) rfl (fun ls1 hl1 => ?_)
      refine lv_goto hx hb (tgt := 5) fid_17 (by decide) ?_
      refine ih (i + 1) (by omega) H1 locs1 ls1 (ph_alike hP1 (fun j _ => ?_)) hlo1 hl1
      unfold upd
      by_cases h1 : j = i
      · rw [if_pos h1, if_pos (by omega)]
      · rw [if_neg h1]
        show (if j < i then v else f j) = _
        by_cases h2 : j < i
        · rw [if_pos h2, if_pos (by omega)]
        · rw [if_neg h2, if_neg (by omega)]
  refine lv_iconst hx hb (v := nI 0) fid_0 rfl ?_
  refine lv_istore_n hx hb (i := 2) fid_1 rfl hl (by decide) rfl (fun ls1 hl1 => ?_)
  refine lv_aload_n hx hb fid_2 (i := 0) rfl (lv_at hl1 1 rfl) ?_
  refine W.alen (n := nI N) hx hb (hP.2.2 a _ he) ((hK.2 0 _ rfl).1 N (fun j => .int (f j))) (by show (arrV _ _ _).slots.size.toInt32 = _; rw [arrV_size]; rfl) rfl rfl fid_3 ?_
  refine W.eq (g2 := F0 m 4 ls1 [.int (nI N)]) rfl ?_
  refine lv_istore_n hx hb (i := 3) fid_4 rfl hl1 (by decide) rfl (fun ls2 hl2 => ?_)
  refine loop N 0 (by omega) s.heap [] ls2 ?_ (fun q hq => by cases hq) (lv_sub hl2 [1, 0, 2, 3] rfl)
  have e : (fun j => if j < 0 then v else f j) = f := funext fun j => if_neg (Nat.not_lt_zero _)
  rw [e, kn_same he]
  exact hP
