/-! CONSTRUCTORS: the heap's new cells, in their order -/
/-- behind the cells of H0 stand the cells es, in their order -/
def PH (D : va_G) (H0 : Heap) (es : List va_E) (H : Heap) : Prop := H.size = H0.size + es.length ∧ (∀ q, q < H0.size → H[q]? = H0[q]?) ∧ ∀ (i : Nat) (e : va_E), es[i]? = some e → va_at D mzCls (H0.size + i, e) H
theorem ph_push {D : va_G} {H0 H H1 : Heap} {es : List va_E} {e : va_E} (h : PH D H0 es H) (z : H1.size = H.size + 1) (o : ∀ q, q < H.size → H1[q]? = H[q]?) (ha : va_at D mzCls (H.size, e) H1) : PH D H0 (es ++ [e]) H1 := by
  have h1 := h.1
  refine ⟨by rw [z, h1, List.length_append]; rfl, fun q hq => (o q (by omega)).trans (h.2.1 q hq), fun i x hx => ?_⟩
  by_cases hl : i < es.length
  · rw [List.getElem?_append_left hl] at hx
    exact (h.2.2 i x hx).kept (o _ (show H0.size + i < H.size by omega))
  · rw [List.getElem?_append_right (by omega)] at hx
    have h0 : i - es.length < 1 := (List.getElem?_eq_some_iff.mp hx).1
    have e1 : i = es.length := by omega
    subst e1
    rw [Nat.sub_self] at hx
    cases hx
    rw [← h1]
    exact ha
theorem ph_set {D : va_G} {H0 H H1 : Heap} {es : List va_E} {e0 e : va_E} {i : Nat} (h : PH D H0 es H) (z : H1.size = H.size) (o : ∀ q, q ≠ H0.size + i → H1[q]? = H[q]?) (ha : va_at D mzCls (H0.size + i, e) H1) : PH D H0 (es.set i e) H1 := by
  refine ⟨by rw [z, h.1, List.length_set], fun q hq => (o q (by omega)).trans (h.2.1 q hq), fun j x hx => ?_⟩
  by_cases hij : i = j
  · subst hij
    rw [List.getElem?_set] at hx
    rw [if_pos rfl] at hx
    split at hx
    · cases hx
      exact ha
    · cases hx
  · rw [List.getElem?_set, if_neg hij] at hx
    exact (h.2.2 j x hx).kept (o _ (show H0.size + j ≠ H0.size + i by omega))
/-- a class of rows of rows is there: it stays there -/
def mkAO (U : State) : Prop := (Cond.arrayOver (.array .int)).before #[] U = true
theorem mkAO_moved {u U : State} (hvm : u.vm.Alike U.vm) (h : mkAO u) : mkAO U := by
  obtain ⟨comp, c, k, h1, h2, h3, h4, h5⟩ := arrayOverA_spec h
  obtain ⟨k', hk', he⟩ := hvm.2.2 _ _ h3
  have hi : (U.vm.classes.findIdx? fun (x : Class) => match x.kind with | .array component _ => component == comp | _ => false) = some c := by
    refine (va_idx_bare U.vm comp).symm.trans ?_
    first | rw [hvm.bare_eq] | rw [← hvm.bare_eq]
    exact (va_idx_bare u.vm comp).trans h2
  have hkind : k'.kind = .array comp (.array .int) := by rw [he]; exact h4
  have f1 : U.vm.findClass (FieldType.array .int).toString = some comp := by rw [hvm.findClass]; exact h1
  have f2 : U.vm.findClass ("[" ++ (FieldType.array .int).toString) = some c := by rw [hvm.findClass]; exact h5
  unfold mkAO Cond.before Cond.holds
  simp only [Cond.value]
  rw [f1, Option.bind_some]
  refine (congrArg (fun o : Option Nat => (o.bind (fun c => (U.vm.classes[c]?).map fun (k : Class) => match k.kind with | .array _ ty => decide (ty = FieldType.array .int) && decide (U.vm.findClass ("[" ++ (FieldType.array .int).toString) = some c) | _ => false) == some true)) hi).trans ?_
  simp [hk', hkind, f2]
section PHS
variable {p : Program} {l : Launch} {e : Env} {R : Room} {s : State} {m : MethodId} {args : Array Value} {below : List Frame} {meth : Method} {c : Code} {H : Heap} {locs : List Loc} {cells slots : Nat} {Q : State → Prop}
variable {cc : ByteArray} {nL pc : Nat} {ls : Array Slot} {rest : List Value} {D : va_G} {tys : List (ClassId × FieldType)} {H0 : Heap} {es : List va_E} {own : String}
/-- a constructor's frame -/
def KC (D : va_G) (tys : List (ClassId × FieldType)) (H0 : Heap) (p : Program) (s : State) (m : MethodId) (args : Array Value) (meth : Method) (c : Code) (cc : ByteArray) (nL : Nat) (own : String) : Prop :=
  p.tables.exec = Jvm.exec ∧ c.code = cc ∧ c.maxLocals = nL ∧ meth.locks = false ∧ s.vm.findClass own = some m.cls ∧ (∀ w ∈ mzTb, w.before args s = true) ∧ va_K D mzCls tys s ∧ H0.size ≤ s.heap.size ∧ mkAO s ∧ va_AO "MeltPins$Sheet" s
theorem ph_new (C : KC D tys H0 p s m args meth c cc nL own) {ci index : Nat} (hci : ci < 6) (hcl : Jvm.Cond.classLink own index (mzNo ci) ∈ lw_tbl) (hinst : Jvm.Cond.instantiable (mzNo ci) (mzNf ci) ∈ lw_tbl) (hP : PH D H0 es H) (hcells : cells + 1 ≤ R.cells) (hslots : slots + mzNf ci ≤ R.slots) {fs : List Value} (hfs : ∀ j, j < mzNf ci → defaultValue ((mzFt.getD ci tyX0) j) = vp_V fs j) (hdg : decode cc pc = .ok (.new index, 3))
    (kk : ∀ H1 : Heap, PH D H0 (es ++ [.inr (ci, fs)]) H1 → W p l e R s m args below meth c H1 locs (cells + 1) (slots + mzNf ci) Q (F0 m (pc + 3) ls (.ref (H0.size + es.length) :: rest))) : W p l e R s m args below meth c H locs cells slots Q (F0 m pc ls rest) := by
  obtain ⟨hx, hb, hml, hlk, hown, hts, hK, hsz, hAO, hSO⟩ := C
  have hKn := hK.1 ci _ (mz_cls ci hci)
  refine W.newcK hx hb hown (hts _ (mz_tb hcl rfl)) (hts _ (mz_tb hinst rfl)) (hts _ (mz_tb (mz_ini ci (by omega)) rfl)) rfl hdg hcells hslots hKn.2.1 rfl fun H1 kC hkC e1 z1 o1 => ?_
  refine W.eq (g2 := F0 m (pc + 3) ls (.ref (H0.size + es.length) :: rest)) (by rw [← hP.1]) ?_
  exact kk H1 (ph_push hP z1 o1 ⟨_, mz_cls ci hci, (u_born (mzFt.getD ci tyX0) hts (mz_uws ci hci) hKn hkC e1 (mz_fty ci hci)).to hfs⟩)
theorem ph_newa (C : KC D tys H0 p s m args meth c cc nL own) {cI : ClassId} (hcI : tys[0]? = some (cI, .int)) (harr : Jvm.Cond.arrayClass .int ∈ lw_tbl) (hP : PH D H0 es H) {n : Int32} {N : Nat} (hn : ¬ n < 0) (hN : n.toNatClampNeg = N) (hb4 : N ≤ 4096) (hcells : cells + 1 ≤ R.cells) (hslots : slots + N ≤ R.slots) (hdg : decode cc pc = .ok (.newarray .int, 2))
    (kk : ∀ H1 : Heap, PH D H0 (es ++ [.inl (cI, N, .inl (fun _ => 0))]) H1 → W p l e R s m args below meth c H1 locs (cells + 1) (slots + N) Q (F0 m (pc + 2) ls (.ref (H0.size + es.length) :: rest))) : W p l e R s m args below meth c H locs cells slots Q (F0 m pc ls (.int n :: rest)) := by
  obtain ⟨hx, hb, hml, hlk, hown, hts, hK, hsz, hAO, hSO⟩ := C
  refine va_newaK (atype := .int) hx hb (hts _ (mz_tb harr rfl)) rfl hdg rfl hn hN (show N * 4 ≤ 536870912 by omega) hcells hslots rfl fun H1 cA e1 z1 o1 hAr hNm => ?_
  have e2 : cA = cI := Option.some.inj (hNm.symm.trans (hK.2 0 _ hcI).2)
  subst e2
  refine W.eq (g2 := F0 m (pc + 2) ls (.ref (H0.size + es.length) :: rest)) (by rw [← hP.1]) ?_
  exact kk H1 (ph_push hP z1 o1 (by
    show H1[H.size]? = some (vp_cell _ _)
    rw [vp_cell_i]
    exact e1))
theorem ph_newq (C : KC D tys H0 p s m args meth c cc nL own) {cS : ClassId} (hcS : tys[2]? = some (cS, .object "MeltPins$Sheet")) {index : Nat} (hcl : Jvm.Cond.classLink own index "MeltPins$Sheet" ∈ lw_tbl) (hP : PH D H0 es H) {n : Int32} {N : Nat} (hn : ¬ n < 0) (hN : n.toNatClampNeg = N) (hb4 : N ≤ 4096) (hcells : cells + 1 ≤ R.cells) (hslots : slots + N ≤ R.slots) (hdg : decode cc pc = .ok (.anewarray index, 3))
    (kk : ∀ H1 : Heap, PH D H0 (es ++ [.inl (cS, N, .inr (.inr (.inr (.inr (fun _ => none)))))]) H1 → W p l e R s m args below meth c H1 locs (cells + 1) (slots + N) Q (F0 m (pc + 3) ls (.ref (H0.size + es.length) :: rest))) : W p l e R s m args below meth c H locs cells slots Q (F0 m pc ls (.int n :: rest)) := by
  obtain ⟨hx, hb, hml, hlk, hown, hts, hK, hsz, hAO, hSO⟩ := C
  subst hN
  refine W.anew hx hb hown (hts _ (mz_tb hcl rfl)) hSO rfl hdg rfl hn (show n.toNatClampNeg * 4 ≤ 536870912 by omega) hcells hslots fun cA kA comp f1 f2 f3 f4 => ?_
  obtain ⟨-, -, -, -, -, g4⟩ := (hK.2 2 _ hcS).2
  have e2 : cA = cS := Option.some.inj (f1.symm.trans g4)
  subst e2
  refine W.eq (g2 := F0 m (pc + 3) ls (.ref (H0.size + es.length) :: rest)) (by rw [← hP.1]) ?_
  refine kk _ (ph_push hP (by rw [Array.size_push]) (fun q hq => by rw [Array.getElem?_push, if_neg (Nat.ne_of_lt hq)]) ?_)
  show (H.push _)[H.size]? = some (vp_cell _ _)
  rw [Array.getElem?_push_size, vp_cell_q, arrV_new]
  rfl
theorem ph_mna (C : KC D tys H0 p s m args meth c cc nL own) {cI cA : ClassId} (hcI : tys[0]? = some (cI, .int)) (hcA : tys[1]? = some (cA, .array .int)) {index : Nat} (hcl : Jvm.Cond.classLink own index "[[I" ∈ lw_tbl) (harr : Jvm.Cond.arrayClass .int ∈ lw_tbl) (hP : PH D H0 es H) (hH : s.heap.size ≤ H.size) {n k : Int32} {N K : Nat} (hn : ¬ n < 0) (hk : ¬ k < 0) (hN : n.toNatClampNeg = N) (hK : k.toNatClampNeg = K) (l1 : N ≤ 1000) (l2 : K ≤ 1000) (hcells : cells + (1 + N) ≤ R.cells) (hslots : slots + (N + N * K) ≤ R.slots) (hdg : decode cc pc = .ok (.multianewarray index 2, 4))
    (kk : ∀ H1 : Heap, PH D H0 (es ++ (.inl (cA, N, .inr (.inr (.inr (.inr (fun j => if j < N then some (H0.size + es.length + 1 + j) else none))))) :: List.replicate N (.inl (cI, K, .inl (fun _ => 0))))) H1 → W p l e R s m args below meth c H1 locs (cells + 1 + N) (slots + N + N * K) Q (F0 m (pc + 4) ls (.ref (H0.size + es.length) :: rest))) : W p l e R s m args below meth c H locs cells slots Q (F0 m pc ls (.int k :: .int n :: rest)) := by
  obtain ⟨hx, hb, hml, hlk, hown, hts, hKk, hsz, hAO, hSO⟩ := C
  have h1 := hP.1
  refine mn_row hx hb hown (hts _ (mz_tb hcl rfl)) hAO (hts _ (mz_tb harr rfl)) (hKk.2 0 _ hcI).2 (hKk.2 1 _ hcA).2 hn hk hN hK l1 l2 hcells hslots hdg hH (fun H1 z1 o0 o1 o2 => ?_)
  refine W.eq (g2 := F0 m (pc + 4) ls (.ref (H0.size + es.length) :: rest)) (by rw [← h1]) ?_
  refine kk H1 ⟨by rw [z1, h1, List.length_append, List.length_cons, List.length_replicate]; omega, fun q hq => (o2 q (by omega)).trans (hP.2.1 q hq), fun i x hx => ?_⟩
  by_cases hl : i < es.length
  · rw [List.getElem?_append_left hl] at hx
    exact (hP.2.2 i x hx).kept (o2 _ (show H0.size + i < H.size by omega))
  · rw [List.getElem?_append_right (by omega)] at hx
    obtain ⟨j, rfl⟩ : ∃ j, i = es.length + j := ⟨i - es.length, by omega⟩
    rw [Nat.add_sub_cancel_left] at hx
    cases j with
    | zero =>
      cases hx
      show H1[H0.size + (es.length + 0)]? = some (vp_cell _ _)
      rw [Nat.add_zero, ← h1, vp_cell_q]
      exact o0
    | succ j =>
      rw [List.getElem?_cons_succ, List.getElem?_replicate] at hx
      split at hx
      · next hj =>
        cases hx
        show H1[H0.size + (es.length + (j + 1))]? = some (vp_cell _ _)
        rw [show H0.size + (es.length + (j + 1)) = H.size + 1 + j by omega, vp_cell_i]
        exact o1 j hj
      · cases hx
theorem ph_get (C : KC D tys H0 p s m args meth c cc nL own) {i ci j idx : Nat} {fs : List Value} {v : Value} (hci : ci < 6) (hj : j < mzNf ci) (hP : PH D H0 es H) (he : es[i]? = some (.inr (ci, fs))) (hl : Jvm.Cond.fieldLink own idx (mzNo ci) (mzFq ci j).2.1 (mzFq ci j).2.2.1 ∈ lw_tbl) (ho : (mzFq ci j).1 = mzNo ci) (hv : fs[j]? = some v) (hdg : decode cc pc = .ok (.getfield idx, 3))
    (kk : W p l e R s m args below meth c H locs cells slots Q (F0 m (pc + 3) ls (v :: rest))) : W p l e R s m args below meth c H locs cells slots Q (F0 m pc ls (.ref (H0.size + i) :: rest)) := by
  obtain ⟨hx, hb, hml, hlk, hown, hts, hK, hsz, hAO, hSO⟩ := C
  refine va_get (ws := [(H0.size + i, .inr (ci, fs))]) hx hb hts (mz_uws ci hci) hown hK (fun k q hq => ?_) 0 rfl (mz_cls ci hci) j hj (hts _ (mz_tb hl rfl)) (fun x hx => by rw [← ho]; exact hx) hv hdg kk
  cases k with
  | zero =>
    cases hq
    exact hP.2.2 i _ he
  | succ k => cases hq
theorem ph_put (C : KC D tys H0 p s m args meth c cc nL own) {i ci j idx : Nat} {fs : List Value} {v : Value} {ty : FieldType} (hci : ci < 6) (hj : j < mzNf ci) (hP : PH D H0 es H) (he : es[i]? = some (.inr (ci, fs))) (hl : Jvm.Cond.fieldLink own idx (mzNo ci) (mzFq ci j).2.1 (mzFq ci j).2.2.1 ∈ lw_tbl) (ho : (mzFq ci j).1 = mzNo ci) (how : mzNo ci = own) (hin : meth.name = "<init>") (hd : parseFieldDescriptor (mzFq ci j).2.2.1 = some ty) (hn : narrow ty v = v) (hfit : fits ty v = true) (hlen : j < fs.length) (hlo : ∀ q ∈ locs, H0.size ≤ q.base) (hdg : decode cc pc = .ok (.putfield idx, 3))
    (kk : ∀ (H1 : Heap) (locs1 : List Loc), PH D H0 (es.set i (.inr (ci, fs.set j v))) H1 → (∀ q ∈ locs1, H0.size ≤ q.base) → H1.size = H.size → W p l e R s m args below meth c H1 locs1 cells slots Q (F0 m (pc + 3) ls rest)) : W p l e R s m args below meth c H locs cells slots Q (F0 m pc ls (v :: .ref (H0.size + i) :: rest)) := by
  obtain ⟨hx, hb, hml, hlk, hown, hts, hK, hsz, hAO, hSO⟩ := C
  have hap := va_apart (own := own) hts (mz_uws ci hci) (mzFt.getD ci tyX0) (mz_fty ci hci) (mz_fnm ci hci) hK (mz_cls ci hci)
  obtain ⟨r, h1, cell, q1, q2, q3, q4⟩ := hP.2.2 i _ he
  have hr : r = (mzNo ci, mzFq ci, mzNf ci) := Option.some.inj (h1.symm.trans (mz_cls ci hci))
  subst hr
  obtain ⟨hS, hfc, kC, hkC, hkind⟩ := hK.1 ci _ (mz_cls ci hci)
  obtain ⟨cf, kf, fi, f, hi, hsl⟩ := hS j hj
  have hlay := hts _ (mz_uws ci hci _ (u_in_lay hj))
  have hst := (u_facts hfc hkC (u_lays hts (mz_uws ci hci) hj) hi).1
  have hsame : s.fieldFound? (mzNo ci) (mzFq ci j).2.1 (mzFq ci j).2.2.1 = some (cf, kf, fi, f) := by rw [← ho]; exact hi
  have fin : ∀ H1 : Heap, H1[H0.size + i]? = some (cell.setSlot f.slot v) → H1.size = H.size → (∀ q, q ≠ H0.size + i → H1[q]? = H[q]?) → W p l e R s m args below meth c H1 (locs ++ [⟨H0.size + i, f.slot⟩]) cells slots Q (F0 m (pc + 3) ls rest) := by
    intro H1 e1 e2 e3
    rw [hsl] at e1 ⊢
    refine kk H1 _ (ph_set (e0 := .inr (ci, fs)) hP e2 e3 ⟨_, mz_cls ci hci, t_OB.to (V := updV (vp_V fs) j v) ⟨_, e1, q2, q3, t_set q4 hap hj v⟩ (fun z _ => vp_updV_set hlen v z)⟩) (fun q hq => ?_) e2
    rcases List.mem_append.mp hq with h | h
    · exact hlo q h
    · rcases List.mem_singleton.mp h with rfl
      exact Nat.le_add_right _ _
  unfold u_lay at hlay
  split at hlay
  · have hcf : m.cls = cf := by
      obtain ⟨_, _, c', _, _, _, -, -, hf', -, -, -, hown2, -⟩ := Cond.laysFinal_spec hlay
      have e1 : c' = cf := by have := hi.symm.trans hf'; simp at this; exact this.1.symm
      rw [ho, how] at hown2
      rw [← e1]
      exact Option.some.inj (hown.symm.trans hown2)
    have h6 := u_fits hfc hkC hkind (Or.inr hlay) hi hd hn hfit
    exact W.putFinK hx hb hown (hts _ (mz_tb hl rfl)) hsame hst hcf hin (by rw [q2]; exact h6) q1 q3 (by rw [hsl]; exact k2_hasslot (q4 j hj)) rfl rfl hdg fin
  · have h6 := u_store hfc hkC hkind hlay hi hd hn hfit
    exact W.putK hx hb (f := f) ⟨hown, hts _ (mz_tb hl rfl), ⟨_, _, _, hsame⟩, hst⟩ (by rw [q2]; exact h6) q1 q3 (by rw [hsl]; exact k2_hasslot (q4 j hj)) rfl rfl hdg fin
end PHS
