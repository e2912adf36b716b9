/-! calls: what is there in every method goes along; a method's frame as a contract; the call's row -/
theorem mz_nestk : ∀ w ∈ mzNest, (∃ a i b n dd h, w = Jvm.Cond.fieldLinkNest a i b n dd h) ∨ (∃ a i x0 h, w = Jvm.Cond.methodLinkNest a i x0 h) := by
  intro w hw
  unfold mzNest at hw
  have h := (List.mem_filter.mp hw).2
  cases w with
  | fieldLinkNest a i b n dd hh => exact Or.inl ⟨_, _, _, _, _, _, rfl⟩
  | methodLinkNest a i x0 hh => exact Or.inr ⟨_, _, _, _, rfl⟩
  | _ => exact absurd h (by simp)
theorem mz_amb {G : mzG} {s U : State} (hN : ∀ w ∈ mzNest, va_Nw w s → va_Nw w U) (hA : s.vm.Alike U.vm) (hR : ∀ own k tx a, vk_R own k tx a s → vk_R own k tx a U) (hH : ∀ a : Nat, a < s.heap.size → ¬ mzA G a → U.heap[a]? = s.heap[a]?) (h : mzAmb G s) : mzAmb G U :=
  ⟨fun w hw => hN w hw (h.1 w hw), va_K.moved hA h.2.1, fun k hk => ⟨((h.2.2.1 k hk).1.moved hA).kept hH, ((h.2.2.1 k hk).2.moved hA).kept hH⟩, fun q hq => hR _ _ _ _ (h.2.2.2.1 q hq), (h.2.2.2.2.1.moved hA).kept hH, (h.2.2.2.2.2.1.moved hA).kept hH, (h.2.2.2.2.2.2.moved hA).kept hH⟩
theorem mz_amb_w {G : mzG} {s U : State} {locs : List Loc} (hW : s.WarmedH U.vm) (hS : va_S (mzA G) s.heap U.heap locs) (h : mzAmb G s) : mzAmb G U := by
  refine mz_amb (fun w hw hz => ?_) hW.alike (fun own k tx a hr => vk_R.warm hW hr) (fun a h1 h2 => hS.2.1 a h1 h2) h
  rcases mz_nestk w hw with ⟨_, _, _, _, _, _, rfl⟩ | ⟨_, _, _, _, rfl⟩
  · exact va_Nw.warmF hW hz
  · exact va_Nw.warmM hW hz
theorem mz_amb_v {G : mzG} {s U : State} (hv : s.vm = U.vm) (hh : U.heap = s.heap) (h : mzAmb G s) : mzAmb G U := by
  refine mz_amb (fun w hw hz => ?_) (by rw [← hv]; exact Vm.Alike.refl _) (fun own k tx a hr => vk_R.same hv.symm hr) (fun a _ _ => by rw [hh]) h
  rcases mz_nestk w hw with ⟨_, _, _, _, _, _, rfl⟩ | ⟨_, _, _, _, rfl⟩
  · exact va_Nw.same rfl hv hz
  · exact va_Nw.same rfl hv hz
def mzPre (G : mzG) (μ : mzM) (U : State) : Prop := mzAmb G U ∧ mzSt G U.heap μ
theorem mz_blind {G : mzG} {μ : mzM} {as : List Value} : FrameBlind (va_Pc as (mzPre G μ)) := fun a U g mk h => ⟨h.1, mz_amb_v (s := U) (U := U.calling g mk a) rfl rfl h.2.1, h.2.2⟩
def mzOv (G : mzG) (v : mzV) : Option Value := match v with
  | none => none
  | some w => some (mzC G (some w))
def mzPost (G : mzG) (r : Option FieldType) (Q : mzV → mzM → Prop) : Array Value → State → Outcome → State → Prop := fun _ st o t =>
  ∃ (v : mzV) (μ' : mzM), o = .returned (mzOv G v) ∧ Q v μ' ∧ mzTyp r v ∧ mzK v ∧ mzSt G t.heap μ' ∧ va_F (mzA G) st t
theorem mz_nl : ∀ y, y < 192 → mzNl y ≤ 45 := by decide +kernel
theorem mz_plain : ∀ y, y < 192 → plainName (mzYn y).cls = true := by decide +kernel
theorem mz_names : ∀ y, y < 192 → 0 < y → (mzYn y).cls = mzNo (mzOw y) := by decide +kernel
theorem mz_good {w : Jvm.Cond} (h : w ∈ mzTb) : (w.onTables && w.keeps) = true ∨ ∃ ty, w = .arrayClass ty := good_of_word (List.mem_filter.mp h).2
theorem mz_lay {G : mzG} : ∀ (as : List mzV) (j : Nat) (v : Int ⊕ (Int ⊕ (Nat ⊕ (Nat × Nat)))), (∀ a ∈ as, a ≠ none) → (mzLay as)[j]? = some (some v) → ∀ i, (i + j, mzC G (some v)) ∈ lv_args i (as.map (mzC G)) ∧ some v ∈ as := by
  intro as
  induction as with
  | nil => intro j v _ h; simp [mzLay] at h
  | cons a r ih =>
    intro j v hn h i
    have hr : ∀ a ∈ r, a ≠ none := fun z hz => hn z (List.mem_cons_of_mem _ hz)
    match a, h with
    | none, _ => exact absurd rfl (hn none List.mem_cons_self)
    | some (.inr (.inl x)), h =>
      simp only [mzLay] at h
      show (i + j, mzC G (some v)) ∈ (i, mzC G (mzL x)) :: lv_args (i + 2) (r.map (mzC G)) ∧ _
      match j, h with
      | 0, h =>
        cases h
        exact ⟨List.mem_cons_self, List.mem_cons_self⟩
      | 1, h => cases h
      | j + 2, h =>
        obtain ⟨h1, h2⟩ := ih j v hr h (i + 2)
        refine ⟨List.mem_cons_of_mem _ ?_, List.mem_cons_of_mem _ h2⟩
        rw [show i + (j + 2) = i + 2 + j by omega]
        exact h1
    | some (.inl x), h =>
      simp only [mzLay] at h
      show (i + j, mzC G (some v)) ∈ (i, mzC G (mzI x)) :: lv_args (i + 1) (r.map (mzC G)) ∧ _
      match j, h with
      | 0, h =>
        cases h
        exact ⟨List.mem_cons_self, List.mem_cons_self⟩
      | j + 1, h =>
        obtain ⟨h1, h2⟩ := ih j v hr h (i + 1)
        refine ⟨List.mem_cons_of_mem _ ?_, List.mem_cons_of_mem _ h2⟩
        rw [show i + (j + 1) = i + 1 + j by omega]
        exact h1
    | some (.inr (.inr (.inl x))), h =>
      simp only [mzLay] at h
      show (i + j, mzC G (some v)) ∈ (i, mzC G (mzR x)) :: lv_args (i + 1) (r.map (mzC G)) ∧ _
      match j, h with
      | 0, h =>
        cases h
        exact ⟨List.mem_cons_self, List.mem_cons_self⟩
      | j + 1, h =>
        obtain ⟨h1, h2⟩ := ih j v hr h (i + 1)
        refine ⟨List.mem_cons_of_mem _ ?_, List.mem_cons_of_mem _ h2⟩
        rw [show i + (j + 1) = i + 1 + j by omega]
        exact h1
    | some (.inr (.inr (.inr (x, z)))), h =>
      simp only [mzLay] at h
      show (i + j, mzC G (some v)) ∈ (i, mzC G (mzP x z)) :: lv_args (i + 1) (r.map (mzC G)) ∧ _
      match j, h with
      | 0, h =>
        cases h
        exact ⟨List.mem_cons_self, List.mem_cons_self⟩
      | j + 1, h =>
        obtain ⟨h1, h2⟩ := ih j v hr h (i + 1)
        refine ⟨List.mem_cons_of_mem _ ?_, List.mem_cons_of_mem _ h2⟩
        rw [show i + (j + 1) = i + 1 + j by omega]
        exact h1
theorem mz_laylen {G : mzG} : ∀ (as : List mzV), (∀ a ∈ as, a ≠ none) → (lg_sl (as.map (mzC G))).length = (mzLay as).length := by
  intro as
  induction as with
  | nil => intro _; rfl
  | cons a r ih =>
    intro hn
    have hr := ih (fun z hz => hn z (List.mem_cons_of_mem _ hz))
    match a with
    | none => exact absurd rfl (hn none List.mem_cons_self)
    | some (.inr (.inl x)) =>
      show ([Slot.val (mzC G (mzL x)), .second] ++ lg_sl (r.map (mzC G))).length = (mzLay r).length + 2
      rw [List.length_append, hr]
      simp [Nat.add_comm]
    | some (.inl x) =>
      show ([Slot.val (mzC G (mzI x))] ++ lg_sl (r.map (mzC G))).length = (mzLay r).length + 1
      rw [List.length_append, hr]
      simp [Nat.add_comm]
    | some (.inr (.inr (.inl x))) =>
      show ([Slot.val (mzC G (mzR x))] ++ lg_sl (r.map (mzC G))).length = (mzLay r).length + 1
      rw [List.length_append, hr]
      simp [Nat.add_comm]
    | some (.inr (.inr (.inr (x, z)))) =>
      show ([Slot.val (mzC G (mzP x z))] ++ lg_sl (r.map (mzC G))).length = (mzLay r).length + 1
      rw [List.length_append, hr]
      simp [Nat.add_comm]
theorem mz_entry {G : mzG} {y : Nat} {as : List mzV} (hs : mzSk as) (hl : (mzLay as).length ≤ mzNl y) : mzFr G y ((lg_sl (as.map (mzC G)) ++ List.replicate (mzNl y - (lg_sl (as.map (mzC G))).length) Slot.unset).toArray) (mzEn (mzNl y) as) := by
  have hn : ∀ a ∈ as, a ≠ none := fun a ha => (hs a ha).1
  have hlen := mz_laylen (G := G) as hn
  have h := lv_entry (as.map (mzC G)) (n := mzNl y) (by rw [hlen]; exact hl)
  refine ⟨h.1, h.2.1, ?_, fun i v hv => ?_⟩
  · unfold mzEn
    rw [List.length_append, List.length_replicate]
    omega
  · unfold mzEn at hv
    by_cases hi : i < (mzLay as).length
    · rw [List.getElem?_append_left hi] at hv
      obtain ⟨h1, h2⟩ := mz_lay (G := G) as i v hn hv 0
      rw [Nat.zero_add] at h1
      exact ⟨h.2.2 _ h1, (hs _ h2).2⟩
    · rw [List.getElem?_append_right (by omega), List.getElem?_replicate] at hv
      split at hv
      · cases hv
      · cases hv
/-- a method's frame that comes to its end is a contract of the method -/
theorem mz_met {d y : Nat} {as : List mzV} {μ : mzM} {Q : mzV → mzM → Prop} (h : mzCl d y as μ Q) (h0 : 0 < y) (hy : y < 192) (hs : mzSk as) (hl : (mzLay as).length ≤ mzNl y) {G : mzG} (hI : mzInj G) (l : Launch) :
    Met l (mzYn y) (mzWs y) (mzRm d) (va_Pc (as.map (mzC G)) (mzPre G μ)) (mzPost G (mzRt y) Q) 0 0 (mzA G) := by
  refine Met.ofW (cc := mzBy y) (maxL := mzNl y) (ret := mzRt y) (mz_plain y hy) rfl ?_
  intro p e s m args below meth c s₁ B hml hv
  obtain ⟨rfl, hAm, hSt⟩ := hv
  have hts := atoms_spec (ws := mzWs y) B.pre
  have hown : s.vm.findClass (mzYn y).cls = some m.cls := findClass_of_methodNamed B.named
  rw [mz_names y hy h0] at hown
  have hr := B.returns
  have C : mzCx G p (headSpec (mzWs y) (mzRm d)).room s m ((as.map (mzC G)).toArray) meth c y d 0 0 := ⟨B.exec, B.bytes, hml, hr, B.notSynchronized, hown, fun w hw => hts w (List.mem_cons_of_mem _ hw), hAm, hI, ⟨Nat.zero_le _, Nat.zero_le _⟩, ⟨Nat.le_refl _, Nat.le_refl _⟩, fun z => by omega⟩
  rw [lg_entry_eq]
  refine h G p l e _ s m _ below meth c 0 0 _ C ?_ s.heap [] _ hSt va_S.rf (mz_entry hs hl) (fun v hv => by cases hv)
  intro v μ' H' locs' ls' pc' hQ hT hK hS' hva hdg
  have hq : ∀ t : State, t.heap = H' → s.WarmedH t.vm → mzPost G (mzRt y) Q ((as.map (mzC G)).toArray) s (.returned (mzOv G v)) t := fun t ht _ => ⟨v, μ', rfl, hQ, hT, hK, by rw [ht]; exact hS', hva.F ht⟩
  have hlk := B.notSynchronized
  cases hrt : mzRt y with
  | none =>
    rw [hrt] at hT hr hdg hq
    subst hT
    exact W.vret B.exec B.bytes hr hq hva.2.2 hdg hlk
  | some ty =>
    rw [hrt] at hT hr hdg hq
    cases ty with
    | int =>
      obtain ⟨x0, rfl⟩ := hT
      exact W.iret B.exec B.bytes hr hq hva.2.2 hdg hlk
    | boolean =>
      rcases hT with rfl | rfl
      · exact W.zret B.exec B.bytes hr (by decide) hq hva.2.2 hdg hlk
      · exact W.zret B.exec B.bytes hr (by decide) hq hva.2.2 hdg hlk
    | long =>
      obtain ⟨x0, rfl⟩ := hT
      exact W.lret B.exec B.bytes hr hq hva.2.2 hdg hlk
    | object n =>
      obtain ⟨p0, o0, rfl⟩ := hT
      exact W.aret B.exec B.bytes hr (Or.inl ⟨_, rfl⟩) (Or.inr ⟨_, rfl⟩) hq hva.2.2 hdg hlk
    | array t1 =>
      obtain ⟨p0, o0, rfl⟩ := hT
      exact W.aret B.exec B.bytes hr (Or.inr ⟨_, rfl⟩) (Or.inr ⟨_, rfl⟩) hq hva.2.2 hdg hlk
    | _ =>
      have hf : ∀ y, y < 192 → mzRt y ≠ some .byte ∧ mzRt y ≠ some .char ∧ mzRt y ≠ some .double ∧ mzRt y ≠ some .float ∧ mzRt y ≠ some .short := by decide +kernel
      have := hf y hy
      simp [hrt] at this
