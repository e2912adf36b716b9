/-! the machine follows what is computed, call by call -/
def mzNp (y : Nat) : Nat := ((parseMethodDescriptor (mzYn y).desc).map (fun d => d.parameters.length)).getD 99
def mzPrW (own k c : Nat) : Bool := mzHas mzAll 11 own k c 0
def mzO2 (y pc : Nat) (i : Instr) (a : Int) (b c : Nat) : Bool := match i with
  | .goto off => decide ((pc : Int) + off = (b : Int))
  | .ifCond _ off => decide ((pc : Int) + off = (b : Int))
  | .if_icmp _ off => decide ((pc : Int) + off = (b : Int))
  | .tableswitch dflt lo hi offs => (decide (0 ≤ (pc : Int) + dflt) && (offs.toList.all (fun o => decide (0 ≤ (pc : Int) + o)) && decide (hi - lo + 1 = (offs.toList.length : Int))))
  | .lookupswitch dflt ps => (decide (0 ≤ (pc : Int) + dflt) && (ps.toList.all (fun o => decide (0 ≤ (pc : Int) + o.2)) && (ps.toList.zip (ps.toList.drop 1)).all (fun (a, next) => decide (a.1 < next.1))))
  | .ireturn => (match c with
    | 0 => decide (mzRt y = some .int)
    | _ => decide (mzRt y = some .boolean))
  | .lreturn => decide (mzRt y = some .long)
  | .areturn => decide (mzRi (mzRt y) = .areturn)
  | .return_ => decide (mzRt y = none)
  | .invokevirtual k => (match b with
    | 0 => mzPrW (mzOw y) k c && (Nat.ble 4 c)
    | _ => decide ((mzOw y, k, b, 0) ∈ mzML ∨ (mzOw y, k, b, 1) ∈ mzML) && decide (c = mzNp b + 1))
  | .invokestatic k => (match b with
    | 0 => mzPrW (mzOw y) k c && (Nat.ble c 3)
    | _ => decide ((mzOw y, k, b, 2) ∈ mzML) && decide (c = mzNp b))
  | _ => mzO1 y pc i a b c
def mzEd (i : Instr) : Bool := match i with
  | .goto _ => true
  | .tableswitch _ _ _ _ => true
  | .lookupswitch _ _ => true
  | .ireturn => true
  | .lreturn => true
  | .areturn => true
  | .return_ => true
  | _ => false
def mzChk (y : Nat) : List mzO → Bool
  | [] => true
  | (pc, i, a, b, c) :: r => mzO2 y pc i a b c && ((match r with
    | [] => true
    | e :: _ => mzEd i || Nat.beq e.1 (pc + mzLn i)) && mzChk y r)
theorem mz_drchk {y : Nat} : ∀ {cd : List mzO} {t : Nat}, mzChk y cd = true → mzChk y (mzDr cd t) = true := by
  intro cd
  induction cd with
  | nil => intro t h; exact h
  | cons e r ih =>
    intro t h
    unfold mzDr
    split
    · exact h
    · obtain ⟨pc, i, a, b, c⟩ := e
      simp only [mzChk, Bool.and_eq_true] at h
      exact ih h.2.2
/-- a method's code as it stands in the list: each instruction is where it is told to be, and what it needs is there -/
def mzGd (y : Nat) (cd : List mzO) : Prop := mzChk y cd = true ∧ ∀ e ∈ cd, decode (mzBy y) e.1 = .ok (e.2.1, mzLb e)
theorem mz_drin : ∀ {cd : List mzO} {t : Nat}, ∀ e ∈ mzDr cd t, e ∈ cd := by
  intro cd
  induction cd with
  | nil => intro t e h; exact h
  | cons z r ih =>
    intro t e h
    unfold mzDr at h
    split at h
    · exact h
    · exact List.mem_cons_of_mem _ (ih e h)
theorem mz_drgd {y t : Nat} {cd : List mzO} (h : mzGd y cd) : mzGd y (mzDr cd t) := ⟨mz_drchk h.1, fun e he => h.2 e (mz_drin e he)⟩
theorem mz_gd {y k : Nat} {cd : List mzO} (h1 : mzChk y cd = true) (h2 : mzBts k cd ((mzBy y).data.toList.drop k) = true) (h3 : cd.all (fun e => !(mzSw e.2.1) || mzDk y e.1 e.2.1 e.2.2.2.1) = true) : mzGd y cd := by
  refine ⟨h1, fun e he => ?_⟩
  unfold mzLb
  cases hs : mzSw e.2.1 with
  | true =>
    have := List.all_eq_true.mp h3 e he
    rw [hs] at this
    exact mz_dk (by simpa using this)
  | false => exact mz_bts cd k _ rfl h2 e he hs
theorem mz_drpc : ∀ {cd : List mzO} {t : Nat} {e : mzO} {r : List mzO}, mzDr cd t = e :: r → e.1 = t := by
  intro cd
  induction cd with
  | nil => intro t e r h; cases h
  | cons z q ih =>
    intro t e r h
    unfold mzDr at h
    split at h
    · next hb =>
      cases h
      exact Nat.eq_of_beq_eq_true hb
    · exact ih h
theorem mz_ML0 : ∀ q ∈ mzML, q.2.2.1 < 192 ∧ 0 < q.2.2.1 ∧ (q.2.2.2 ≠ 1 → mzHas mzAll 1 q.1 q.2.1 q.2.2.1 0 = true) ∧ (q.2.2.2 = 1 → mzHas mzAlN 1 q.1 q.2.1 q.2.2.1 0 = true) ∧ (q.2.2.2 ≤ 1 → mzHas mzAll 4 q.2.2.1 0 0 0 = true ∧ mzHas mzAll 5 q.2.2.1 0 0 0 = true ∧ mzOw q.2.2.1 < 6) ∧ (q.2.2.2 = 2 → mzHas mzAll 6 q.2.2.1 0 0 0 = true) := by decide +kernel
/-- what the list of methods says -/
theorem mz_ML (q : Nat × Nat × Nat × Nat) (hq : q ∈ mzML) : q.2.2.1 < 192 ∧ 0 < q.2.2.1 ∧ (q.2.2.2 ≠ 1 → Jvm.Cond.methodLink (mzNo q.1) q.2.1 (mzYn q.2.2.1) ∈ lw_tbl) ∧ (q.2.2.2 = 1 → Jvm.Cond.methodLinkNest (mzNo q.1) q.2.1 (mzYn q.2.2.1) "MeltPins" ∈ mzNest) ∧
    (q.2.2.2 ≤ 1 → Jvm.Cond.instanceMethod (mzYn q.2.2.1) ∈ lw_tbl ∧ Jvm.Cond.selects (mzYn q.2.2.1).cls (mzYn q.2.2.1) (mzYn q.2.2.1) ∈ lw_tbl ∧ mzOw q.2.2.1 < 6) ∧ (q.2.2.2 = 2 → Jvm.Cond.static (mzYn q.2.2.1) ∈ lw_tbl) := by
  obtain ⟨h1, h2, h3, h4, h5, h6⟩ := mz_ML0 q hq
  exact ⟨h1, h2, fun h => mz_in (h3 h), fun h => mz_inN (h4 h), fun h => ⟨mz_in (h5 h).1, mz_in (h5 h).2.1, (h5 h).2.2⟩, fun h => mz_in (h6 h)⟩
theorem mz_ini : ∀ o, o < 9 → Jvm.Cond.initialized (mzNo o) ∈ lw_tbl := by
  intro o ho
  have h : ∀ o, o < 9 → mzHas mzAll 3 o 0 0 0 = true := by decide +kernel
  exact mz_in (h o ho)
theorem mz_ow : ∀ y, y < 192 → mzOw y < 9 := by decide +kernel
theorem mz_desc : ∀ y, y < 192 → 0 < y → (parseMethodDescriptor (mzYn y).desc).map (fun d => d.parameters.length) = some (mzNp y) := by decide +kernel
theorem mz_noMH : ∀ o, o < 9 → mzNo o ≠ "java/lang/invoke/MethodHandle" ∧ mzNo o ≠ "java/lang/invoke/VarHandle" := by decide +kernel
theorem mz_prw : Jvm.Cond.static Lib.Math.max.name ∈ lw_tbl ∧ Jvm.Cond.static Lib.Math.min.name ∈ lw_tbl ∧ Jvm.Cond.initialized "java/lang/Math" ∈ lw_tbl ∧ Jvm.Cond.native arraycopyName ∈ lw_tbl ∧ Jvm.Cond.static arraycopyName ∈ lw_tbl ∧ Jvm.Cond.initialized "java/lang/System" ∈ lw_tbl := by
  have h : ∀ a ∈ [0, 1, 2, 5, 6, 7], mzHas mzAll 12 a 0 0 0 = true := by decide +kernel
  exact ⟨mz_in (h 0 (by decide)), mz_in (h 1 (by decide)), mz_in (h 2 (by decide)), mz_in (h 5 (by decide)), mz_in (h 6 (by decide)), mz_in (h 7 (by decide))⟩
theorem mz_goodws {y : Nat} (hy : y < 192) (h0 : 0 < y) : GoodIn mzTb (mzWs y) := fun w hw => by
  rcases List.mem_cons.mp hw with rfl | h
  · have := mz_tb (mz_code hy h0) rfl
    exact ⟨this, mz_good this⟩
  · exact ⟨h, mz_good h⟩
theorem mz_sz {G : mzG} : ∀ S : List mzV, ((S.map (mzC G)).map fun v => v.category).sum ≤ mzSz S := by
  intro S
  induction S with
  | nil => exact Nat.le_refl _
  | cons v r ih =>
    match v with
    | none =>
      show 1 + ((r.map (mzC G)).map fun v => v.category).sum ≤ mzSz r + 1
      omega
    | some (.inl x) =>
      show 1 + ((r.map (mzC G)).map fun v => v.category).sum ≤ mzSz r + 1
      omega
    | some (.inr (.inl x)) =>
      show 2 + ((r.map (mzC G)).map fun v => v.category).sum ≤ mzSz r + 2
      omega
    | some (.inr (.inr (.inl x))) =>
      show 1 + ((r.map (mzC G)).map fun v => v.category).sum ≤ mzSz r + 1
      omega
    | some (.inr (.inr (.inr (x, z)))) =>
      show 1 + ((r.map (mzC G)).map fun v => v.category).sum ≤ mzSz r + 1
      omega
section MZC
variable {G : mzG} {p : Program} {l : Launch} {e : Env} {R : Room} {s : State} {m : MethodId} {args : Array Value} {below : List Frame} {meth : Method} {c : Code} {cells slots : Nat} {Z : State → Prop} {y d pc : Nat} {L S : List mzV} {μ : mzM}
/-- behind a call -/
theorem mz_back {H : Heap} {locs : List Loc} {ls : Array Slot} {st0 rest : List Value} {r : Option FieldType} {Q : mzV → mzM → Prop} {a : Array Value} (hr : va_Run p l e R s m args below meth c H locs cells slots 0 0 (F0 m pc ls st0) rest (mzPost G r Q a) (mzA G)) (hS : va_S (mzA G) s.heap H locs)
    (kk : ∀ (v : mzV) (μ' : mzM) (H' : Heap) (locs' : List Loc), Q v μ' → mzTyp r v → mzK v → mzSt G H' μ' → va_S (mzA G) s.heap H' locs' → W p l e R s m args below meth c H' locs' cells slots Z (F0 m (pc + 3) ls ((mzOv G v).toList ++ rest))) : W p l e R s m args below meth c H locs cells slots Z (F0 m pc ls st0) := by
  intro T hT X
  obtain ⟨v, st₀, t, T', L, h0, X', hL, e1, e2, ⟨v', μ', hv, hQ, hTy, hK, hSt, hF⟩, st⟩ := hr T hT X
  cases hv
  unfold va_F at hF
  rw [h0] at hF
  obtain ⟨t2, a1, b1⟩ := kk v' μ' T'.heap (locs ++ L) hQ hTy hK (by rw [e1]; exact hSt) ⟨Nat.le_trans hS.1 (by rw [e1]; exact hF.1), fun q h1 h2 => by rw [e1, hF.2 q (Nat.lt_of_lt_of_le h1 hS.1) h2]; exact hS.2.1 q h1 h2, fun q hq => by
      rcases List.mem_append.mp hq with h | h
      · exact hS.2.2 q h
      · exact hL q h⟩ T' rfl X'
  exact ⟨t2, st t2 a1, b1⟩
theorem mz_pre {H : Heap} {locs : List Loc} {as : List mzV} (C : mzCx G p R s m args meth c y d cells slots) (h1 : mzSt G H μ) (h2 : va_S (mzA G) s.heap H locs) : ∀ U : State, U.heap = H → s.WarmedH U.vm → va_Pc (as.map (mzC G)) (mzPre G μ) (as.map (mzC G)).toArray U := by
  intro U hU hW
  subst hU
  exact ⟨rfl, mz_amb_w hW h2 C.2.2.2.2.2.2.2.1, h1⟩
theorem mz_room {d b : Nat} (C : mzCx G p R s m args meth c y (d + 1) cells slots) (hb : b < 192) : (mzRm d).frames + 1 ≤ R.frames ∧ 8 + (mzNl b + 11) + (mzRm d).locals ≤ R.locals := by
  have h1 : d + 1 + 4 ≤ R.frames := C.2.2.2.2.2.2.2.2.2.2.1.1
  have h3 : 64 * (d + 1) + 32 ≤ R.locals := C.2.2.2.2.2.2.2.2.2.2.1.2
  have h2 := mz_nl b hb
  show d + 4 + 1 ≤ R.frames ∧ 8 + (mzNl b + 11) + (64 * d + 32) ≤ R.locals
  generalize mzNl b = z at h2 ⊢
  clear hb C
  generalize R.frames = u at h1 ⊢
  generalize R.locals = v at h3 ⊢
  exact ⟨by omega, by omega⟩
/-- the receiver's cell -/
theorem mz_rcv {H : Heap} {k ci z : Nat} (C : mzCx G p R s m args meth c y d cells slots) (h1 : mzSt G H μ) (hk : mzSh k = (1, ci, z)) (hc : ci < 6) : ∃ cell : Cell, H[mzAd G k]? = some cell ∧ cell.vm.isStatics = false ∧ s.vm.findClass (mzNo ci) = some cell.cls := by
  have hk1 := mz_shlt hk (by decide)
  have he : (mzWo G μ)[k]? = some (mzAd G k, .inr (ci, (List.range (mzNf ci)).map (mzFv G μ ci k))) := by rw [mz_wo hk1, mz_ent1 hk]
  exact va_recv C.2.2.2.2.2.2.2.1.2.1 h1.1 (mz_cls ci hc) he
theorem mz_retk {d b : Nat} {as : List mzV} {K : mzV → mzM → Prop} (h : mzCall d b as μ K) : ∃ Q, mzCl d b as μ Q ∧ ∀ v μ', Q v μ' → mzTyp (mzRt b) v → K v μ' := by
  unfold mzCall mzRk at h
  cases hr : mzRt b with
  | none =>
    rw [hr] at h
    exact ⟨_, h, fun v μ' hq ht => by cases (show v = none from ht); exact hq⟩
  | some ty =>
    rw [hr] at h
    cases ty with
    | int => exact ⟨_, h, fun v μ' hq ht => by obtain ⟨x0, rfl⟩ := ht; exact hq⟩
    | boolean =>
      refine ⟨_, h, fun v μ' hq ht => ?_⟩
      rcases ht with rfl | rfl
      · exact hq
      · exact hq
    | long => exact ⟨_, h, fun v μ' hq ht => by obtain ⟨x0, rfl⟩ := ht; exact hq⟩
    | _ => exact ⟨_, h, fun v μ' hq ht => by
        obtain ⟨p0, o0, rfl⟩ := ht
        obtain ⟨e1, e2⟩ := hq
        rw [e1]
        exact e2⟩
theorem mz_ovl (v : mzV) (rest : List mzV) (S : List mzV) (h : S = rest) : (mzOv G v).toList ++ rest.map (mzC G) = (mzPu v S).map (mzC G) := by
  subst h
  cases v with
  | none => rfl
  | some w => rfl
theorem mz_take {n : Nat} (hs : mzSk S) : mzSk (S.take n).reverse := fun v hv => hs v (List.mem_of_mem_take (List.mem_reverse.mp hv))
theorem mz_drop {n : Nat} (hs : mzSk S) : mzSk (S.drop n) := fun v hv => hs v (List.mem_of_mem_drop hv)
theorem mz_stk (n : Nat) : S.map (mzC G) = ((S.take n).reverse.map (mzC G)).reverse ++ (S.drop n).map (mzC G) := by
  rw [← List.map_reverse, List.reverse_reverse, ← List.map_append, List.take_append_drop]
/-- words on an argument list -/
theorem mz_laysz : ∀ as : List mzV, (mzLay as).length ≤ 2 * as.length := by
  intro as
  induction as with
  | nil => exact Nat.le_refl _
  | cons a r ih =>
    match a with
    | none =>
      show (mzLay r).length + 1 ≤ 2 * (r.length + 1)
      omega
    | some (.inl x) =>
      show (mzLay r).length + 1 ≤ 2 * (r.length + 1)
      omega
    | some (.inr (.inl x)) =>
      show (mzLay r).length + 2 ≤ 2 * (r.length + 1)
      omega
    | some (.inr (.inr (.inl x))) =>
      show (mzLay r).length + 1 ≤ 2 * (r.length + 1)
      omega
    | some (.inr (.inr (.inr (x, z)))) =>
      show (mzLay r).length + 1 ≤ 2 * (r.length + 1)
      omega
end MZC
