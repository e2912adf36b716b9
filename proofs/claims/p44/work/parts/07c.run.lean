/-- where nothing is written at once, another's rows are taken -/
def mzSimple (i : Instr) : Bool := match i with
  | .goto _ => false
  | .ifCond _ _ => false
  | .if_icmp _ _ => false
  | .tableswitch _ _ _ _ => false
  | .lookupswitch _ _ => false
  | .ireturn => false
  | .lreturn => false
  | .areturn => false
  | .return_ => false
  | .invokevirtual _ => false
  | .invokestatic _ => false
  | _ => true
theorem mz_simple {i : Instr} (h : mzSimple i = true) {d y : Nat} {cd : List mzO} {Q : mzV → mzM → Prop} {V : List mzO → List mzV → List mzV → mzM → Prop} {pc : Nat} {a : Int} {b c : Nat} {r : List mzO} {L S : List mzV} {μ : mzM} :
    mzStp d y cd Q V pc i a b c r L S μ = mz1 i a b c y (fun L S μ => V r L S μ) L S μ ∧ mzO2 y pc i a b c = mzO1 y pc i a b c ∧ mzEd i = false ∧ mzSw i = false := by
  cases i <;> first | exact absurd h Bool.false_ne_true | exact ⟨rfl, rfl, rfl, rfl⟩
section MZU
variable {G : mzG} {p : Program} {l : Launch} {e : Env} {R : Room} {s : State} {m : MethodId} {args : Array Value} {below : List Frame} {meth : Method} {c : Code} {cells slots : Nat} {Z : State → Prop} {y d pc : Nat} {L S : List mzV} {μ : mzM}
theorem mzr_if (C : mzCx G p R s m args meth c y d cells slots) {q : Jvm.ClassFile.Cond} {off : Int} {b : Nat} {x : Int} {T F : Prop} (hd : decode (mzBy y) pc = .ok (.ifCond q off, 3)) (ht : (pc : Int) + off = (b : Int)) (h : mzIf q x 0 T F)
    (kt : T → mzGo G p l e R s m args below meth c cells slots Z y b L S μ) (kf : F → mzGo G p l e R s m args below meth c cells slots Z y (pc + 3) L S μ) : mzGo G p l e R s m args below meth c cells slots Z y pc L (mzI x :: S) μ := by
  intro H locs ls h1 h2 h3 h4
  have hx := (mz_skh h4).2
  have h0 : -2147483648 ≤ (0 : Int) ∧ (0 : Int) < 2147483648 := by omega
  have e0 : (0 : Int32) = Int32.ofInt 0 := rfl
  have gt : T → W p l e R s m args below meth c H locs cells slots Z (F0 m b ls (S.map (mzC G))) := fun z => kt z H locs ls h1 h2 h3 (mz_skt h4)
  have gf : F → W p l e R s m args below meth c H locs cells slots Z (F0 m (pc + 3) ls (S.map (mzC G))) := fun z => kf z H locs ls h1 h2 h3 (mz_skt h4)
  cases q with
  | eq => exact lv_if_eq C.1 C.2.1 hd ht (fun z => gt (h.1 ((mz_eq hx h0).mp z))) (fun z => gf (h.2 (fun w => z ((mz_eq hx h0).mpr w))))
  | ne => exact lv_if_ne C.1 C.2.1 hd ht (fun z => gt (h.1 (fun w => z ((mz_eq hx h0).mpr w)))) (fun z => gf (h.2 ((mz_eq hx h0).mp z)))
  | lt => exact lv_if_lt C.1 C.2.1 hd ht (fun z => gt (h.1 ((mz_lt hx h0).mp z))) (fun z => gf (h.2 (Int.not_lt.mp fun w => z ((mz_lt hx h0).mpr w))))
  | ge => exact lv_if_ge C.1 C.2.1 hd ht (fun z => gt (h.1 ((mz_le h0 hx).mp z))) (fun z => gf (h.2 (Int.not_le.mp fun w => z ((mz_le h0 hx).mpr w))))
  | gt => exact lv_if_gt C.1 C.2.1 hd ht (fun z => gt (h.1 ((mz_lt h0 hx).mp z))) (fun z => gf (h.2 (Int.not_lt.mp fun w => z ((mz_lt h0 hx).mpr w))))
  | le => exact lv_if_le C.1 C.2.1 hd ht (fun z => gt (h.1 ((mz_le hx h0).mp z))) (fun z => gf (h.2 (Int.not_le.mp fun w => z ((mz_le hx h0).mpr w))))
theorem mzr_icmp (C : mzCx G p R s m args meth c y d cells slots) {q : Jvm.ClassFile.Cond} {off : Int} {b : Nat} {x v : Int} {T F : Prop} (hd : decode (mzBy y) pc = .ok (.if_icmp q off, 3)) (ht : (pc : Int) + off = (b : Int)) (h : mzIf q x v T F)
    (kt : T → mzGo G p l e R s m args below meth c cells slots Z y b L S μ) (kf : F → mzGo G p l e R s m args below meth c cells slots Z y (pc + 3) L S μ) : mzGo G p l e R s m args below meth c cells slots Z y pc L (mzI v :: mzI x :: S) μ := by
  intro H locs ls h1 h2 h3 h4
  have hx := (mz_skh (mz_skt h4)).2
  have h0 := (mz_skh h4).2
  have gt : T → W p l e R s m args below meth c H locs cells slots Z (F0 m b ls (S.map (mzC G))) := fun z => kt z H locs ls h1 h2 h3 (mz_skt (mz_skt h4))
  have gf : F → W p l e R s m args below meth c H locs cells slots Z (F0 m (pc + 3) ls (S.map (mzC G))) := fun z => kf z H locs ls h1 h2 h3 (mz_skt (mz_skt h4))
  cases q with
  | eq => exact lv_icmp_eq C.1 C.2.1 hd ht (fun z => gt (h.1 ((mz_eq hx h0).mp z))) (fun z => gf (h.2 (fun w => z ((mz_eq hx h0).mpr w))))
  | ne => exact lv_icmp_ne C.1 C.2.1 hd ht (fun z => gt (h.1 (fun w => z ((mz_eq hx h0).mpr w)))) (fun z => gf (h.2 ((mz_eq hx h0).mp z)))
  | lt => exact lv_icmp_lt C.1 C.2.1 hd ht (fun z => gt (h.1 ((mz_lt hx h0).mp z))) (fun z => gf (h.2 (Int.not_lt.mp fun w => z ((mz_lt hx h0).mpr w))))
  | ge => exact lv_icmp_ge C.1 C.2.1 hd ht (fun z => gt (h.1 ((mz_le h0 hx).mp z))) (fun z => gf (h.2 (Int.not_le.mp fun w => z ((mz_le h0 hx).mpr w))))
  | gt => exact lv_icmp_gt C.1 C.2.1 hd ht (fun z => gt (h.1 ((mz_lt h0 hx).mp z))) (fun z => gf (h.2 (Int.not_lt.mp fun w => z ((mz_lt h0 hx).mpr w))))
  | le => exact lv_icmp_le C.1 C.2.1 hd ht (fun z => gt (h.1 ((mz_le hx h0).mp z))) (fun z => gf (h.2 (Int.not_le.mp fun w => z ((mz_le hx h0).mpr w))))
theorem mz_ts {pc : Nat} {k : Nat → Prop} {x : Int} : ∀ (offs : List Int) (lo : Int), mzTs pc offs lo x k → ∀ j : Nat, j < offs.length → x = lo + (j : Int) → ∃ o, offs[j]? = some o ∧ k ((pc : Int) + o).toNat := by
  intro offs
  induction offs with
  | nil => intro lo _ j hj; simp at hj
  | cons o r ih =>
    intro lo h j hj hx
    cases j with
    | zero => exact ⟨o, rfl, h.1 (by omega)⟩
    | succ j =>
      obtain ⟨o', h1, h2⟩ := ih (lo + 1) h.2 j (by simpa using hj) (by omega)
      exact ⟨o', h1, h2⟩
theorem mz_ls {pc : Nat} {k : Nat → Prop} {x dflt : Int} : ∀ (ps : List (Int × Int)), mzLs pc ps x k (k ((pc : Int) + dflt).toNat) → k ((pc : Int) + Op.lookupswitch.offset ps dflt x).toNat := by
  intro ps
  induction ps with
  | nil => intro h; exact h
  | cons q r ih =>
    obtain ⟨a, o⟩ := q
    intro h
    simp only [mzLs] at h
    show k ((pc : Int) + (if a = x then o else Op.lookupswitch.offset r dflt x)).toNat
    by_cases e : a = x
    · rw [if_pos e]
      exact h.1 e.symm
    · rw [if_neg e]
      exact ih (h.2 (fun z => e z.symm))
theorem mz_rc {ci : Nat} {v : mzV} {P : Prop} (h : mzRc ci v P) : P ∧ ∃ t z, mzC G v = .ref (mzAd G t) ∧ mzSh t = (1, ci, z) := by
  unfold mzRc at h
  split at h
  · next k =>
    split at h
    · next hO =>
      obtain ⟨z, hz⟩ := mz_isO hO
      exact ⟨h, k, z, rfl, hz⟩
    · exact h.elim
  · next q o =>
    split at h
    · next cnt c0 hp =>
      split at h
      · next hc =>
        obtain ⟨rfl, rfl, rfl⟩ := mz_pool1 hp
        have hcc : ci = 1 := (Nat.eq_of_beq_eq_true hc).symm
        subst hcc
        exact ⟨h.2, 44 + o, 0, rfl, mz_pools (44, 4, 1, 1) (by decide) (by decide) o h.1⟩
      · exact h.elim
    · exact h.elim
  · exact h.elim
set_option maxHeartbeats 2000000 in
theorem mzStp_ok (C : mzCx G p R s m args meth c y d cells slots) {Q : mzV → mzM → Prop} (hR : ∀ (v : mzV) (μ' : mzM) (H' : Heap) (locs' : List Loc) (ls' : Array Slot) (pc' : Nat), Q v μ' → mzTyp (mzRt y) v → mzK v → mzSt G H' μ' → va_S (mzA G) s.heap H' locs' → decode (mzBy y) pc' = .ok (mzRi (mzRt y), 1) → W p l e R s m args below meth c H' locs' cells slots Z (F0 m pc' ls' (mzRs G v)))
    {cd : List mzO} (hcd : mzGd y cd) {V : List mzO → List mzV → List mzV → mzM → Prop} (hV : ∀ r L S μ, mzGd y r → V r L S μ → ∃ e0 r', r = e0 :: r' ∧ mzGo G p l e R s m args below meth c cells slots Z y e0.1 L S μ)
    {i : Instr} {a : Int} {b c0 : Nat} {r : List mzO} (hr0 : mzGd y ((pc, i, a, b, c0) :: r)) (h : mzStp d y cd Q V pc i a b c0 r L S μ) : mzGo G p l e R s m args below meth c cells slots Z y pc L S μ := by
  have hr := hr0.1
  have hdg : decode (mzBy y) pc = .ok (i, mzLb (pc, i, a, b, c0)) := hr0.2 (pc, i, a, b, c0) List.mem_cons_self
  simp only [mzChk, Bool.and_eq_true] at hr
  obtain ⟨hok, hnx, hrr1⟩ := hr
  have hrr : mzGd y r := ⟨hrr1, fun e0 he => hr0.2 e0 (List.mem_cons_of_mem _ he)⟩
  have jmp : ∀ {t : Nat} {L S : List mzV} {μ : mzM}, V (mzDr cd t) L S μ → mzGo G p l e R s m args below meth c cells slots Z y t L S μ := by
    intro t L S μ hv
    obtain ⟨e0, r', h1, h2⟩ := hV _ _ _ _ (mz_drgd hcd) hv
    rw [mz_drpc h1] at h2
    exact h2
  have fall : mzEd i = false → ∀ {L S : List mzV} {μ : mzM}, V r L S μ → mzGo G p l e R s m args below meth c cells slots Z y (pc + mzLn i) L S μ := by
    intro hE L S μ hv
    obtain ⟨e0, r', h1, h2⟩ := hV _ _ _ _ hrr hv
    subst h1
    simp only [hE, Bool.false_or] at hnx
    rw [Nat.eq_of_beq_eq_true hnx] at h2
    exact h2
  by_cases hs : mzSimple i = true
  · obtain ⟨e1, e2, e3, e4⟩ := mz_simple hs (d := d) (y := y) (cd := cd) (Q := Q) (V := V) (pc := pc) (a := a) (b := b) (c := c0) (r := r) (L := L) (S := S) (μ := μ)
    rw [e1] at h
    rw [e2] at hok
    have hdg1 : decode (mzBy y) pc = .ok (i, mzLn i) := by rw [hdg]; unfold mzLb; rw [e4]
    exact mz1_ok C hdg1 hok h (fun L' S' μ' hv => fall e3 hv)
  · cases i <;> first | exact absurd rfl hs | skip
    · -- areturn
      have hok : mzRi (mzRt y) = .areturn := of_decide_eq_true hok
      simp only [mzStp] at h
      split at h
      · next q o =>
        intro H locs ls h1 h2 h3 h4
        have hty : mzTyp (mzRt y) (mzP q o) := by
          have h9 := hok
          cases hrt : mzRt y with
          | none => rw [hrt] at h9; cases h9
          | some ty =>
            rw [hrt] at h9
            cases ty with
            | int => cases h9
            | boolean => cases h9
            | long => cases h9
            | _ => exact ⟨q, o, rfl⟩
        exact hR _ μ H locs ls pc h hty trivial h1 h2 (by rw [hok]; exact hdg)
      · exact h.elim
    · -- goto
      simp only [mzO2, decide_eq_true_eq] at hok
      simp only [mzStp] at h
      exact fun H locs ls h1 h2 h3 h4 => lv_goto C.1 C.2.1 hdg hok (jmp h H locs ls h1 h2 h3 h4)
    · -- if_icmp
      simp only [mzO2, decide_eq_true_eq] at hok
      simp only [mzStp] at h
      split at h
      · exact mzr_icmp C hdg hok h (fun z => jmp z) (fun z => fall rfl z)
      · exact h.elim
    · -- ifCond
      simp only [mzO2, decide_eq_true_eq] at hok
      simp only [mzStp] at h
      split at h
      · exact mzr_if C hdg hok h (fun z => jmp z) (fun z => fall rfl z)
      · exact h.elim
    · -- invokestatic
      next k =>
      simp only [mzO2] at hok
      simp only [mzStp, mzInv] at h
      split at h
      · exact h.elim
      · next d1 =>
        split at h
        · have h9 := hok
          simp only [Bool.and_eq_true] at h9
          exact mzPr_ok C (st := true) h9.1 (Or.inl ⟨Nat.le_of_ble_eq_true h9.2, hdg⟩) h (fun L' S' μ' hv => fall rfl hv)
        · next hb0 =>
          split at h
          · next hz =>
            simp only [Bool.and_eq_true] at hz
            have h9 : decide ((mzOw y, k, b, 2) ∈ mzML) = true ∧ decide (c0 = mzNp b) = true := by
              have h8 := hok
              split at h8
              · exact absurd rfl hb0
              · simpa only [Bool.and_eq_true] using h8
            exact mzr_callS C (of_decide_eq_true h9.1) (of_decide_eq_true h9.2) (Nat.le_of_ble_eq_true hz.2.1) (Nat.le_of_ble_eq_true hz.1) (Nat.le_of_ble_eq_true hz.2.2) hdg h (fun v μ' hv => fall rfl hv)
          · exact h.elim
    · -- invokevirtual
      next k =>
      simp only [mzO2] at hok
      simp only [mzStp, mzInv] at h
      split at h
      · exact h.elim
      · next d1 =>
        split at h
        · have h9 := hok
          simp only [Bool.and_eq_true] at h9
          exact mzPr_ok C (st := false) h9.1 (Or.inr ⟨Nat.le_of_ble_eq_true h9.2, hdg⟩) h (fun L' S' μ' hv => fall rfl hv)
        · next hb0 =>
          split at h
          · next hz =>
            simp only [Bool.and_eq_true] at hz
            have h9 : decide ((mzOw y, k, b, 0) ∈ mzML ∨ (mzOw y, k, b, 1) ∈ mzML) = true ∧ decide (c0 = mzNp b + 1) = true := by
              have h8 := hok
              split at h8
              · exact absurd rfl hb0
              · simpa only [Bool.and_eq_true] using h8
            obtain ⟨hc, t, z, g1, g2⟩ := mz_rc (G := G) h
            have hlen := Nat.le_of_ble_eq_true hz.2.1
            have hc0 : c0 = mzNp b + 1 := of_decide_eq_true h9.2
            cases hu : (S.take c0).reverse with
            | nil =>
              have : (S.take c0).reverse.length = c0 := by rw [List.length_reverse, List.length_take]; omega
              rw [hu] at this
              simp at this
              omega
            | cons u as =>
              rw [hu] at g1
              exact mzr_callV C (of_decide_eq_true h9.1) hc0 hlen (Nat.le_of_ble_eq_true hz.1) (Nat.le_of_ble_eq_true hz.2.2) hdg hu g1 g2 hc (fun v μ' hv => fall rfl hv)
          · exact h.elim
    · -- ireturn
      simp only [mzO2] at hok
      simp only [mzStp] at h
      split at h
      · next x0 =>
        intro H locs ls h1 h2 h3 h4
        have hx := (mz_skh h4).2
        split at h
        · have h9 : mzRt y = some .int := of_decide_eq_true hok
          exact hR _ μ H locs ls pc h (by rw [h9]; exact ⟨x0, rfl⟩) hx h1 h2 (by rw [h9]; exact hdg)
        · next hc1 =>
          have h9 : mzRt y = some .boolean := by
            have h8 := hok
            split at h8
            · next hc2 => exact absurd rfl hc1
            · exact of_decide_eq_true h8
          refine hR _ μ H locs ls pc h.2 ?_ hx h1 h2 (by rw [h9]; exact hdg)
          rw [h9]
          rcases h.1 with rfl | rfl
          · exact Or.inl rfl
          · exact Or.inr rfl
      · exact h.elim
    · -- lookupswitch
      next dflt ps =>
      simp only [mzO2, Bool.and_eq_true, decide_eq_true_eq] at hok
      simp only [mzStp] at h
      split at h
      · next x0 S' =>
        have h5 := mz_ls (k := fun t => V (mzDr cd t) L S' μ) ps.toList h
        have hpos : 0 ≤ (pc : Int) + Op.lookupswitch.offset ps.toList dflt x0 := by
          have hall := List.all_eq_true.mp hok.2.1
          have h0 := hok.1
          clear h5 h hok
          have key : ∀ (l : List (Int × Int)), (∀ q ∈ l, decide (0 ≤ (pc : Int) + q.2) = true) → 0 ≤ (pc : Int) + Op.lookupswitch.offset l dflt x0 := by
            intro l
            induction l with
            | nil => intro _; exact h0
            | cons q r ihr =>
              intro hl
              obtain ⟨a9, o9⟩ := q
              show 0 ≤ (pc : Int) + (if a9 = x0 then o9 else Op.lookupswitch.offset r dflt x0)
              by_cases e9 : a9 = x0
              · rw [if_pos e9]
                exact of_decide_eq_true (hl _ List.mem_cons_self)
              · rw [if_neg e9]
                exact ihr (fun q hq => hl q (List.mem_cons_of_mem _ hq))
          exact key _ hall
        intro H locs ls h1 h2 h3 h4
        have hx := (mz_skh h4).2
        exact lv_lookup C.1 C.2.1 (off := Op.lookupswitch.offset ps.toList dflt x0) (tgt := ((pc : Int) + Op.lookupswitch.offset ps.toList dflt x0).toNat) hdg (by simpa using hok.2.2) (by rw [mz_id hx]) (by omega) (jmp h5 H locs ls h1 h2 h3 (mz_skt h4))
      · exact h.elim
    · -- lreturn
      simp only [mzO2, decide_eq_true_eq] at hok
      simp only [mzStp] at h
      split at h
      · next x0 =>
        intro H locs ls h1 h2 h3 h4
        exact hR _ μ H locs ls pc h (by rw [hok]; exact ⟨x0, rfl⟩) (mz_skh h4).2 h1 h2 (by rw [hok]; exact hdg)
      · exact h.elim
    · -- return_
      simp only [mzO2, decide_eq_true_eq] at hok
      simp only [mzStp] at h
      split at h
      · intro H locs ls h1 h2 h3 h4
        exact hR _ μ H locs ls pc h (by rw [hok]; rfl) trivial h1 h2 (by rw [hok]; exact hdg)
      · exact h.elim
    · -- tableswitch
      next dflt lo hi offs =>
      simp only [mzO2, Bool.and_eq_true, decide_eq_true_eq] at hok
      simp only [mzStp] at h
      split at h
      · next x0 S' =>
        intro H locs ls h1 h2 h3 h4
        have hx := (mz_skh h4).2
        by_cases hin : x0 < lo ∨ hi < x0
        · exact lv_tableOut C.1 C.2.1 (tgt := ((pc : Int) + dflt).toNat) hdg (by rw [mz_id hx]; exact hin) (by omega) (jmp (h.2 hin) H locs ls h1 h2 h3 (mz_skt h4))
        · obtain ⟨o, h5, h6⟩ := mz_ts (k := fun t => V (mzDr cd t) L S' μ) offs.toList lo h.1 (x0 - lo).toNat (by omega) (by omega)
          have hpos := of_decide_eq_true (List.all_eq_true.mp hok.2.1 o (List.mem_of_getElem? h5))
          exact lv_tableIn C.1 C.2.1 (off := o) (tgt := ((pc : Int) + o).toNat) hdg (by rw [mz_id hx]; omega) (by rw [mz_id hx]; omega) (by rw [mz_id hx, ← Array.getElem?_toList]; exact h5) (by omega) (jmp h6 H locs ls h1 h2 h3 (mz_skt h4))
      · exact h.elim
end MZU
theorem mz_maskl : ∀ (k : List Bool) (L : List mzV), (mzMask k L).length = L.length ∧ ∀ (i : Nat) (v : Int ⊕ (Int ⊕ (Nat ⊕ (Nat × Nat)))), (mzMask k L)[i]? = some (some v) → L[i]? = some (some v) := by
  intro k
  induction k with
  | nil =>
    intro L
    cases L with
    | nil => exact ⟨rfl, fun i v h => h⟩
    | cons a r => exact ⟨rfl, fun i v h => h⟩
  | cons b bs ih =>
    intro L
    cases L with
    | nil => cases b <;> exact ⟨rfl, fun i v h => h⟩
    | cons a r =>
      cases b with
      | true =>
        simp only [mzMask]
        refine ⟨by simp [(ih r).1], fun i v h => ?_⟩
        cases i with
        | zero => exact h
        | succ i => exact (ih r).2 i v h
      | false =>
        simp only [mzMask]
        refine ⟨by simp [(ih r).1], fun i v h => ?_⟩
        cases i with
        | zero => simp at h
        | succ i => exact (ih r).2 i v h
theorem mz_mask {G : mzG} {y : Nat} {ls : Array Slot} {L : List mzV} (k : List Bool) (h : mzFr G y ls L) : mzFr G y ls (mzMask k L) := ⟨h.1, h.2.1, by rw [(mz_maskl k L).1]; exact h.2.2.1, fun i v hv => h.2.2.2 i v ((mz_maskl k L).2 i v hv)⟩
/-- what is computed from a place on holds of the machine there -/
theorem mzVc_ok {d y : Nat} {cd : List mzO} {Q : mzV → mzM → Prop} {cuts : List (Nat × List Bool)} (hcd : mzGd y cd) {G : mzG} {p : Program} {l : Launch} {e : Env} {R : Room} {s : State} {m : MethodId} {args : Array Value} {below : List Frame} {meth : Method} {c : Code} {cells slots : Nat} {Z : State → Prop} (C : mzCx G p R s m args meth c y d cells slots)
    (hR : ∀ (v : mzV) (μ' : mzM) (H' : Heap) (locs' : List Loc) (ls' : Array Slot) (pc' : Nat), Q v μ' → mzTyp (mzRt y) v → mzK v → mzSt G H' μ' → va_S (mzA G) s.heap H' locs' → decode (mzBy y) pc' = .ok (mzRi (mzRt y), 1) → W p l e R s m args below meth c H' locs' cells slots Z (F0 m pc' ls' (mzRs G v))) :
    ∀ (n : Nat) (r : List mzO) (L S : List mzV) (μ : mzM), mzGd y r → mzVc d y cd Q cuts n r L S μ → ∃ e0 r', r = e0 :: r' ∧ mzGo G p l e R s m args below meth c cells slots Z y e0.1 L S μ := by
  intro n
  induction n with
  | zero => intro r L S μ _ h; exact h.elim
  | succ n ih =>
    intro r L S μ hr h
    cases r with
    | nil => exact h.elim
    | cons e0 r' =>
      obtain ⟨pc, i, a, b, c0⟩ := e0
      refine ⟨_, _, rfl, ?_⟩
      simp only [mzVc] at h
      split at h
      · exact fun H locs ls h1 h2 h3 h4 => h G p l e R s m args below meth c cells slots Z C hR H locs ls h1 h2 (mz_mask _ h3) h4
      · exact mzStp_ok C hR hcd ih hr h
theorem mzVg_ok {d y : Nat} {cd : List mzO} {Q : mzV → mzM → Prop} {cuts : List (Nat × List Bool)} {n pc : Nat} {L S : List mzV} {μ : mzM} (hcd : mzGd y cd) (h : mzVg d y cd Q cuts n pc L S μ) : mzWp d y pc L S μ Q := by
  intro G p l e R s m args below meth c cells slots Z C hR
  unfold mzVg at h
  split at h
  · exact h.elim
  · next pc1 i a b c0 r' he =>
    have h1 := mz_drpc he
    have h1 : pc1 = pc := h1
    subst h1
    have hr := mz_drgd (t := pc1) hcd
    rw [he] at hr
    exact mzStp_ok C hR hcd (mzVc_ok hcd C hR n) hr h
