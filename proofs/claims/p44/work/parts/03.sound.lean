/-! the machine follows: numbers -/
theorem mz_ofInt_toInt (x : Int32) : Int32.ofInt x.toInt = x := by simp
theorem mz_toInt (z : Int) : (Int32.ofInt z).toInt = mzW z := by
  rw [Int32.toInt_ofInt, mzW, Int.bmod_def]
  have h : Int32.size = 4294967296 := rfl
  rw [h]
  omega
theorem mz_toInt64 (z : Int) : (Int64.ofInt z).toInt = mzX z := by
  rw [Int64.toInt_ofInt, mzX, Int.bmod_def]
  have h : Int64.size = 18446744073709551616 := rfl
  rw [h]
  omega
theorem mz_W (z : Int) : Int32.ofInt (mzW z) = Int32.ofInt z := by rw [← mz_toInt, mz_ofInt_toInt]
theorem mz_ofInt_toInt64 (x : Int64) : Int64.ofInt x.toInt = x := by simp
theorem mz_Xo (z : Int) : Int64.ofInt (mzX z) = Int64.ofInt z := by rw [← mz_toInt64, mz_ofInt_toInt64]
theorem mz_id {x : Int} (h : -2147483648 ≤ x ∧ x < 2147483648) : (Int32.ofInt x).toInt = x := by
  rw [mz_toInt, mzW]; omega
theorem mz_id64 {x : Int} (h : -9223372036854775808 ≤ x ∧ x < 9223372036854775808) : (Int64.ofInt x).toInt = x := by
  rw [mz_toInt64, mzX]; omega
theorem mz_bd (x : Int32) : -2147483648 ≤ x.toInt ∧ x.toInt < 2147483648 := by
  have h := mz_toInt x.toInt
  rw [mz_ofInt_toInt] at h
  unfold mzW at h
  omega
theorem mz_bd64 (x : Int64) : -9223372036854775808 ≤ x.toInt ∧ x.toInt < 9223372036854775808 := by
  have h := mz_toInt64 x.toInt
  have e : Int64.ofInt x.toInt = x := by simp
  rw [e] at h
  unfold mzX at h
  omega
theorem mz_Wb (z : Int) : -2147483648 ≤ mzW z ∧ mzW z < 2147483648 := by unfold mzW; omega
theorem mz_Xb (z : Int) : -9223372036854775808 ≤ mzX z ∧ mzX z < 9223372036854775808 := by unfold mzX; omega
theorem mz_eq {x y : Int} (hx : -2147483648 ≤ x ∧ x < 2147483648) (hy : -2147483648 ≤ y ∧ y < 2147483648) : Int32.ofInt x = Int32.ofInt y ↔ x = y :=
  ⟨fun h => by rw [← mz_id hx, ← mz_id hy, h], fun h => by rw [h]⟩
theorem mz_lt {x y : Int} (hx : -2147483648 ≤ x ∧ x < 2147483648) (hy : -2147483648 ≤ y ∧ y < 2147483648) : Int32.ofInt x < Int32.ofInt y ↔ x < y := by
  rw [Int32.lt_iff_toInt_lt, mz_id hx, mz_id hy]
theorem mz_le {x y : Int} (hx : -2147483648 ≤ x ∧ x < 2147483648) (hy : -2147483648 ≤ y ∧ y < 2147483648) : Int32.ofInt x ≤ Int32.ofInt y ↔ x ≤ y := by
  rw [Int32.le_iff_toInt_le, mz_id hx, mz_id hy]
theorem mz_add (x y : Int) : Int32.ofInt x + Int32.ofInt y = Int32.ofInt (mzW (x + y)) := by rw [mz_W, Int32.ofInt_add]
theorem mz_sub (x y : Int) : Int32.ofInt x - Int32.ofInt y = Int32.ofInt (mzW (x - y)) := by rw [mz_W, Int32.ofInt_sub]
theorem mz_mul (x y : Int) : Int32.ofInt x * Int32.ofInt y = Int32.ofInt (mzW (x * y)) := by rw [mz_W, Int32.ofInt_mul]
theorem mz_addL (x y : Int) : Int64.ofInt x + Int64.ofInt y = Int64.ofInt (mzX (x + y)) := by rw [mz_Xo, Int64.ofInt_add]
theorem mz_mulL (x y : Int) : Int64.ofInt x * Int64.ofInt y = Int64.ofInt (mzX (x * y)) := by rw [mz_Xo, Int64.ofInt_mul]
theorem mz_nat {i : Int} (h : 0 ≤ i) : (Int32.ofInt i).toNatClampNeg = (mzW i).toNat := by
  show (Int32.ofInt i).toInt.toNat = _
  rw [mz_toInt]
theorem mz_nat' {i : Int} (h0 : 0 ≤ i) (h : i < 2147483648) : (Int32.ofInt i).toNatClampNeg = i.toNat := by
  show (Int32.ofInt i).toInt.toNat = _
  rw [mz_id ⟨by omega, h⟩]
theorem mz_vpin {i : Int} {n : Nat} (h0 : 0 ≤ i) (h : i < n) (hn : n < 2147483648) : vp_in (Int32.ofInt i) n := by
  rw [vp_in_iff, mz_id ⟨by omega, by omega⟩]
  exact ⟨h0, h⟩
/-! the places of a frame -/
theorem mz_Kkill {L : List mzV} {k i : Nat} {v : Int ⊕ (Int ⊕ (Nat ⊕ (Nat × Nat)))} (h : (mzKill L k)[i]? = some (some v)) : L[i]? = some (some v) ∧ (i + 1 = k → ∀ x, v ≠ .inr (.inl x)) := by
  cases k with
  | zero => exact ⟨h, fun e => by omega⟩
  | succ j =>
    simp only [mzKill] at h
    split at h
    · by_cases hij : j = i
      · subst hij
        rw [List.getElem?_set_self'] at h
        cases hL : L[j]? with
        | none => rw [hL] at h; cases h
        | some w => rw [hL] at h; cases h
      · rw [List.getElem?_set_ne hij] at h
        exact ⟨h, fun e => by omega⟩
    · next hn =>
      refine ⟨h, fun e x hx => ?_⟩
      have : i = j := by omega
      subst this
      subst hx
      refine hn x ?_
      rw [List.getD_eq_getElem?_getD, h]
      rfl
theorem mz_killlen (L : List mzV) (k : Nat) : (mzKill L k).length = L.length := by
  cases k with
  | zero => rfl
  | succ j =>
    simp only [mzKill]
    split <;> simp
def mzAs (G : mzG) (L : List mzV) : List (Nat × Value) := (List.range L.length).filterMap fun i => match L.getD i none with
  | some v => some (i, mzC G (some v))
  | none => none
theorem mz_asmem {G : mzG} {L : List mzV} {q : Nat × Value} (h : q ∈ mzAs G L) : ∃ v, L[q.1]? = some (some v) ∧ q.2 = mzC G (some v) := by
  unfold mzAs at h
  obtain ⟨i, hi, hq⟩ := List.mem_filterMap.mp h
  split at hq
  · next v hv =>
    cases hq
    refine ⟨v, ?_, rfl⟩
    rw [List.getD_eq_getElem?_getD] at hv
    cases hL : L[i]? with
    | none => rw [hL] at hv; cases hv
    | some w => rw [hL] at hv; exact congrArg some hv
  · cases hq
theorem mz_memas {G : mzG} {L : List mzV} {i : Nat} {v : Int ⊕ (Int ⊕ (Nat ⊕ (Nat × Nat)))} (h : L[i]? = some (some v)) : (i, mzC G (some v)) ∈ mzAs G L := by
  unfold mzAs
  refine List.mem_filterMap.mpr ⟨i, List.mem_range.mpr (List.getElem?_eq_some_iff.mp h).1, ?_⟩
  rw [List.getD_eq_getElem?_getD, h]
  rfl
theorem mz_has {G : mzG} {y : Nat} {ls : Array Slot} {L : List mzV} (h : mzFr G y ls L) : lv_has ls (mzNl y) (mzAs G L) := ⟨h.1, h.2.1, fun q hq => by
  obtain ⟨v, h1, h2⟩ := mz_asmem hq
  rw [h2]
  exact (h.2.2.2 _ _ h1).1⟩
theorem mz_cat1 {G : mzG} {v : mzV} (h : mzC1 v = true) : (mzC G v).category = 1 := by
  match v, h with
  | some (.inl _), _ => rfl
  | some (.inr (.inr (.inl _))), _ => rfl
  | some (.inr (.inr (.inr (_, _)))), _ => rfl
theorem mz_put1 {G : mzG} {y k : Nat} {ls ls' : Array Slot} {L : List mzV} {v : mzV} {lv : List (Nat × Value)} (h : mzFr G y ls L) (hv : v ≠ none) (hk : mzK v)
    (hlv : lv = (k, mzC G v) :: (mzAs G L).filter (fun q => !(q.1 == k) && !(q.1 + 1 == k && q.2.category == 2))) (h' : lv_has ls' (mzNl y) lv) : mzFr G y ls' (mzPut L k v) := by
  refine ⟨h'.1, h'.2.1, ?_, fun i w hw => ?_⟩
  · unfold mzPut
    rw [List.length_set, mz_killlen]
    exact h.2.2.1
  · unfold mzPut at hw
    by_cases hik : k = i
    · subst hik
      rw [List.getElem?_set_self'] at hw
      have hvw : v = some w := by
        cases hL : (mzKill L k)[k]? with
        | none => rw [hL] at hw; cases hw
        | some z => rw [hL] at hw; exact Option.some.inj hw
      subst hvw
      refine ⟨?_, hk⟩
      have := h'.2.2 (k, mzC G (some w)) (by rw [hlv]; exact List.mem_cons_self)
      exact this
    · rw [List.getElem?_set_ne hik] at hw
      obtain ⟨h1, h2⟩ := mz_Kkill hw
      refine ⟨?_, (h.2.2.2 i w h1).2⟩
      refine h'.2.2 (i, mzC G (some w)) ?_
      rw [hlv]
      refine List.mem_cons_of_mem _ (List.mem_filter.mpr ⟨mz_memas h1, ?_⟩)
      have e1 : (i == k) = false := by simp; omega
      by_cases e : i + 1 = k
      · have hc : (mzC G (some w)).category = 1 := by
          refine mz_cat1 ?_
          match w, h2 e with
          | .inl _, _ => rfl
          | .inr (.inl x), h9 => exact absurd rfl (h9 x)
          | .inr (.inr _), _ => rfl
        simp [e1, hc]
      · simp [e1]; omega
theorem mz_put2 {G : mzG} {y k : Nat} {ls ls' : Array Slot} {L : List mzV} {x : Int} {lv : List (Nat × Value)} (h : mzFr G y ls L) (hk : mzK (mzL x))
    (hlv : lv = (k, mzC G (mzL x)) :: (mzAs G L).filter (fun q => !(q.1 == k) && (!(q.1 == k + 1) && !(q.1 + 1 == k && q.2.category == 2)))) (h' : lv_has ls' (mzNl y) lv) : mzFr G y ls' (mzPut2 L k (mzL x)) := by
  refine ⟨h'.1, h'.2.1, ?_, fun i w hw => ?_⟩
  · unfold mzPut2
    rw [List.length_set, List.length_set, mz_killlen]
    exact h.2.2.1
  · unfold mzPut2 at hw
    by_cases hi1 : k + 1 = i
    · subst hi1
      rw [List.getElem?_set_self'] at hw
      cases hL : ((mzKill L k).set k (mzL x))[k + 1]? with
      | none => rw [hL] at hw; cases hw
      | some z => rw [hL] at hw; cases hw
    rw [List.getElem?_set_ne hi1] at hw
    by_cases hik : k = i
    · subst hik
      rw [List.getElem?_set_self'] at hw
      have hvw : mzL x = some w := by
        cases hL : (mzKill L k)[k]? with
        | none => rw [hL] at hw; cases hw
        | some z => rw [hL] at hw; exact Option.some.inj hw
      cases hvw
      refine ⟨?_, hk⟩
      exact h'.2.2 (k, mzC G (mzL x)) (by rw [hlv]; exact List.mem_cons_self)
    · rw [List.getElem?_set_ne hik] at hw
      obtain ⟨h1, h2⟩ := mz_Kkill hw
      refine ⟨?_, (h.2.2.2 i w h1).2⟩
      refine h'.2.2 (i, mzC G (some w)) ?_
      rw [hlv]
      refine List.mem_cons_of_mem _ (List.mem_filter.mpr ⟨mz_memas h1, ?_⟩)
      have e1 : (i == k) = false := by simp; omega
      have e2 : (i == k + 1) = false := by simp; omega
      by_cases e : i + 1 = k
      · have hc : (mzC G (some w)).category = 1 := by
          refine mz_cat1 ?_
          match w, h2 e with
          | .inl _, _ => rfl
          | .inr (.inl x), h9 => exact absurd rfl (h9 x)
          | .inr (.inr _), _ => rfl
        simp [e1, e2, hc]
      · simp [e1, e2]; omega
theorem mz_gt {L : List mzV} {k : Nat} {v : Int ⊕ (Int ⊕ (Nat ⊕ (Nat × Nat)))} (h : mzGt L k = some v) : L[k]? = some (some v) := by
  unfold mzGt at h
  rw [List.getD_eq_getElem?_getD] at h
  cases hL : L[k]? with
  | none => rw [hL] at h; cases h
  | some w => rw [hL] at h; exact congrArg some h
theorem mz_sk {v : mzV} {S : List mzV} (h : v ≠ none) (h2 : mzK v) (hS : mzSk S) : mzSk (v :: S) := fun w hw => by
  rcases List.mem_cons.mp hw with rfl | h9
  · exact ⟨h, h2⟩
  · exact hS w h9
theorem mz_skt {v : mzV} {S : List mzV} (hS : mzSk (v :: S)) : mzSk S := fun w hw => hS w (List.mem_cons_of_mem _ hw)
theorem mz_skh {v : mzV} {S : List mzV} (hS : mzSk (v :: S)) : v ≠ none ∧ mzK v := hS v List.mem_cons_self
/-! the memory -/
theorem mz_wo {G : mzG} {μ : mzM} {k : Nat} (h : k < 148) : (mzWo G μ)[k]? = some (mzAd G k, mzEnt G μ k) := by
  unfold mzWo
  rw [List.getElem?_map, List.getElem?_range h]
  rfl
theorem mz_wlen {G : mzG} {μ : mzM} : (mzWo G μ).length = 148 := by simp [mzWo]
theorem mz_woi {G : mzG} {μ : mzM} {k : Nat} {q : Nat × va_E} (h : (mzWo G μ)[k]? = some q) : k < 148 ∧ q = (mzAd G k, mzEnt G μ k) := by
  have hl : k < 148 := by
    have := (List.getElem?_eq_some_iff.mp h).1
    rw [mz_wlen] at this
    exact this
  refine ⟨hl, ?_⟩
  rw [mz_wo hl] at h
  exact (Option.some.inj h).symm
theorem mz_D {G : mzG} (hI : mzInj G) (μ : mzM) : va_D (mzA G) (mzWo G μ) := by
  refine ⟨fun i j x z hi hj hxy => ?_, fun k q hk => ?_⟩
  · obtain ⟨a1, a2⟩ := mz_woi hi
    obtain ⟨b1, b2⟩ := mz_woi hj
    subst a2
    subst b2
    exact hI i j a1 b1 hxy
  · obtain ⟨a1, a2⟩ := mz_woi hk
    subst a2
    exact ⟨k, a1, rfl⟩
theorem mz_set {G : mzG} {μ μ' : mzM} {k : Nat} {en : va_E} (hk : k < 148) (h1 : mzEnt G μ' k = en) (h2 : ∀ j, j < 148 → j ≠ k → mzEnt G μ' j = mzEnt G μ j) : (mzWo G μ).set k (mzAd G k, en) = mzWo G μ' := by
  apply List.ext_getElem?
  intro i
  by_cases hi : i < 148
  · rw [mz_wo hi]
    by_cases hik : k = i
    · subst hik
      rw [List.getElem?_set_self (by rw [mz_wlen]; exact hk), h1]
    · rw [List.getElem?_set_ne hik, mz_wo hi, h2 i hi (fun q => hik q.symm)]
  · rw [List.getElem?_eq_none (by rw [List.length_set, mz_wlen]; omega), List.getElem?_eq_none (by rw [mz_wlen]; omega)]
theorem mz_ent_ne {G : mzG} {μ μ' : mzM} {k : Nat} (h : ∀ j, μ' k j = μ k j) : mzEnt G μ' k = mzEnt G μ k := by
  have e : μ' k = μ k := funext h
  unfold mzEnt
  split
  · rw [e]
  · congr 2
    apply List.map_congr_left
    intro j _
    unfold mzFv
    split
    · rw [e]
    · rfl
  · rfl
  · rfl
theorem mz_sne {μ : mzM} {k a : Nat} {j : Nat} {v : Int} (h : a ≠ k) : ∀ b, mzS μ k j v a b = μ a b := fun b => by
  unfold mzS
  rw [if_neg (fun q => h q.1)]
