/-! PAIRS: spot, as, feed, wipe, image, undo, tear, world -/
theorem MW.S {μ : mzM} {a : Nat} {w : Wd} (h : MW μ a w) {i : Nat} (hi : i < 10) : μ a (308 + i) = wS w i := h.2.2.2.2.2.2.2 i hi
theorem CW.S {μ : mzM} {w : Wd} (h : CW μ 0 w) {i : Nat} (hi : i < 10) : μ 41 i = wS w i := h.2.2.2.2.2.2.2.2 i hi
theorem WOk.S {w : Wd} (h : WOk w) {i : Nat} (hi : i < 10) : -1 ≤ wS w i ∧ wS w i < wN w := h.2.2.2.2.2.2.2.2.1 i hi
/-- spot -/
def sptS (w : Wd) (i p : Int) : Int × Wd := if (0 ≤ i ∧ i ≤ 9) ∧ (p = -1 ∨ (0 ≤ p ∧ p < wN w)) then (1, setS w i.toNat p) else (-1000001, w)
theorem sptS_ok {w : Wd} {i p : Int} (h : WOk w) : WOk (sptS w i p).2 := by
  unfold sptS
  split
  · rename_i c
    obtain ⟨g0, g1, g2, g3, g4, g5, g6, g7, g8, g9⟩ := h
    refine ⟨g0, g1, g2, g3, g4, g5, g6, g7, fun a ha => ?_, g9⟩
    show -1 ≤ (if a = i.toNat then p else wS w a) ∧ (if a = i.toNat then p else wS w a) < wN w
    by_cases e : a = i.toNat
    · rw [if_pos e]; omega
    · rw [if_neg e]; exact g8 a ha
  · exact h
theorem c_spot {d : Nat} {q : Int → mzM → Prop} {i p : Int} {μ : mzM} {w : Wd} (hW : WOk w) (I : MI μ w) (h : ∀ μ', FM μ μ' → MI μ' (sptS w i p).2 → q (sptS w i p).1 μ') : mzCl (d + 2) 80 [mzR 0, mzI i, mzI p] μ (mzQi q) := by
  unfold sptS at h
  have hN := hW.1
  have go : (0 ≤ i ∧ i ≤ 9) → (p = -1 ∨ (0 ≤ p ∧ p < wN w)) → ((0 : Int) ≤ mzW (308 + i) ∧ (mzW (308 + i) : Int) < 318) ∧ (q 1 (mzS μ 1 ((mzW (308 + i)).toNat) p)) := by
    intro a b
    rw [if_pos ⟨a, b⟩] at h
    obtain ⟨i, rfl⟩ : ∃ n : Nat, i = n := ⟨i.toNat, by omega⟩
    rw [Int.toNat_natCast] at h
    have e : mzW (308 + (i : Int)) = ((308 + i : Nat) : Int) := by unfold mzW; omega
    rw [e, Int.toNat_natCast]
    exact ⟨by omega, h _ (FM.rf.st (by unfold scM; omega)) ⟨I.1.setS hN hW.2.2.2.1, FR.r I.2 rfl rfl rfl (S_ne (by omega)) (fun _ => S_ne (by omega))⟩⟩
  refine g80_e _ _ _ (c_in (fun a1 a2 => ⟨fun z => absurd z (by decide), fun _ => ⟨fun z => go ⟨a1, a2⟩ (Or.inl z), fun z => c_isPlace I.1.1 hN (fun b1 b2 => ⟨fun _ => go ⟨a1, a2⟩ (Or.inr ⟨b1, b2⟩), fun z => absurd z (by decide)⟩) (fun b => ⟨fun z => absurd rfl z, fun _ => c_fd (by omega) I (by rw [if_neg (by omega)] at h; exact h)⟩)⟩⟩) (fun a => ⟨fun _ => c_fd (by omega) I (by rw [if_neg (by omega)] at h; exact h), fun z => absurd rfl z⟩))
theorem CW.setS' {μ : mzM} {w : Wd} {i : Nat} {v : Int} (h : CW μ 0 w) (hN : wN w ≤ 12) : CW (mzS μ 41 i v) 0 (setS w i v) := by
  obtain ⟨g0, g1, g2, g3, g4, g5, g6, g7, g8⟩ := id h
  refine h.put (by omega) ?_ ?_ ?_ ?_ ?_ rfl hN (fun a t ht => rfl) (fun _ _ => rfl) (fun j hj => ⟨?_, ?_⟩) (fun j hj => ?_)
  · rw [S_ne (by omega)]; exact g0
  · rw [S_ne (by omega)]; exact g1
  · rw [S_ne (by omega)]; exact g2
  · rw [S_ne (by omega)]; exact g3
  · rw [S_ne (by omega)]; exact g4
  · rw [S_ne (by omega)]; exact (g7 j hj).1
  · rw [S_ne (by omega)]; exact (g7 j hj).2
  · show _ = if j = i then v else wS w j
    by_cases c : j = i
    · rw [if_pos c, c, S_eq]
    · rw [if_neg c, S_ne (by omega)]; exact g8 j hj
theorem k_spot {d : Nat} {q : Int → mzM → Prop} {i p : Int} {μ : mzM} {w : Wd} (hW : WOk w) (C : CW μ 0 w) (h : ∀ μ', FC μ μ' → CW μ' 0 (sptS w i p).2 → q (sptS w i p).1 μ') : mzCl (d + 1) 163 [mzR 14, mzI i, mzI p] μ (mzQi q) := by
  unfold sptS at h
  have hN := hW.1
  have fd : ¬ ((0 ≤ i ∧ i ≤ 9) ∧ (p = -1 ∨ (0 ≤ p ∧ p < wN w))) → mzCl d 173 [mzR 14, mzI (-1000001)] μ (mzQi q) := fun c => k_fd (by omega) hW.1 C (by rw [if_neg c] at h; exact h)
  have go : (0 ≤ i ∧ i ≤ 9) → (p = -1 ∨ (0 ≤ p ∧ p < wN w)) → ((0 : Int) ≤ i ∧ (i : Int) < 10) ∧ (q 1 (mzS μ 41 i.toNat p)) := by
    intro a b
    rw [if_pos ⟨a, b⟩] at h
    exact ⟨by omega, h _ (FC.rf.st (by unfold scC isW; omega)) (C.setS' hN)⟩
  exact g163_e _ _ _ ⟨fun z => fd (by omega), fun a1 => ⟨fun z => fd (by omega), fun a2 => ⟨fun z => go ⟨a1, by omega⟩ (Or.inl z), fun z => k_isPlace C.1 (fun b1 b2 => ⟨fun _ => go ⟨a1, by omega⟩ (Or.inr ⟨b1, b2⟩), fun z => absurd z (by decide)⟩) (fun b => ⟨fun z => absurd rfl z, fun _ => fd (by omega)⟩)⟩⟩⟩
theorem p_spot {d : Nat} {μ : mzM} {w : Wd} {q : Int → Int → mzM → Prop} {i p : Int} (R : RW μ w) (h : ∀ a μ' w', RW μ' w' → q a a μ') : mzCl (d + 2) 163 [mzR 14, mzI i, mzI p] μ (mzQi fun a m1 => mzCl (d + 2) 80 [mzR 0, mzI i, mzI p] m1 (mzQi fun c m2 => q a c m2)) :=
  pair (sptS w i p) R (sptS_ok R.1) (fun q' z => k_spot R.1 R.2.2.1 z) (fun m1 q' _ I z => c_spot R.1 I z) h
/-- as -/
def isK (k : Int) : Nat → Int → Bool
  | 0, _ => false
  | f + 1, a => if a < 0 then false else if a = k then true else isK k f (mzCst 200 a.toNat)
def asS (w : Wd) (i k : Int) : Int × Wd := (if (0 ≤ i ∧ i ≤ 9) ∧ 0 ≤ k ∧ k ≤ 6 then (if wS w i.toNat < 0 then -1000006 else if isK k 7 (wT w (wS w i.toNat).toNat 0) = true then wS w i.toNat else -1000003) else -1000001, w)
theorem ab7 : ∀ a : Nat, a < 7 → -1 ≤ mzCst 200 a ∧ mzCst 200 a < a := by decide
theorem c_above {d : Nat} {q : Int → mzM → Prop} {a : Nat} {μ : mzM} (ha : a < 7) (h : q (mzCst 200 a) μ) : mzCl d 81 [mzI a] μ (mzQi q) := by
  have c : a = 0 ∨ a = 1 ∨ a = 2 ∨ a = 3 ∨ a = 4 ∨ a = 5 ∨ a = 6 := by omega
  rcases c with rfl | rfl | rfl | rfl | rfl | rfl | rfl
  all_goals exact g81_e _ _ ⟨⟨fun z => by first | exact h | omega, fun z => by first | exact h | omega, fun z => by first | exact h | omega, fun z => by first | exact h | omega, fun z => by first | exact h | omega, fun z => by first | exact h | omega, trivial⟩, fun z => by first | exact h | omega⟩
theorem T0_ok {w : Wd} (h : WOk w) {p : Nat} (hp : p < wN w) : 0 ≤ wT w p 0 ∧ wT w p 0 ≤ 6 := h.T hp (t := 0) (by omega)
theorem c_as {d : Nat} {q : Int → mzM → Prop} {i k : Int} {μ : mzM} {w : Wd} (hW : WOk w) (I : MI μ w) (h : ∀ μ', FM μ μ' → MI μ' (asS w i k).2 → q (asS w i k).1 μ') : mzCl (d + 2) 82 [mzR 0, mzI i, mzI k] μ (mzQi q) := by
  unfold asS at h
  have hN := hW.1
  refine g82_e _ _ _ (c_in (fun a1 a2 => ⟨fun z => absurd z (by decide), fun _ => c_in (fun b1 b2 => ⟨fun _ => ?_, fun z => absurd z (by decide)⟩) (fun b => ⟨fun z => absurd rfl z, fun _ => c_fd (by omega) I (by rw [if_neg (by omega)] at h; exact h)⟩)⟩) (fun a => ⟨fun _ => c_fd (by omega) I (by rw [if_neg (by omega)] at h; exact h), fun z => absurd rfl z⟩))
  rw [if_pos ⟨⟨a1, a2⟩, b1, b2⟩] at h
  obtain ⟨i, rfl⟩ : ∃ n : Nat, i = n := ⟨i.toNat, by omega⟩
  rw [Int.toNat_natCast] at h
  have e : mzW (308 + (i : Int)) = ((308 + i : Nat) : Int) := by unfold mzW; omega
  rw [e, Int.toNat_natCast, I.1.S (by omega)]
  refine ⟨by omega, fun z => ?_, fun z => c_fd (by omega) I (by rw [if_pos z] at h; exact h)⟩
  rw [if_neg (by omega)] at h
  have hs := hW.S (i := i) (by omega)
  obtain ⟨s, hs2⟩ : ∃ n : Nat, wS w i = n := ⟨(wS w i).toNat, by omega⟩
  rw [hs2, Int.toNat_natCast] at h
  rw [hs2]
  have hsn : s < wN w := by omega
  refine c_of (t := 0) (by omega) (by omega) ?_
  rw [I.1.T hsn (by omega)]
  have t0 := T0_ok hW hsn
  have L : ∀ (f : Nat) (a : Int), -1 ≤ a → a < f → f ≤ 7 → isK k 7 (wT w s 0) = isK k f a → mzWp (d + 2) 82 62 [mzR 0, none, mzI k, mzI s, mzI a] [] μ (mzQi q) := by
    intro f
    induction f with
    | zero =>
      intro a h1 h2 h3 he
      refine g82_62 _ _ _ _ ⟨fun z2 => c_fd (by omega) I ?_, fun z2 => by omega⟩
      rw [he, isK, if_neg (by decide)] at h; exact h
    | succ f ih =>
      intro a h1 h2 h3 he
      refine g82_62 _ _ _ _ ⟨fun z2 => c_fd (by omega) I ?_, fun z2 => ⟨fun z3 => ?_, fun z3 => ?_⟩⟩
      · rw [he, isK, if_pos z2, if_neg (by decide)] at h; exact h
      · obtain ⟨a, rfl⟩ : ∃ n : Nat, a = n := ⟨a.toNat, by omega⟩
        have := ab7 a (by omega)
        refine c_above (by omega) (ih _ (by omega) (by omega) (by omega) ?_)
        rw [he, isK, if_neg (by omega), if_neg z3, Int.toNat_natCast]
      · rw [he, isK, if_neg (Int.not_lt.mpr z2), if_pos z3, if_pos rfl] at h
        exact h μ FM.rf I
  exact L 7 _ (by omega) (by omega) (by omega) rfl
theorem k_isOfKind {d : Nat} {q : Int → mzM → Prop} {a k : Int} {μ : mzM} (ha : 0 ≤ a ∧ a ≤ 6) (h : q (if isK k 7 a = true then 1 else 0) μ) : mzCl d 177 [mzI a, mzI k] μ (mzQi q) := by
  have L : ∀ (f i : Nat) (x3 b : Int), i + f = 7 → x3 = i → -1 ≤ b → b < f → isK k 7 a = isK k f b → mzWp d 177 4 [none, mzI k, mzI b, mzI x3] [] μ (mzQi q) := by
    intro f
    induction f with
    | zero =>
      intro i x3 b hi hx h1 h2 he
      refine g177_4 _ _ _ _ ⟨fun _ => ⟨or00, ?_⟩, fun z => by omega⟩
      rw [he, isK, if_neg (by decide)] at h; exact h
    | succ f ih =>
      intro i x3 b hi hx h1 h2 he
      subst hx
      refine g177_4 _ _ _ _ ⟨fun z => by omega, fun _ => ⟨fun z2 => ⟨or00, ?_⟩, fun z2 => ⟨fun z3 => ⟨by omega, ?_⟩, fun z3 => ⟨or10, ?_⟩⟩⟩⟩
      · rw [he, isK, if_pos z2, if_neg (by decide)] at h; exact h
      · obtain ⟨b, rfl⟩ : ∃ n : Nat, b = n := ⟨b.toNat, by omega⟩
        rw [Int.toNat_natCast]
        have := ab7 b (by omega)
        refine ih (i + 1) _ _ (by omega) (by rw [wid (by omega) (by omega)]; omega) (by omega) (by omega) ?_
        rw [he, isK, if_neg (by omega), if_neg z3, Int.toNat_natCast]
      · rw [he, isK, if_neg (Int.not_lt.mpr z2), if_pos z3, if_pos rfl] at h
        exact h
  exact g177_e _ _ _ (L 7 0 0 a (by omega) rfl (by omega) (by omega) rfl)
theorem k_as {d : Nat} {q : Int → mzM → Prop} {i k : Int} {μ : mzM} {w : Wd} (hW : WOk w) (C : CW μ 0 w) (h : ∀ μ', FC μ μ' → CW μ' 0 (asS w i k).2 → q (asS w i k).1 μ') : mzCl (d + 1) 164 [mzR 14, mzI i, mzI k] μ (mzQi q) := by
  unfold asS at h
  have hN := hW.1
  have fd : ¬ ((0 ≤ i ∧ i ≤ 9) ∧ 0 ≤ k ∧ k ≤ 6) → mzCl d 173 [mzR 14, mzI (-1000001)] μ (mzQi q) := fun c => k_fd (by omega) hW.1 C (by rw [if_neg c] at h; exact h)
  refine g164_e _ _ _ ⟨fun z => fd (by omega), fun a1 => ⟨fun z => fd (by omega), fun a2 => ⟨fun z => fd (by omega), fun b1 => ⟨fun b2 => ⟨by omega, ?_⟩, fun z => fd (by omega)⟩⟩⟩⟩
  rw [if_pos ⟨⟨a1, by omega⟩, b1, by omega⟩] at h
  obtain ⟨i, rfl⟩ : ∃ n : Nat, i = n := ⟨i.toNat, by omega⟩
  rw [Int.toNat_natCast] at h
  rw [Int.toNat_natCast, C.S (by omega)]
  have hs := hW.S (i := i) (by omega)
  refine k_isPlace C.1 (fun c1 c2 => ⟨fun _ => ⟨by omega, ⟨by omega, by omega, by omega⟩, ?_⟩, fun z => absurd z (by decide)⟩) (fun c => ⟨fun z => absurd rfl z, fun _ => k_fd (by omega) hW.1 C (by rw [if_pos (by omega)] at h; exact h)⟩)
  rw [if_neg (by omega)] at h
  rw [C.T (by omega) (by omega)]
  refine k_isOfKind (T0_ok hW (by omega)) ⟨fun z => k_fd (by omega) hW.1 C ?_, fun z => ?_⟩
  · rw [if_neg (fun c => by rw [if_pos c] at z; exact absurd z (by decide))] at h; exact h
  · rw [if_pos (Classical.byContradiction (fun c => by rw [if_neg c] at z; exact absurd rfl z))] at h
    exact h μ FC.rf C
theorem p_as {d : Nat} {μ : mzM} {w : Wd} {q : Int → Int → mzM → Prop} {i k : Int} (R : RW μ w) (h : ∀ a μ' w', RW μ' w' → q a a μ') : mzCl (d + 2) 164 [mzR 14, mzI i, mzI k] μ (mzQi fun a m1 => mzCl (d + 2) 82 [mzR 0, mzI i, mzI k] m1 (mzQi fun c m2 => q a c m2)) :=
  pair (asS w i k) R R.1 (fun q' z => k_as R.1 R.2.2.1 z) (fun m1 q' _ I z => c_as R.1 I z) h
