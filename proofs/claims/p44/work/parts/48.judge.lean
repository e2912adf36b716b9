/-! PAIRS: judge -/
def jdF (w : Wd) (num : Nat → Int) : Nat → Nat → Int
  | 0, _ => 0
  | c + 1, i => if num i = (cnt (pnS w (i + 1)).1 12 : Nat) then jdF w num c (i + 1) else ((i + 1 : Nat) : Int)
theorem c_judge {d s len : Nat} {q : Int → mzM → Prop} {num : Nat → Int} {μ : mzM} {w : Wd} (hs : s < 4) (hW : WOk w) (I : MI μ w) (hb : μ 11 s ≠ 0) (hl : μ 12 s = len) (hl4 : len ≤ 40) (hn : ∀ i, i < 40 → μ 13 (40 * s + i) = num i) (h : ∀ μ', FM μ μ' → MI μ' w → q (jdF w num len 0) μ') : mzCl (d + 5) 79 [mzR 0, mzI s] μ (mzQi q) := by
  have L : ∀ (c i : Nat) (m : mzM), i + c = len → PM μ m w i → (∀ μ', FM μ μ' → MI μ' w → q (jdF w num c i) μ') → mzWp (d + 5) 79 41 [mzR 0, mzI s, mzI i] [] m (mzQi q) := by
    intro c
    induction c with
    | zero =>
      intro i m hi P hq
      refine g79_41 _ _ _ ⟨by omega, ?_⟩
      rw [Int.toNat_natCast, P.1 12 s (by omega) (by omega) (by omega), hl]
      exact ⟨fun _ => hq m P.1.fm (P.1.mi I), fun z => by omega⟩
    | succ c ih =>
      intro i m hi P hq
      have e : mzW ((mzW (40 * (s : Int))) + (i : Int)) = ((40 * s + i : Nat) : Int) := by unfold mzW; omega
      refine g79_41 _ _ _ ⟨by omega, ?_⟩
      rw [Int.toNat_natCast, P.1 12 s (by omega) (by omega) (by omega), hl, e, Int.toNat_natCast]
      refine ⟨fun z => by omega, fun _ => c_pushesOf hW (P.1.mw I.1) (c_pyear hW I.1 P (fun r m2 P2 => ⟨by omega, ?_⟩))⟩
      have pl := pnS_lt hW (i + 1)
      rw [P2.2.1.1, P2.1 13 _ (by omega) (by omega) (by omega), hn i (by omega)]
      rw [jdF] at hq
      refine c_many (by omega) ⟨fun z => ?_, fun z => ?_⟩
      · rw [w1 (by omega)]
        rw [if_pos z] at hq
        exact ih (i + 1) m2 (by omega) P2 hq
      · rw [if_neg z] at hq
        rw [Int.add_comm, w1 (by omega)]
        exact hq m2 P2.1.fm (P2.1.mi I)
  refine g79_e _ _ (c_isSheet (fun _ _ => ⟨fun _ => ⟨by omega, ?_⟩, fun z => absurd z (by decide)⟩) (fun a => absurd (by omega) a))
  rw [Int.toNat_natCast]
  exact ⟨fun _ => c_heldNow hW I.1 (c_pbegin hW I.1 fun m P => L len 0 m (by omega) P h), fun z => absurd z hb⟩
theorem k_judge {d s len : Nat} {q : Int → mzM → Prop} {num : Nat → Int} {μ : mzM} {w : Wd} (hs : s < 4) (hW : WOk w) (C : CW μ 0 w) (hb : μ (44 + s) 0 ≠ 0) (hl : μ (44 + s) 1 = len) (hl4 : len ≤ 40) (hn : ∀ i, i < 40 → μ (48 + s) i = num i) (h : ∀ μ', FC μ μ' → CW μ' 0 w → q (jdF w num len 0) μ') : mzCl (d + 6) 162 [mzR 14, mzI s] μ (mzQi q) := by
  have hN := hW.1
  have L : ∀ (c i : Nat) (m : mzM), i + c = len → PC μ m w i → (∀ μ', FC μ μ' → CW μ' 0 w → q (jdF w num c i) μ') → mzWp (d + 6) 162 42 [mzR 14, none, mzP 44 s, mzI i] [] m (mzQi q) := by
    intro c
    induction c with
    | zero =>
      intro i m hi P hq
      refine g162_42 _ _ _ ⟨hs, ?_⟩
      rw [P.1 (44 + s) 1 (by omega) (by omega) (by omega) (by omega) (by omega) (by omega), hl]
      exact ⟨fun _ => hq m P.1.fc (P.1.cw hN C), fun z => by omega⟩
    | succ c ih =>
      intro i m hi P hq
      refine g162_42 _ _ _ ⟨hs, ?_⟩
      rw [P.1 (44 + s) 1 (by omega) (by omega) (by omega) (by omega) (by omega) (by omega), hl, Int.toNat_natCast]
      refine ⟨fun z => by omega, fun _ => k_pushedIn hW (P.1.cw hN C) (k_pyear hW C P (fun r m2 P2 => ⟨hs, ⟨hs, by omega, by omega⟩, ?_⟩))⟩
      have pl := pnS_lt hW (i + 1)
      rw [P2.2.2.2.1, P2.1 (48 + s) i (by omega) (by omega) (by omega) (by omega) (by omega) (by omega), hn i (by omega)]
      rw [jdF] at hq
      refine k_bitCount pl.1 ⟨fun z => ?_, fun z => ?_⟩
      · rw [w1 (by omega)]
        rw [if_pos z] at hq
        exact ih (i + 1) m2 (by omega) P2 hq
      · rw [if_neg z] at hq
        rw [Int.add_comm, w1 (by omega)]
        exact hq m2 P2.1.fc (P2.1.cw hN C)
  refine g162_e _ _ (k_isSheet (fun _ _ => ⟨fun _ => ⟨by omega, by omega, ?_⟩, fun z => absurd z (by decide)⟩) (fun a => absurd (by omega) a))
  rw [Int.toNat_natCast]
  exact ⟨fun _ => k_plan (n := 0) (by omega) hW C fun m P => L len 0 m (by omega) P h, fun z => absurd z hb⟩
theorem p_judge {d : Nat} {μ : mzM} {w : Wd} {q : Int → Int → mzM → Prop} {s : Int} (R : RW μ w) (h : ∀ a μ' w', RW μ' w' → q a a μ') : mzCl (d + 6) 162 [mzR 14, mzI s] μ (mzQi fun a m1 => mzCl (d + 6) 79 [mzR 0, mzI s] m1 (mzQi fun c m2 => q a c m2)) := by
  have hN := R.1.1
  by_cases hs : 0 ≤ s ∧ s < 4
  · obtain ⟨s, rfl⟩ : ∃ k : Nat, s = k := ⟨s.toNat, by omega⟩
    have hs4 : s < 4 := by omega
    obtain ⟨s1, s2, s3, s4, s5⟩ := R.2.2.2.2.2 s hs4
    by_cases hb : μ 11 s = 0
    · refine pair (-1000006, w) R R.1 (fun q' z => ?_) (fun m1 q' f I z => ?_) h
      · refine g162_e _ _ (k_isSheet (fun _ _ => ⟨fun _ => ⟨by omega, by omega, ?_⟩, fun z => absurd z (by decide)⟩) (fun a => absurd hs a))
        rw [Int.toNat_natCast, ← s1]
        exact ⟨fun c => absurd hb c, fun _ => k_fd (by omega) hN R.2.2.1 z⟩
      · refine g79_e _ _ (c_isSheet (fun _ _ => ⟨fun _ => ⟨by omega, ?_⟩, fun z => absurd z (by decide)⟩) (fun a => absurd hs a))
        rw [Int.toNat_natCast, f 11 s (by unfold scC isW; omega)]
        exact ⟨fun c => absurd hb c, fun _ => c_fd (by omega) I z⟩
    · obtain ⟨len, hl⟩ : ∃ k : Nat, μ 12 s = k := ⟨(μ 12 s).toNat, by omega⟩
      refine pair (jdF w (fun i => μ 13 (40 * s + i)) len 0, w) R R.1 (fun q' z => ?_) (fun m1 q' f I z => ?_) h
      · exact k_judge hs4 R.1 R.2.2.1 (by rw [← s1]; exact hb) (by rw [← s2]; exact hl) (by omega) (fun i hi => (s5 i hi).symm) z
      · exact c_judge hs4 R.1 I (by rw [f 11 s (by unfold scC isW; omega)]; exact hb) (by rw [f 12 s (by unfold scC isW; omega)]; exact hl) (by omega) (fun i hi => f 13 _ (by unfold scC isW; omega)) z
  · refine pair (-1000001, w) R R.1 (fun q' z => ?_) (fun m1 q' f I z => ?_) h
    · exact g162_e _ _ (k_isSheet (fun a b => absurd ⟨a, b⟩ hs) (fun _ => ⟨fun z => absurd rfl z, fun _ => k_fd (by omega) hN R.2.2.1 z⟩))
    · exact g79_e _ _ (c_isSheet (fun a b => absurd ⟨a, b⟩ hs) (fun _ => ⟨fun z => absurd rfl z, fun _ => c_fd (by omega) I z⟩))
