/-! THE CLASS'S YEAR -/
def YC (μ : mzM) (n h : Nat) (st : St) : Prop := μ 16 7 = st.1 ∧ μ 16 8 = st.2.1 ∧ μ 16 9 = h ∧ ∀ p, p < n → μ 22 p = st.2.2 p
/-- the second loop: those in s are on no way -/
theorem k_drown2 {d : Nat} {q : mzM → Prop} {w : Wd} {μ0 : mzM} {s a b : Nat} {V : Nat → Int} (hW : WOk w) (C : CW μ0 0 w) (hs : s < 4096)
    (hq : ∀ μ', ZF μ0 μ' → μ' 16 7 = a → μ' 16 8 = b → (∀ p, p < wN w → μ' 22 p = if s.testBit p = true then 0 else V p) → q μ') :
    ∀ (c p : Nat) (m : mzM), p + c = wN w → ZF μ0 m → m 16 7 = a → m 16 8 = b → (∀ j, j < wN w → m 22 j = if j < p ∧ s.testBit j = true then 0 else V j) → mzWp d 111 94 [mzR 16, none, mzI s, mzI p, none] [] m (mzQv q) := by
  have hN := hW.1
  have s31 : s < 2147483648 := Nat.lt_trans hs (by decide)
  intro c
  induction c with
  | zero =>
    intro p m hp f a7 a8 a6
    have : p = wN w := hp
    subst this
    have hm0 : m 26 0 = wN w := (f 26 0 (by decide) (Or.inl (by decide))).trans C.1
    refine g111_94 _ _ _ ⟨fun _ => hq m f a7 a8 (fun j hj => ?_), fun z => absurd z (by rw [hm0]; exact Int.lt_irrefl _)⟩
    rw [a6 j hj]
    by_cases c : s.testBit j = true
    · rw [if_pos ⟨hj, c⟩, if_pos c]
    · rw [if_neg (fun a => c a.2), if_neg c]
  | succ c ih =>
    intro p m hp f a7 a8 a6
    have hpn : p < wN w := by omega
    have p12 : p < 12 := Nat.lt_of_lt_of_le hpn hN
    have p32 : p < 32 := Nat.lt_trans p12 (by decide)
    have hpc : p + 1 + c = wN w := by omega
    have ew : mzW ((p : Int) + 1) = ((p + 1 : Nat) : Int) := w1 (Nat.lt_trans p12 (by decide))
    have hm0 : m 26 0 = wN w := (f 26 0 (by decide) (Or.inl (by decide))).trans C.1
    have nle : ¬ (m 26 0 ≤ (p : Int)) := by rw [hm0]; exact fun a => absurd (Int.ofNat_le.mp a) (Nat.not_le.mpr hpn)
    have pb : (0 : Int) ≤ (p : Int) ∧ (p : Int) < 12 := ⟨Int.natCast_nonneg _, Int.ofNat_lt.mpr p12⟩
    have lt : ∀ j, j < p + 1 → j ≠ p → j < p := fun j h1 h2 => Nat.lt_of_le_of_ne (Nat.le_of_lt_succ h1) h2
    -- for another place
    have oth : ∀ j, j ≠ p → (if j < p + 1 ∧ s.testBit j = true then (0 : Int) else V j) = if j < p ∧ s.testBit j = true then 0 else V j := by
      intro j cj
      by_cases c3 : s.testBit j = true
      · by_cases c2 : j < p
        · rw [if_pos ⟨Nat.lt_succ_of_lt c2, c3⟩, if_pos ⟨c2, c3⟩]
        · rw [if_neg (fun a => c2 (lt j a.1 cj)), if_neg (fun a => c2 a.1)]
      · rw [if_neg (fun a => c3 a.2), if_neg (fun a => c3 a.2)]
    refine g111_94 _ _ _ ⟨fun z => absurd z nle, fun _ => ⟨fun z => ?_, fun z => ⟨pb, ?_⟩⟩⟩
    · rw [nBit0 s31 p32] at z
      rw [ew]
      refine ih (p + 1) m hpc f a7 a8 (fun j hj => ?_)
      by_cases cj : j = p
      · rw [a6 j hj, cj, z, if_neg (fun a => absurd a.2 (by decide)), if_neg (fun a => absurd a.2 (by decide))]
      · rw [oth j cj]; exact a6 j hj
    · rw [nBit1 s31 p32] at z
      rw [ew, Int.toNat_natCast]
      refine ih (p + 1) _ hpc (f.st (Or.inl rfl)) ((S_ne (Or.inl (by decide))).trans a7) ((S_ne (Or.inl (by decide))).trans a8) (fun j hj => ?_)
      by_cases cj : j = p
      · rw [cj, S_eq, if_pos ⟨Nat.lt_succ_self p, z⟩]
      · rw [S_ne (Or.inr cj), oth j cj]; exact a6 j hj
/-- the first loop: who is spoilt -/
theorem k_drown1 {d : Nat} {q : mzM → Prop} {w : Wd} {μ0 : mzM} {came : Nat} (hW : WOk w) (C : CW μ0 0 w) (hc : came < 4096)
    (hq : mzWp d 111 94 [mzR 16, none, mzI (spS w came (wN w) : Nat), mzI 0, none] [] (mzS (mzS μ0 16 8 (mzOr (μ0 16 8) (spS w came (wN w) : Nat))) 16 7 (mzAnd (μ0 16 7) (mzXor (spS w came (wN w) : Nat) (-1)))) (mzQv q)) :
    ∀ (c p : Nat), p + c = wN w → mzWp d 111 4 [mzR 16, mzI came, mzI (spS w came p : Nat), mzI p, none] [] μ0 (mzQv q) := by
  have hN := hW.1
  have p1 := pow12 hN
  have hm0 : μ0 26 0 = wN w := C.1
  have c31 : came < 2147483648 := Nat.lt_trans hc (by decide)
  intro c
  induction c with
  | zero =>
    intro p hp
    have : p = wN w := hp
    subst this
    exact g111_4 _ _ _ _ ⟨fun _ => hq, fun z => absurd z (by rw [hm0]; exact Int.lt_irrefl _)⟩
  | succ c ih =>
    intro p hp
    have hpn : p < wN w := by omega
    have p12 : p < 12 := Nat.lt_of_lt_of_le hpn hN
    have p32 : p < 32 := Nat.lt_trans p12 (by decide)
    have hpc : p + 1 + c = wN w := by omega
    have ew : mzW ((p : Int) + 1) = ((p + 1 : Nat) : Int) := w1 (Nat.lt_trans p12 (by decide))
    have nle : ¬ (μ0 26 0 ≤ (p : Int)) := by rw [hm0]; exact fun a => absurd (Int.ofNat_le.mp a) (Nat.not_le.mpr hpn)
    have pb : (0 : Int) ≤ (p : Int) ∧ (p : Int) < 12 := ⟨Int.natCast_nonneg _, Int.ofNat_lt.mpr p12⟩
    have pl : spS w came p < 2147483648 := Nat.lt_of_lt_of_le (spS_lt hW came p (Nat.le_of_lt hpn)) (Nat.le_trans p1 (by decide))
    have t0 : μ0 (52 + p) 0 = wT w p 0 := C.T hpn (by decide)
    have t7 : μ0 (52 + p) 7 = wT w p 7 := C.T hpn (by decide)
    have skip : ¬ (wT w p 0 = 4 ∧ came.testBit p = true ∧ 0 ≤ wT w p 7) → mzWp d 111 4 [mzR 16, mzI came, mzI (spS w came p : Nat), mzI (mzW ((p : Int) + 1)), none] [] μ0 (mzQv q) := by
      intro a
      rw [ew]
      have := ih (p + 1) hpc
      rw [spS, if_neg a, Nat.or_zero] at this
      exact this
    refine g111_4 _ _ _ _ ⟨fun z => absurd z nle, fun _ => ?_⟩
    rw [Int.toNat_natCast, t0, t7]
    refine ⟨pb, ⟨p12, by decide, by decide⟩, fun z => skip (fun a => ?_), fun z => ⟨pb, ⟨p12, by decide, by decide⟩, fun z0 => skip (fun a => z0 a.1), fun z0 => ⟨fun z7 => skip (fun a => absurd a.2.2 (Int.not_le.mpr z7)), fun z7 => ?_⟩⟩⟩
    · rw [nBit0 c31 p32] at z
      rw [z] at a
      exact absurd a.2.1 (by decide)
    · rw [nBit1 c31 p32] at z
      have kb := (hW.T hpn (t := 7) (by decide)).2
      have e : thi (wN w) 7 = (wN w : Int) - 1 := by simp [thi]
      have kl : (wT w p 7).toNat < 12 := by omega
      have hk : ((wT w p 7).toNat : Int) = wT w p 7 := Int.toNat_of_nonneg z7
      have kp : 2 ^ (wT w p 7).toNat < 2147483648 := Nat.lt_of_le_of_lt (pow12 (Nat.le_of_lt kl)) (by decide)
      have := ih (p + 1) hpc
      rw [spS, if_pos ⟨z0, z, z7⟩] at this
      rw [← hk, nPow (Nat.lt_trans kl (by decide)), nOr pl kp, ew]
      exact this
theorem k_drown {d : Nat} {q : mzM → Prop} {w : Wd} {μ0 : mzM} {came o dr : Nat} (hW : WOk w) (C : CW μ0 0 w) (ho : o < 4096) (hd : dr < 4096) (hc : came < 4096) (e7 : μ0 16 7 = o) (e8 : μ0 16 8 = dr)
    (hq : ∀ μ', ZF μ0 μ' → μ' 16 7 = (nd o (spS w came (wN w)) : Nat) → μ' 16 8 = (dr ||| spS w came (wN w) : Nat) → (∀ p, p < wN w → μ' 22 p = if (spS w came (wN w)).testBit p = true then 0 else μ0 22 p) → q μ') : mzCl d 111 [mzR 16, mzI came] μ0 (mzQv q) := by
  have sl : spS w came (wN w) < 4096 := Nat.lt_of_lt_of_le (spS_lt hW came _ (Nat.le_refl _)) (pow12 hW.1)
  refine g111_e _ _ (k_drown1 hW C hc ?_ (wN w) 0 (Nat.zero_add _))
  exact k_drown2 hW C sl hq (wN w) 0 _ (Nat.zero_add _) ((ZF.rf.st (Or.inr ⟨rfl, Or.inr rfl⟩)).st (Or.inr ⟨rfl, Or.inl rfl⟩)) (by rw [S_eq, e7, nNot (Nat.lt_trans ho (by decide))]) (by rw [S_ne (Or.inr (by decide)), S_eq, e8, nOr (Nat.lt_trans hd (by decide)) (Nat.lt_trans sl (by decide))]) (fun j hj => by rw [S_ne (Or.inl (by decide)), S_ne (Or.inl (by decide)), if_neg (fun a => Nat.not_lt_zero _ a.1)])
