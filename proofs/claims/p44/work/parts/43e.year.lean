/-! THE YEAR, GOING ON -/
theorem k_year {d : Nat} {q : Int → mzM → Prop} {w : Wd} {H : Nat → Int} {h pu : Nat} {st : St} {μ : mzM} (hW : WOk w) (C : CW μ 0 w) (G : GM μ w) (hH : HC μ (wN w) H) (hh : h < 4096) (hpu : pu < 2 ^ wN w) (hy : YI (wN w) st) (Y : YC μ (wN w) h st)
    (hq : ∀ r μ', ZF μ μ' → YC μ' (wN w) h (yrS w H h pu st) → (r = 0 → pu = 0 ∧ yrS w H h pu st = st) → q r μ') : mzCl (d + 2) 109 [mzR 16, mzI pu] μ (mzQi q) := by
  have hN := hW.1
  have p1 := pow12 hN
  have pl : pu < 4096 := Nat.lt_of_lt_of_le hpu p1
  have sl : st.1 < 4096 := Nat.lt_of_lt_of_le hy.1 p1
  have dl : st.2.1 < 4096 := Nat.lt_of_lt_of_le hy.2.1 p1
  have t2 := thS_lt (h := h) hy.1 hpu
  have tl : thS h pu st < 4096 := Nat.lt_of_lt_of_le t2 p1
  have ol : o1S w H h pu st < 4096 := Nat.lt_of_lt_of_le (mk_lt _ _) p1
  have eth : mzOr (μ 16 7) (mzAnd (mzAnd (pu : Int) (mzXor (μ 16 9) (-1))) (mzXor (μ 16 8) (-1))) = (thS h pu st : Nat) := by
    have n1 : nd pu h < 4096 := nd_lt pl
    have n2 : nd (nd pu h) st.2.1 < 4096 := nd_lt n1
    rw [Y.1, Y.2.1, Y.2.2.1, nNot (by omega), nNot (by omega), nOr (by omega) (by omega)]
    rfl
  refine g109_e _ _ ?_
  rw [eth, Y.1]
  have go : ∀ x4 : Int, (x4 = 0 ∨ x4 = 1) → (x4 = 0 → pu = 0) → mzWp (d + 2) 109 48 [mzR 16, mzI pu, mzI st.1, mzI (thS h pu st : Nat), mzI x4, mzI 0, none] [] (mzS μ 16 7 (thS h pu st : Nat)) (mzQi q) := fun x4 hx h0 => by
    have C0 : KyI μ (wN w) h pu (thS h pu st) (o1b w H h pu st) (w1S w H h pu st) st 0 x4 (mzS μ 16 7 (thS h pu st : Nat)) := ⟨ZF.rf.st (Or.inr ⟨rfl, Or.inl rfl⟩), by rw [S_eq, oP_0 t2], by rw [S_ne (Or.inr (by decide))]; exact Y.2.1, by rw [S_ne (Or.inr (by decide))]; exact Y.2.2.1, fun j hj => by rw [S_ne (Or.inl (by decide)), if_neg (Nat.not_lt_zero _)]; exact Y.2.2.2 j hj, hx, fun z => ⟨h0 z, fun j hj => absurd hj (Nat.not_lt_zero _)⟩⟩
    refine ky_l hW C G hH hh pl tl dl (yr_R w H h pu st) (fun x5 m K => ?_) (wN w) 0 x4 _ (Nat.zero_add _) C0
    obtain ⟨f, e7, e8, e9, e22, hx5, e4⟩ := K
    have e22 : ∀ p, p < wN w → m 22 p = w1S w H h pu st p := fun p hp => by rw [e22 p hp, if_pos hp]
    have e7 : m 16 7 = (o1S w H h pu st : Nat) := by rw [e7, oP_n]; rfl
    rw [e7, nNot (by omega)]
    refine k_drown hW (f.nf.ef.cw hN C) ol dl (nd_lt ol) e7 e8 (fun m2 f2 a7 a8 a22 => ⟨hx5, ?_⟩)
    refine hq x5 m2 (f.tr f2) ⟨a7, a8, (f2 16 9 (by decide) (Or.inr (by decide))).trans e9, fun j hj => ?_⟩ (fun z => ?_)
    · rw [a22 j hj, e22 j hj]
      show _ = if j < wN w then _ else _
      rw [if_pos hj]
    · obtain ⟨z1, z2⟩ := e4 z
      subst z1
      exact ⟨rfl, yr_same' hy z2⟩
  exact ⟨fun z => go 0 or00 (fun _ => Int.ofNat.inj z), fun z => go 1 or10 (fun c => absurd c (by decide))⟩
