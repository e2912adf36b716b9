/-! THE YEAR, GOING ON -/
theorem ky_l {d : Nat} {q : Int → mzM → Prop} {w : Wd} {H : Nat → Int} {h pu T : Nat} {O : Nat → Bool} {W : Nat → Int} {st : St} {μ : mzM} (hW : WOk w) (C : CW μ 0 w) (G : GM μ w) (hH : HC μ (wN w) H) (hh : h < 4096) (hpu : pu < 4096) (hT : T < 4096) (hd : st.2.1 < 4096) (R : YR w H h pu st T O W)
    (hq : ∀ x4 m, KyI μ (wN w) h pu T O W st (wN w) x4 m → mzCl (d + 1) 111 [mzR 16, mzI (mzAnd (m 16 7) (mzXor (st.1 : Int) (-1)))] m (mzQv fun m1 => (x4 = 0 ∨ x4 = 1) ∧ (q x4 m1))) :
    ∀ (c p : Nat) (x4 : Int) (m : mzM), p + c = wN w → KyI μ (wN w) h pu T O W st p x4 m → mzWp (d + 2) 109 48 [mzR 16, mzI pu, mzI st.1, mzI T, mzI x4, mzI p, none] [] m (mzQi q) := by
  intro c
  induction c with
  | zero =>
    intro p x4 m hp K
    have : p = wN w := by omega
    subst this
    have hm0 : m 26 0 = wN w := (K.1 26 0 (by decide) (Or.inl (by decide))).trans C.1
    exact g109_48 _ _ _ _ _ _ ⟨fun _ => hq x4 m K, fun z => absurd z (by rw [hm0]; exact Int.lt_irrefl _)⟩
  | succ c ih =>
    intro p x4 m hp K
    refine ky_1 hW C G hH hh hpu hT hd R (by omega) K (fun x m' K' => ?_)
    rw [w1 (by have := hW.1; omega)]
    exact ih (p + 1) x m' (by omega) K'
