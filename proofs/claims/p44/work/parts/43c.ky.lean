/-! THE YEAR, GOING ON -/
/-- what stands before place p walks -/
def KyI (μ0 : mzM) (n h pu T : Nat) (O : Nat → Bool) (W : Nat → Int) (st : St) (p : Nat) (x4 : Int) (m : mzM) : Prop := ZF μ0 m ∧ m 16 7 = oP n T O p ∧ m 16 8 = st.2.1 ∧ m 16 9 = h ∧ (∀ j, j < n → m 22 j = if j < p then W j else st.2.2 j) ∧ (x4 = 0 ∨ x4 = 1) ∧ (x4 = 0 → pu = 0 ∧ ∀ j, j < p → O j = T.testBit j ∧ W j = st.2.2 j)
theorem KyI.nx {μ0 : mzM} {n h pu T : Nat} {O : Nat → Bool} {W : Nat → Int} {st : St} {p : Nat} {x4 x : Int} {m m' : mzM} (c : KyI μ0 n h pu T O W st p x4 m) (f' : ZF m m') (a7 : m' 16 7 = oP n T O (p + 1)) (a8 : m' 16 8 = m 16 8) (a6 : m' 22 p = W p) (an : ∀ j, j ≠ p → m' 22 j = m 22 j) (ax : x = 0 ∨ x = 1) (a4 : x = 0 → x4 = 0 ∧ O p = T.testBit p ∧ W p = st.2.2 p) : KyI μ0 n h pu T O W st (p + 1) x m' := by
  obtain ⟨f, e7, e8, e9, e22, hx, e4⟩ := c
  refine ⟨f.tr f', a7, a8.trans e8, (f' 16 9 (by decide) (Or.inr (by decide))).trans e9, fun j hj => ?_, ax, fun z => ⟨(e4 (a4 z).1).1, fun j hj => ?_⟩⟩
  · by_cases cj : j = p
    · rw [cj, if_pos (Nat.lt_succ_self p), a6]
    · rw [an j cj, e22 j hj]
      by_cases c2 : j < p
      · rw [if_pos c2, if_pos (Nat.lt_succ_of_lt c2)]
      · rw [if_neg c2, if_neg (fun c3 => c2 (Nat.lt_of_le_of_ne (Nat.le_of_lt_succ c3) cj))]
  · by_cases cj : j = p
    · rw [cj]; exact (a4 z).2
    · exact (e4 (a4 z).1).2 j (Nat.lt_of_le_of_ne (Nat.le_of_lt_succ hj) cj)
theorem ky_1 {d : Nat} {q : Int → mzM → Prop} {w : Wd} {H : Nat → Int} {h pu T : Nat} {O : Nat → Bool} {W : Nat → Int} {st : St} {μ : mzM} {p : Nat} {x4 : Int} {m : mzM} (hW : WOk w) (C : CW μ 0 w) (G : GM μ w) (hH : HC μ (wN w) H) (hh : h < 4096) (hpu : pu < 4096) (hT : T < 4096) (hd : st.2.1 < 4096) (R : YR w H h pu st T O W) (hpn : p < wN w) (c : KyI μ (wN w) h pu T O W st p x4 m)
    (K : ∀ x m', KyI μ (wN w) h pu T O W st (p + 1) x m' → mzWp (d + 2) 109 48 [mzR 16, mzI pu, mzI st.1, mzI T, mzI x, mzI (mzW ((p : Int) + 1)), none] [] m' (mzQi q)) :
    mzWp (d + 2) 109 48 [mzR 16, mzI pu, mzI st.1, mzI T, mzI x4, mzI p, none] [] m (mzQi q) := by
  have hN := hW.1
  have p12 : p < 12 := Nat.lt_of_lt_of_le hpn hN
  obtain ⟨f, e7, e8, e9, e22, hx, e4⟩ := id c
  have hm0 : m 26 0 = wN w := (f 26 0 (by decide) (Or.inl (by decide))).trans C.1
  have Cm := f.nf.ef.cw hN C
  have Gm := f.nf.gm hN G
  have e6p : m 22 p = st.2.2 p := by rw [e22 p hpn, if_neg (Nat.lt_irrefl p)]
  have pb : (0 : Int) ≤ (p : Int) ∧ (p : Int) < 12 := ⟨Int.natCast_nonneg _, Int.ofNat_lt.mpr p12⟩
  have nle : ¬ (m 26 0 ≤ (p : Int)) := by rw [hm0]; exact fun a => absurd (Int.ofNat_le.mp a) (Nat.not_le.mpr hpn)
  have p31 : p < 31 := Nat.lt_trans p12 (by decide)
  have ol31 : oP (wN w) T O p < 2147483648 := Nat.lt_of_lt_of_le oP_lt (Nat.le_trans (pow12 hN) (by decide))
  have hp31 : 2 ^ p < 2147483648 := Nat.lt_of_le_of_lt (pow12 (Nat.le_of_lt p12)) (by decide)
  have hh31 : h < 2147483648 := Nat.lt_trans hh (by decide)
  have d31 : st.2.1 < 2147483648 := Nat.lt_trans hd (by decide)
  have hd12 : h ||| st.2.1 < 4096 := Nat.or_lt_two_pow (n := 12) hh hd
  have t3 : (0 : Int) ≤ wT w p 3 := by
    have := (hW.T hpn (t := 3) (by decide)).1
    have e0 : tlo 3 = 0 := by decide
    rw [e0] at this
    exact this
  have et : m (52 + p) 3 = wT w p 3 := Cm.T hpn (by decide)
  obtain ⟨R1, R2, R3, R4, R5, R6⟩ := R p hpn
  have same : O p = T.testBit p → W p = st.2.2 p → KyI μ (wN w) h pu T O W st (p + 1) x4 m := fun a1 a2 =>
    c.nx ZF.rf (by rw [oP_s a1]; exact e7) rfl (e6p.trans a2.symm) (fun _ _ => rfl) hx (fun z => ⟨z, a1, a2⟩)
  have one : ∀ (v x : Int), O p = T.testBit p → W p = v → (x = 0 ∨ x = 1) → (x = 0 → x4 = 0 ∧ v = st.2.2 p) → KyI μ (wN w) h pu T O W st (p + 1) x (mzS m 22 p v) := fun v x a1 a2 ax a4 =>
    c.nx (ZF.rf.st (Or.inl rfl)) ((S_ne (Or.inl (by decide))).trans (by rw [oP_s a1]; exact e7)) (S_ne (Or.inl (by decide))) (S_eq.trans a2.symm) (fun j hj => S_ne (Or.inr hj)) ax (fun z => ⟨(a4 z).1, a1, a2.trans (a4 z).2⟩)
  refine g109_48 _ _ _ _ _ _ ⟨fun z => absurd z nle, fun _ => ⟨fun z => ?_, fun z => ?_⟩⟩
  · have t := (nAndP hT p12).1 z
    rw [e9, e8, nOr hh31 d31]
    refine ⟨fun y => ?_, fun y => ?_⟩
    · have u := (nAndP hd12 p12).2 y
      exact K _ _ (same ((R4 t u).1.trans t.symm) (R4 t u).2)
    · have u := (nAndP hd12 p12).1 y
      refine k_goes hW Cm Gm hpn hT ((f.nf.hc hH) p hpn) ?_
      cases g : goS w H p T with
      | false =>
        obtain ⟨o1, w2⟩ := R6 t u g
        have eo : O p = T.testBit p := by rw [o1, t, decide_eq_false (Int.not_lt.mpr t3)]
        exact k_walk p12 e6p et (fun c => absurd rfl c) (fun c => absurd rfl c) (fun _ v0 => ⟨fun _ => K _ _ (one 0 x4 eo w2 hx (fun z => ⟨z, v0.symm⟩)), fun c => absurd rfl c⟩) (fun _ v0 => ⟨fun c => absurd c (by decide), fun _ => K _ _ (one 0 1 eo w2 (Or.inr rfl) (fun z => absurd z (by decide)))⟩)
      | true =>
        obtain ⟨o1, w2⟩ := R5 t u g
        refine k_walk p12 e6p et (fun _ y1 => ⟨fun c => absurd c (by decide), fun _ => K _ _ (one _ 1 (by rw [o1, t, decide_eq_false (Int.not_lt.mpr y1)]) w2 (Or.inr rfl) (fun z => absurd z (by decide)))⟩) (fun _ y1 => ⟨fun c => absurd c (by decide), fun _ => K _ _ (c.nx ((ZF.rf.st (Or.inl rfl)).st (Or.inr ⟨rfl, Or.inl rfl⟩)) (S_eq.trans ?_) (by rw [S_ne (Or.inr (by decide)), S_ne (Or.inl (by decide))]) (by rw [S_ne (Or.inl (by decide)), S_eq, w2]) (fun j hj => by rw [S_ne (Or.inl (by decide)), S_ne (Or.inr hj)]) (Or.inr rfl) (fun z => absurd z (by decide)))⟩) (fun c => absurd c (by decide)) (fun c => absurd c (by decide))
        rw [e7, oP_t hpn (by rw [o1, decide_eq_true y1]), nPow p31, nOr ol31 hp31]
  · have t := (nAndP hT p12).2 z
    refine ⟨fun y => ?_, fun y => ?_⟩
    · have u := (nAndP hpu p12).2 y
      exact K _ _ (same ((R1 t u).1.trans t.symm) (R1 t u).2)
    · have u := (nAndP hpu p12).1 y
      refine k_falls hW Cm Gm hpn hT ?_
      rw [Int.toNat_natCast]
      cases fa : faS w p T with
      | true =>
        obtain ⟨o1, w2⟩ := R2 t u fa
        refine ⟨fun c => absurd c (by decide), fun _ => ⟨pb, K _ _ (c.nx ((ZF.rf.st (Or.inr ⟨rfl, Or.inl rfl⟩)).st (Or.inl rfl)) ?_ (by rw [S_ne (Or.inl (by decide)), S_ne (Or.inr (by decide))]) (S_eq.trans w2.symm) (fun j hj => by rw [S_ne (Or.inr hj), S_ne (Or.inl (by decide))]) (Or.inr rfl) (fun z => absurd z (by decide)))⟩⟩
        rw [S_ne (Or.inl (by decide)), S_eq, e7, nPow p31, nNot ol31, oP_f o1]
      | false =>
        exact ⟨fun _ => K _ _ (same ((R3 t u fa).1.trans t.symm) (R3 t u fa).2), fun c => absurd rfl c⟩
