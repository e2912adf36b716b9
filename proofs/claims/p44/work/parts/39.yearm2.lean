/-! THE REFERENCE'S YEAR -/
def YM (μ : mzM) (n h : Nat) (st : St) : Prop := μ 0 13 = st.1 ∧ μ 0 14 = st.2.1 ∧ μ 0 15 = h ∧ ∀ p, p < n → μ 6 p = st.2.2 p
def HM (μ : mzM) (n : Nat) (H : Nat → Int) : Prop := ∀ p, p < n → μ 7 p = H p
def YF (μ μ' : mzM) : Prop := ∀ k j, k ≠ 6 → (k ≠ 0 ∨ (j ≠ 13 ∧ j ≠ 14)) → μ' k j = μ k j
theorem YF.rf {μ : mzM} : YF μ μ := fun _ _ _ _ => rfl
theorem YF.tr {μ μ' μ'' : mzM} (h : YF μ μ') (h2 : YF μ' μ'') : YF μ μ'' := fun a b h1 h3 => (h2 a b h1 h3).trans (h a b h1 h3)
theorem YF.st {μ μ' : mzM} {k j : Nat} {v : Int} (h : YF μ μ') (hs : k = 6 ∨ (k = 0 ∧ (j = 13 ∨ j = 14))) : YF μ (mzS μ' k j v) := fun a b h1 h2 => by
  rw [S_ne (by omega)]
  exact h a b h1 h2
theorem YF.mw {μ μ' : mzM} {w : Wd} (f : YF μ μ') (h : MW μ 1 w) : MW μ' 1 w := h.cg fun j => f 1 j (by omega) (by omega)
theorem YF.hm {μ μ' : mzM} {n : Nat} {H : Nat → Int} (f : YF μ μ') (h : HM μ n H) : HM μ' n H := fun p hp => by rw [f 7 p (by omega) (by omega)]; exact h p hp
/-- who is over when the first p have walked -/
def oP (n T : Nat) (O : Nat → Bool) (p : Nat) : Nat := mk n (fun j => if j < p then O j else T.testBit j)
theorem oP_lt {n T : Nat} {O : Nat → Bool} {p : Nat} : oP n T O p < 2 ^ n := mk_lt _ _
theorem oP_n {n T : Nat} {O : Nat → Bool} : oP n T O n = mk n O := mk_cg fun p hp => by rw [if_pos hp]
theorem oP_0 {n T : Nat} {O : Nat → Bool} (h : T < 2 ^ n) : oP n T O 0 = T := by
  refine Nat.eq_of_testBit_eq (fun i => ?_)
  unfold oP
  rw [mk_bit, if_neg (Nat.not_lt_zero i)]
  by_cases c : i < n
  · rw [decide_eq_true c, Bool.true_and]
  · rw [decide_eq_false c, Bool.false_and, bit_lt h (by omega)]
theorem oP_s {n T : Nat} {O : Nat → Bool} {p : Nat} (e : O p = T.testBit p) : oP n T O (p + 1) = oP n T O p := mk_cg fun j hj => by
  show (if j < p + 1 then _ else _) = if j < p then _ else _
  by_cases c : j < p
  · rw [if_pos c, if_pos (by omega)]
  · rw [if_neg c]
    by_cases c2 : j = p
    · rw [if_pos (by omega), c2]; exact e
    · rw [if_neg (by omega)]
theorem oP_f {n T : Nat} {O : Nat → Bool} {p : Nat} (e : O p = false) : oP n T O (p + 1) = nd (oP n T O p) (2 ^ p) := by
  refine Nat.eq_of_testBit_eq (fun i => ?_)
  unfold oP
  rw [nd_bit, mk_bit, mk_bit, Nat.testBit_two_pow]
  by_cases c2 : i = p
  · rw [if_pos (by omega), c2, e]; simp
  · rw [decide_eq_false (p := p = i) (by omega)]
    by_cases c : i < p
    · rw [if_pos c, if_pos (by omega)]; simp
    · rw [if_neg c, if_neg (by omega)]; simp
theorem oP_t {n T : Nat} {O : Nat → Bool} {p : Nat} (hp : p < n) (e : O p = true) : oP n T O (p + 1) = oP n T O p ||| 2 ^ p := by
  refine Nat.eq_of_testBit_eq (fun i => ?_)
  unfold oP
  rw [Nat.testBit_or, mk_bit, mk_bit, Nat.testBit_two_pow]
  by_cases c2 : i = p
  · rw [if_pos (by omega), c2, e, decide_eq_true hp]; simp
  · rw [decide_eq_false (p := p = i) (by omega)]
    by_cases c : i < p
    · rw [if_pos c, if_pos (by omega)]; simp
    · rw [if_neg c, if_neg (by omega)]; simp
theorem thS_lt {n h pu : Nat} {st : St} (h1 : st.1 < 2 ^ n) (h2 : pu < 2 ^ n) : thS h pu st < 2 ^ n := Nat.or_lt_two_pow h1 (nd_lt (nd_lt h2))
/-- what a year does with each place -/
def YR (w : Wd) (H : Nat → Int) (h pu : Nat) (st : St) (T : Nat) (O : Nat → Bool) (W : Nat → Int) : Prop := ∀ p, p < wN w →
  (T.testBit p = true → pu.testBit p = true → O p = true ∧ W p = st.2.2 p) ∧
  (T.testBit p = true → pu.testBit p = false → faS w p T = true → O p = false ∧ W p = 0) ∧
  (T.testBit p = true → pu.testBit p = false → faS w p T = false → O p = true ∧ W p = st.2.2 p) ∧
  (T.testBit p = false → (h ||| st.2.1).testBit p = true → O p = false ∧ W p = st.2.2 p) ∧
  (T.testBit p = false → (h ||| st.2.1).testBit p = false → goS w H p T = true → O p = decide (wT w p 3 < mzW (st.2.2 p + 1)) ∧ W p = mzW (st.2.2 p + 1)) ∧
  (T.testBit p = false → (h ||| st.2.1).testBit p = false → goS w H p T = false → O p = decide (wT w p 3 < 0) ∧ W p = 0)
theorem yr_R (w : Wd) (H : Nat → Int) (h pu : Nat) (st : St) : YR w H h pu st (thS h pu st) (o1b w H h pu st) (w1S w H h pu st) := by
  intro p _
  refine ⟨fun t u => ?_, fun t u f => ?_, fun t u f => ?_, fun t u => ?_, fun t u g => ?_, fun t u g => ?_⟩
  · unfold o1b w1S
    rw [t, if_pos rfl, if_pos rfl, u]
    exact ⟨rfl, rfl⟩
  · unfold o1b w1S
    rw [t, if_pos rfl, if_pos rfl, u, f]
    exact ⟨rfl, rfl⟩
  · unfold o1b w1S
    rw [t, if_pos rfl, if_pos rfl, u, f]
    exact ⟨rfl, rfl⟩
  · unfold o1b w1S
    rw [t, if_neg (by decide), if_neg (by decide), u]
    exact ⟨rfl, rfl⟩
  · unfold o1b w1S nwS
    rw [t, u, g]
    exact ⟨rfl, rfl⟩
  · unfold o1b w1S nwS
    rw [t, u, g]
    exact ⟨rfl, rfl⟩
/-- what stands before place p walks -/
def CyI (μ0 : mzM) (n h T : Nat) (O : Nat → Bool) (W : Nat → Int) (st : St) (p : Nat) (x4 : Int) (m : mzM) : Prop := YF μ0 m ∧ m 0 13 = oP n T O p ∧ m 0 14 = st.2.1 ∧ m 0 15 = h ∧ (∀ j, j < n → m 6 j = if j < p then W j else st.2.2 j) ∧ (x4 = 0 → ∀ j, j < p → T.testBit j = false → (h ||| st.2.1).testBit j = false → W j = st.2.2 j)
theorem CyI.nx {μ0 : mzM} {n h T : Nat} {O : Nat → Bool} {W : Nat → Int} {st : St} {p : Nat} {x4 x : Int} {m m' : mzM} (c : CyI μ0 n h T O W st p x4 m) (f' : YF m m') (a13 : m' 0 13 = oP n T O (p + 1)) (a14 : m' 0 14 = st.2.1) (a6 : m' 6 p = W p) (an : ∀ j, j ≠ p → m' 6 j = m 6 j) (ax : x = 0 → x4 = 0 ∧ (T.testBit p = false → (h ||| st.2.1).testBit p = false → W p = st.2.2 p)) : CyI μ0 n h T O W st (p + 1) x m' := by
  obtain ⟨f, e13, e14, e15, e6, e4⟩ := c
  refine ⟨f.tr f', a13, a14, (f' 0 15 (by decide) (Or.inr (by decide))).trans e15, fun j hj => ?_, fun z j hj b1 b2 => ?_⟩
  · by_cases cj : j = p
    · rw [cj, if_pos (Nat.lt_succ_self p), a6]
    · rw [an j cj, e6 j hj]
      by_cases c2 : j < p
      · rw [if_pos c2, if_pos (Nat.lt_succ_of_lt c2)]
      · rw [if_neg c2, if_neg (fun c3 => c2 (Nat.lt_of_le_of_ne (Nat.le_of_lt_succ c3) cj))]
  · by_cases cj : j = p
    · rw [cj] at b1 b2 ⊢; exact (ax z).2 b1 b2
    · exact e4 (ax z).1 j (Nat.lt_of_le_of_ne (Nat.le_of_lt_succ hj) cj) b1 b2
theorem CyI.two {μ0 : mzM} {n h T : Nat} {O : Nat → Bool} {W : Nat → Int} {st : St} {p : Nat} {x4 x v o : Int} {m : mzM} (c : CyI μ0 n h T O W st p x4 m) (ho : o = oP n T O (p + 1)) (ws : W p = v) (hx : x = 0 → x4 = 0 ∧ v = st.2.2 p) : CyI μ0 n h T O W st (p + 1) x (mzS (mzS m 6 p v) 0 13 o) :=
  c.nx ((YF.rf.st (Or.inl rfl)).st (Or.inr ⟨rfl, Or.inl rfl⟩)) (S_eq.trans ho) (by rw [S_ne (Or.inr (by decide)), S_ne (Or.inl (by decide))]; exact c.2.2.1) (by rw [S_ne (Or.inl (by decide)), S_eq, ws]) (fun j hj => by rw [S_ne (Or.inl (by decide)), S_ne (Or.inr hj)]) (fun z => ⟨(hx z).1, fun _ _ => ws.trans (hx z).2⟩)
theorem cy_walk {d p n T pu h : Nat} {O : Nat → Bool} {W : Nat → Int} {st : St} {q : Int → mzM → Prop} {μ0 m : mzM} {x4 x v t : Int} (p12 : p < 12) (hpn : p < n) (hn : n ≤ 12) (c : CyI μ0 n h T O W st p x4 m) (et : m 1 (4 + 10 * p + 3) = t)
    (K : ∀ x m', CyI μ0 n h T O W st (p + 1) x m' → mzWp (d + 1) 38 48 [mzR 0, mzI pu, mzI st.1, mzI st.2.1, mzI x, none, mzI T, mzI (mzW ((p : Int) + 1)), none] [] m' (mzQi q))
    (ht : T.testBit p = false) (oe : O p = decide (t < v) ∧ W p = v) (hx : x = 0 → x4 = 0 ∧ v = st.2.2 p) :
    mzCl d 5 [mzR 0, mzI p, mzI 3] (mzS m 6 p v) (mzQi fun r m' => (v ≤ r → mzWp (d + 1) 38 48 [mzR 0, mzI pu, mzI st.1, mzI st.2.1, mzI x, none, mzI T, mzI (mzW ((p : Int) + 1)), none] [] (mzS m' 0 13 (mzOr (m 0 13) 0)) (mzQi q)) ∧ (r < v → mzWp (d + 1) 38 48 [mzR 0, mzI pu, mzI st.1, mzI st.2.1, mzI x, none, mzI T, mzI (mzW ((p : Int) + 1)), none] [] (mzS m' 0 13 (mzOr (m 0 13) (mzShl 1 (p : Int)))) (mzQi q))) := by
  have ol : oP n T O p < 2147483648 := Nat.lt_of_lt_of_le oP_lt (Nat.le_trans (pow12 hn) (by decide))
  have p31 : p < 31 := Nat.lt_trans p12 (by decide)
  have hp31 : 2 ^ p < 2147483648 := Nat.lt_of_le_of_lt (pow12 (Nat.le_of_lt p12)) (by decide)
  refine c_of (t := 3) p12 (by decide) ?_
  rw [S_ne (Or.inl (by decide)), et]
  refine ⟨fun z => K _ _ (c.two ?_ oe.2 hx), fun z => K _ _ (c.two ?_ oe.2 hx)⟩
  · have e2 := nOr (a := oP n T O p) (b := 0) ol (by decide)
    rw [Nat.or_zero] at e2
    rw [oP_s (by rw [oe.1, ht, decide_eq_false (Int.not_lt.mpr z)]), c.2.1]
    exact e2
  · rw [oP_t hpn (by rw [oe.1, decide_eq_true z]), c.2.1, nPow p31, nOr ol hp31]
theorem cy_1 {d : Nat} {q : Int → mzM → Prop} {w : Wd} {H : Nat → Int} {h pu T : Nat} {O : Nat → Bool} {W : Nat → Int} {st : St} {μ0 : mzM} {p : Nat} {x4 : Int} {m : mzM} (hW : WOk w) (I : MW μ0 1 w) (hH : HM μ0 (wN w) H) (hh : h < 4096) (hpu : pu < 4096) (hT : T < 4096) (hd : st.2.1 < 4096) (R : YR w H h pu st T O W) (hpn : p < wN w) (c : CyI μ0 (wN w) h T O W st p x4 m)
    (K : ∀ x m', CyI μ0 (wN w) h T O W st (p + 1) x m' → mzWp (d + 3) 38 48 [mzR 0, mzI pu, mzI st.1, mzI st.2.1, mzI x, none, mzI T, mzI (mzW ((p : Int) + 1)), none] [] m' (mzQi q)) :
    mzWp (d + 3) 38 48 [mzR 0, mzI pu, mzI st.1, mzI st.2.1, mzI x4, none, mzI T, mzI p, none] [] m (mzQi q) := by
  have hN := hW.1
  have p12 : p < 12 := Nat.lt_of_lt_of_le hpn hN
  obtain ⟨f, e13, e14, e15, e6, e4⟩ := id c
  have Im := f.mw I
  have hm0 : m 1 0 = wN w := Im.1
  have e6p : m 6 p = st.2.2 p := by rw [e6 p hpn, if_neg (Nat.lt_irrefl p)]
  have et : m 1 (4 + 10 * p + 3) = wT w p 3 := Im.T hpn (by decide)
  have pb : (0 : Int) ≤ (p : Int) ∧ (p : Int) < 12 := ⟨Int.natCast_nonneg _, Int.ofNat_lt.mpr p12⟩
  have b0 : (0 : Int) ≤ 0 ∧ (0 : Int) < 318 := by decide
  have nle : ¬ (m 1 0 ≤ (p : Int)) := by rw [hm0]; exact fun a => absurd (Int.ofNat_le.mp a) (Nat.not_le.mpr hpn)
  have T31 : T < 2147483648 := Nat.lt_trans hT (by decide)
  have pu31 : pu < 2147483648 := Nat.lt_trans hpu (by decide)
  have p32 : p < 32 := Nat.lt_trans p12 (by decide)
  have p31 : p < 31 := Nat.lt_trans p12 (by decide)
  have ol31 : oP (wN w) T O p < 2147483648 := Nat.lt_of_lt_of_le oP_lt (Nat.le_trans (pow12 hN) (by decide))
  have hp31 : 2 ^ p < 2147483648 := Nat.lt_of_le_of_lt (pow12 (Nat.le_of_lt p12)) (by decide)
  have hh31 : h < 2147483648 := Nat.lt_trans hh (by decide)
  have d31 : st.2.1 < 2147483648 := Nat.lt_trans hd (by decide)
  have hd12 : h ||| st.2.1 < 2147483648 := Nat.or_lt_two_pow (n := 31) hh31 d31
  obtain ⟨R1, R2, R3, R4, R5, R6⟩ := R p hpn
  have same : O p = T.testBit p → W p = st.2.2 p → CyI μ0 (wN w) h T O W st (p + 1) x4 m := fun a1 a2 => c.nx YF.rf (by rw [oP_s a1]; exact e13) e14 (e6p.trans a2.symm) (fun _ _ => rfl) (fun z => ⟨z, fun _ _ => a2⟩)
  refine g38_48 _ _ _ _ _ _ _ ⟨b0, fun z => absurd z nle, fun _ => c_has T31 p32 (fun t => ⟨fun z => absurd z (by decide), fun _ => ?_⟩) (fun t => ⟨fun _ => ?_, fun z => absurd rfl z⟩)⟩
  · refine c_has pu31 p32 (fun u => ⟨fun _ => K _ _ (same ((R1 t u).1.trans t.symm) (R1 t u).2), fun z => absurd z (by decide)⟩) (fun u => ⟨fun z => absurd rfl z, fun _ => c_falls hW Im hpn hT ?_⟩)
    rw [Int.toNat_natCast]
    cases fa : faS w p T with
    | true =>
      obtain ⟨o1, w2⟩ := R2 t u fa
      refine ⟨fun _ => ⟨pb, K _ _ (c.nx ((YF.rf.st (Or.inr ⟨rfl, Or.inl rfl⟩)).st (Or.inl rfl)) ?_ (by rw [S_ne (Or.inl (by decide)), S_ne (Or.inr (by decide))]; exact e14) (by rw [S_eq, w2]) (fun j hj => by rw [S_ne (Or.inr hj), S_ne (Or.inl (by decide))]) (fun z => ⟨z, fun c _ => absurd (t.symm.trans c) (by decide)⟩))⟩, fun z => absurd z (by decide)⟩
      rw [S_ne (Or.inl (by decide)), S_eq, e13, nPow p31, nNot ol31, oP_f o1]
    | false =>
      exact ⟨fun z => absurd rfl z, fun _ => K _ _ (same ((R3 t u fa).1.trans t.symm) (R3 t u fa).2)⟩
  · rw [e15, e14, nOr hh31 d31]
    refine c_has hd12 p32 (fun u => ⟨fun _ => K _ _ (same ((R4 t u).1.trans t.symm) (R4 t u).2), fun z => absurd z (by decide)⟩) (fun u => ⟨fun z => absurd rfl z, fun _ => c_goes hW Im hpn hT ((f.hm hH) p hpn) ?_⟩)
    rw [Int.toNat_natCast, e6p]
    cases g : goS w H p T with
    | false =>
      exact ⟨fun _ => ⟨fun z => ⟨pb, cy_walk p12 hpn hN c et K t (R6 t u g) (fun c => absurd c (by decide))⟩, fun z => ⟨pb, fun z2 => ⟨pb, cy_walk p12 hpn hN c et K t (R6 t u g) (fun _ => ⟨z, z2⟩)⟩, fun z2 => ⟨pb, cy_walk p12 hpn hN c et K t (R6 t u g) (fun c => absurd c (by decide))⟩⟩⟩, fun z => absurd rfl z⟩
    | true =>
      exact ⟨fun z => absurd z (by decide), fun _ => ⟨pb, fun z => ⟨pb, cy_walk p12 hpn hN c et K t (R5 t u g) (fun c => absurd c (by decide))⟩, fun z => ⟨pb, fun z2 => ⟨pb, cy_walk p12 hpn hN c et K t (R5 t u g) (fun _ => ⟨z, z2⟩)⟩, fun z2 => ⟨pb, cy_walk p12 hpn hN c et K t (R5 t u g) (fun c => absurd c (by decide))⟩⟩⟩⟩
theorem cy_l {d : Nat} {q : Int → mzM → Prop} {w : Wd} {H : Nat → Int} {h pu T : Nat} {O : Nat → Bool} {W : Nat → Int} {st : St} {μ0 : mzM} (hW : WOk w) (I : MW μ0 1 w) (hH : HM μ0 (wN w) H) (hh : h < 4096) (hpu : pu < 4096) (hT : T < 4096) (hd : st.2.1 < 4096) (R : YR w H h pu st T O W)
    (hq : ∀ x4 μ', CyI μ0 (wN w) h T O W st (wN w) x4 μ' → mzWp (d + 3) 38 232 [mzR 0, none, mzI st.1, mzI st.2.1, mzI x4, none, none, mzI 0, none] [] μ' (mzQi q)) :
    ∀ (c p : Nat) (x4 : Int) (m : mzM), p + c = wN w → CyI μ0 (wN w) h T O W st p x4 m → mzWp (d + 3) 38 48 [mzR 0, mzI pu, mzI st.1, mzI st.2.1, mzI x4, none, mzI T, mzI p, none] [] m (mzQi q) := by
  have hN := hW.1
  intro c
  induction c with
  | zero =>
    intro p x4 m hp C
    have : p = wN w := by omega
    subst this
    have hm0 : m 1 0 = wN w := (C.1.mw I).1
    exact g38_48 _ _ _ _ _ _ _ ⟨by decide, fun _ => hq x4 m C, fun z => absurd z (by rw [hm0]; exact Int.lt_irrefl _)⟩
  | succ c ih =>
    intro p x4 m hp C
    refine cy_1 hW I hH hh hpu hT hd R (by omega) C (fun x m' C' => ?_)
    rw [w1 (by omega)]
    exact ih (p + 1) x m' (by omega) C'
